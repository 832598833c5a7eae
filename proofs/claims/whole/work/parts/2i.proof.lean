set_option maxRecDepth 4000 in
theorem gM_stopper_LL_ok {l : Launch} {D : va_G} {cI cZ : ClassId} {ad : Nat → Nat} : ∀ (n : Nat), (∀ (v1 : Int32) (v2 : Int32) (v3 : Int32) (v4 : Int32) (v5 : Int32) (z : sg_M) (r : Int32), gM_stopper_LL n 6 v1 v2 v3 v4 v5 z = some r → sg_G (eM l D cI cZ ad) yX12_stopper cX12_stopper 6 (some .int) 5 6 [(0, .ref (ad 0)), (1, .int v1), (2, .int v2), (3, .int v3)] [] z (sg_is (some (.int r)) z)) ∧ (∀ (v1 : Int32) (v2 : Int32) (v3 : Int32) (v4 : Int32) (v5 : Int32) (z : sg_M) (r : Int32), gM_stopper_LL n 20 v1 v2 v3 v4 v5 z = some r → sg_G (eM l D cI cZ ad) yX12_stopper cX12_stopper 6 (some .int) 5 20 [(0, .ref (ad 0)), (1, .int v1), (2, .int v2), (3, .int v3), (4, .int v4), (5, .int v5)] [] z (sg_is (some (.int r)) z)) := by
  intro n
  induction n with
  | zero => exact ⟨(fun _ _ _ _ _ _ _ h => by cases h), (fun _ _ _ _ _ _ _ h => by cases h)⟩
  | succ n ih =>
    refine ⟨?_, ?_⟩
    · intro v1 v2 v3 v4 v5 z r h
      unfold gM_stopper_LL at h
      have h := sg_ifp (show (6 : Nat) = 6 from rfl) h
      refine sg_iload_n (pn := 7) (i := 3) dX12_stopper_6 rfl rfl 3 rfl ?_
      refine sg_aload_n (pn := 8) (i := 0) dX12_stopper_7 rfl rfl 0 rfl ?_
      refine gfM_0_0 (pn := 11) dX12_stopper_8 rfl lf_X12_78 ?_
      refine sg_icmp_ge (pn := 14) (tgt := 90) dX12_stopper_11 rfl (by decide) (fun hc => ?_) (fun hc => ?_)
      · have h := sg_ifp hc h
        refine sg_iload_n (pn := 91) (i := 1) dX12_stopper_90 rfl rfl 1 rfl ?_
        obtain rfl := Option.some.inj h
        exact sg_iret dX12_stopper_91 rfl ⟨rfl, rfl⟩
      · have h := sg_ifn hc h
        refine sg_iconst (pn := 15) dX12_stopper_14 rfl ic_0 ?_
        refine sg_istore (pn := 17) (i := 4) (lv' := [(0, .ref (ad 0)), (1, .int v1), (2, .int v2), (3, .int v3), (4, .int (0 : Int32))]) dX12_stopper_15 rfl (Nat.le_of_ble_eq_true rfl) [1, 2, 3, 4, 0] rfl ?_
        refine sg_iconst (pn := 18) dX12_stopper_17 rfl ic_0 ?_
        refine sg_istore (pn := 20) (i := 5) (lv' := [(0, .ref (ad 0)), (1, .int v1), (2, .int v2), (3, .int v3), (4, .int (0 : Int32)), (5, .int (0 : Int32))]) dX12_stopper_18 rfl (Nat.le_of_ble_eq_true rfl) [1, 2, 3, 4, 5, 0] rfl ?_
        exact ih.2 _ _ _ _ _ _ _ h
    · intro v1 v2 v3 v4 v5 z r h
      unfold gM_stopper_LL at h
      have h := sg_ifn (show ¬ (20 : Nat) = 6 by decide) h
      have h := sg_ifp (show (20 : Nat) = 20 from rfl) h
      refine sg_iload (pn := 22) (i := 5) dX12_stopper_20 rfl 5 rfl ?_
      refine sg_aload_n (pn := 23) (i := 0) dX12_stopper_22 rfl rfl 0 rfl ?_
      refine gfM_0_4 (pn := 26) dX12_stopper_23 rfl lf_X12_85 ?_
      refine sg_icmp_ge (pn := 29) (tgt := 59) dX12_stopper_26 rfl (by decide) (fun hc => ?_) (fun hc => ?_)
      · have h := sg_ifp hc h
        refine sg_iload (pn := 61) (i := 4) dX12_stopper_59 rfl 4 rfl ?_
        refine sg_iload_n (pn := 62) (i := 2) dX12_stopper_61 rfl rfl 2 rfl ?_
        obtain ⟨t1, e_t1, h2⟩ := sg_letJ h
        have hm_t1 : sg_G (eM l D cI cZ ad) yX12_stopper cX12_stopper 6 (some .int) 5 70 [(0, .ref (ad 0)), (2, .int v2), (3, .int v3), (4, .int v4)] [.int t1] z (sg_is (some (.int r)) z) := by
          have h := h2
          refine sg_istore_n (pn := 71) (i := 1) (lv' := [(0, .ref (ad 0)), (1, .int t1), (2, .int v2), (3, .int v3), (4, .int v4)]) dX12_stopper_70 rfl rfl (Nat.le_of_ble_eq_true rfl) [1, 0, 2, 3, 4] rfl ?_
          refine sg_iload (pn := 73) (i := 4) dX12_stopper_71 rfl 4 rfl ?_
          refine sg_iload_n (pn := 74) (i := 2) dX12_stopper_73 rfl rfl 2 rfl ?_
          obtain ⟨t2, e_t2, h2⟩ := sg_letJ h
          have hm_t2 : sg_G (eM l D cI cZ ad) yX12_stopper cX12_stopper 6 (some .int) 5 83 [(0, .ref (ad 0)), (1, .int t1), (3, .int v3)] [.int t2] z (sg_is (some (.int r)) z) := by
            have h := h2
            refine sg_istore_n (pn := 84) (i := 2) (lv' := [(0, .ref (ad 0)), (1, .int t1), (2, .int t2), (3, .int v3)]) dX12_stopper_83 rfl rfl (Nat.le_of_ble_eq_true rfl) [1, 2, 0, 3] rfl ?_
            refine sg_iinc (pn := 87) (i := 3) (lv' := [(0, .ref (ad 0)), (1, .int t1), (2, .int t2), (3, .int (v3 + (1 : Int32)))]) dX12_stopper_84 rfl 3 rfl (ii_1 _) (Nat.le_of_ble_eq_true rfl) [1, 2, 3, 0] rfl ?_
            refine sg_goto (tgt := 6) dX12_stopper_87 (by decide) ?_
            exact ih.1 _ _ _ _ _ _ _ h
          have h := e_t2
          refine sg_icmp_le (pn := 77) (tgt := 82) dX12_stopper_74 rfl (by decide) (fun hc => ?_) (fun hc => ?_)
          · have h := sg_ifp hc h
            refine sg_iload_n (pn := 83) (i := 2) dX12_stopper_82 rfl rfl 2 rfl ?_
            subst h
            refine sg_sub [0, 1, 3] rfl ?_
            exact hm_t2
          · have h := sg_ifn hc h
            refine sg_iload (pn := 79) (i := 4) dX12_stopper_77 rfl 4 rfl ?_
            refine sg_goto (tgt := 83) dX12_stopper_79 (by decide) ?_
            subst h
            refine sg_sub [0, 1, 3] rfl ?_
            exact hm_t2
        have h := e_t1
        refine sg_icmp_le (pn := 65) (tgt := 69) dX12_stopper_62 rfl (by decide) (fun hc => ?_) (fun hc => ?_)
        · have h := sg_ifp hc h
          refine sg_iload_n (pn := 70) (i := 1) dX12_stopper_69 rfl rfl 1 rfl ?_
          subst h
          refine sg_sub [0, 2, 3, 4] rfl ?_
          exact hm_t1
        · have h := sg_ifn hc h
          refine sg_iload_n (pn := 66) (i := 3) dX12_stopper_65 rfl rfl 3 rfl ?_
          refine sg_goto (tgt := 70) dX12_stopper_66 (by decide) ?_
          subst h
          refine sg_sub [0, 2, 3, 4] rfl ?_
          exact hm_t1
      · have h := sg_ifn hc h
        refine sg_iload (pn := 31) (i := 4) dX12_stopper_29 rfl 4 rfl ?_
        refine sg_aload_n (pn := 32) (i := 0) dX12_stopper_31 rfl rfl 0 rfl ?_
        refine sg_iload (pn := 34) (i := 5) dX12_stopper_32 rfl 5 rfl ?_
        refine sg_aload_n (pn := 35) (i := 0) dX12_stopper_34 rfl rfl 0 rfl ?_
        obtain ⟨r3, h_r3, h⟩ := sg_bind h
        refine sg_callVi (pn := 38) (rest := [.int v5, .ref (ad 0), .int v4]) 0 dX12_stopper_35 rfl kb_X12_187 kv_X12_wet (by exact rfl) rfl (Nat.le_of_ble_eq_true rfl) (gM_wet_ok h_r3) rfl rfl (Nat.le_of_ble_eq_true rfl) ?_
        obtain ⟨r4, h_r4, h⟩ := sg_bind h
        refine sg_callVi (pn := 41) (rest := [.int v4]) 0 dX12_stopper_38 rfl kb_X12_190 kv_X12_stopOf (by exact rfl) rfl (Nat.le_of_ble_eq_true rfl) (gM_stopOf_ok h_r4) rfl rfl (Nat.le_of_ble_eq_true rfl) ?_
        refine sg_iload_n (pn := 42) (i := 3) dX12_stopper_41 rfl rfl 3 rfl ?_
        obtain ⟨t5, e_t5, h2⟩ := sg_letJ h
        have hm_t5 : sg_G (eM l D cI cZ ad) yX12_stopper cX12_stopper 6 (some .int) 5 50 [(0, .ref (ad 0)), (1, .int v1), (2, .int v2), (3, .int v3), (5, .int v5)] [.int t5, .int v4] z (sg_is (some (.int r)) z) := by
          have h := h2
          refine sg_iadd (pn := 51) dX12_stopper_50 rfl ?_
          obtain ⟨v4_6, e_v4_6, h⟩ := sg_letE h
          refine sg_topi e_v4_6 ?_
          refine sg_istore (pn := 53) (i := 4) (lv' := [(0, .ref (ad 0)), (1, .int v1), (2, .int v2), (3, .int v3), (4, .int v4_6), (5, .int v5)]) dX12_stopper_51 rfl (Nat.le_of_ble_eq_true rfl) [1, 2, 3, 4, 0, 5] rfl ?_
          refine sg_iinc (pn := 56) (i := 5) (lv' := [(0, .ref (ad 0)), (1, .int v1), (2, .int v2), (3, .int v3), (4, .int v4_6), (5, .int (v5 + (1 : Int32)))]) dX12_stopper_53 rfl 5 rfl (ii_1 _) (Nat.le_of_ble_eq_true rfl) [1, 2, 3, 4, 5, 0] rfl ?_
          refine sg_goto (tgt := 20) dX12_stopper_56 (by decide) ?_
          exact ih.2 _ _ _ _ _ _ _ h
        have h := e_t5
        refine sg_icmp_ne (pn := 45) (tgt := 49) dX12_stopper_42 rfl (by decide) (fun hc => ?_) (fun hc => ?_)
        · have h := sg_ifn hc h
          refine sg_iconst (pn := 50) dX12_stopper_49 rfl ic_0 ?_
          subst h
          refine sg_sub [0, 1, 2, 3, 5] rfl ?_
          exact hm_t5
        · have h := sg_ifp hc h
          refine sg_iconst (pn := 46) dX12_stopper_45 rfl ic_1 ?_
          refine sg_goto (tgt := 50) dX12_stopper_46 (by decide) ?_
          subst h
          refine sg_sub [0, 1, 2, 3, 5] rfl ?_
          exact hm_t5
set_option maxRecDepth 4000 in
theorem gM_stopper_ok {l : Launch} {D : va_G} {cI cZ : ClassId} {ad : Nat → Nat} {n : Nat} {z : sg_M} {r : Int32} (h : gM_stopper n z = some r) : sg_Met (eM l D cI cZ ad) yX12_stopper cX12_stopper 6 (some .int) 5 [.ref (ad 0)] z (sg_is (some (.int r)) z) := by
  refine sg_enter (lv0 := [(0, .ref (ad 0))]) pn_X12 (Nat.le_of_ble_eq_true rfl) rfl ?_
  unfold gM_stopper at h
  refine sg_iconst (pn := 1) dX12_stopper_0 rfl ic_m1 ?_
  refine sg_istore_n (pn := 2) (i := 1) (lv' := [(0, .ref (ad 0)), (1, .int (-1 : Int32))]) dX12_stopper_1 rfl rfl (Nat.le_of_ble_eq_true rfl) [1, 0] rfl ?_
  refine sg_iconst (pn := 3) dX12_stopper_2 rfl ic_0 ?_
  refine sg_istore_n (pn := 4) (i := 2) (lv' := [(0, .ref (ad 0)), (1, .int (-1 : Int32)), (2, .int (0 : Int32))]) dX12_stopper_3 rfl rfl (Nat.le_of_ble_eq_true rfl) [1, 2, 0] rfl ?_
  refine sg_iconst (pn := 5) dX12_stopper_4 rfl ic_0 ?_
  refine sg_istore_n (pn := 6) (i := 3) (lv' := [(0, .ref (ad 0)), (1, .int (-1 : Int32)), (2, .int (0 : Int32)), (3, .int (0 : Int32))]) dX12_stopper_5 rfl rfl (Nat.le_of_ble_eq_true rfl) [1, 2, 3, 0] rfl ?_
  exact (gM_stopper_LL_ok n).1 _ _ _ _ _ _ _ h
set_option maxRecDepth 4000 in
theorem gM_stuckOnes_L_ok {l : Launch} {D : va_G} {cI cZ : ClassId} {ad : Nat → Nat} : ∀ (n : Nat) (v1 : Int32) (v2 : Int32) (z : sg_M) (r : Int32), gM_stuckOnes_L n v1 v2 z = some r → sg_G (eM l D cI cZ ad) yX12_stuckOnes cX12_stuckOnes 3 (some .int) 1 4 [(0, .ref (ad 0)), (1, .int v1), (2, .int v2)] [] z (sg_is (some (.int r)) z) := by
  intro n
  induction n with
  | zero => intro v1 v2 z r h; cases h
  | succ n ih =>
    intro v1 v2 z r h
    unfold gM_stuckOnes_L at h
    refine sg_iload_n (pn := 5) (i := 2) dX12_stuckOnes_4 rfl rfl 2 rfl ?_
    refine sg_aload_n (pn := 6) (i := 0) dX12_stuckOnes_5 rfl rfl 0 rfl ?_
    refine gfM_0_4 (pn := 9) dX12_stuckOnes_6 rfl lf_X12_85 ?_
    refine sg_icmp_ge (pn := 12) (tgt := 41) dX12_stuckOnes_9 rfl (by decide) (fun hc => ?_) (fun hc => ?_)
    · have h := sg_ifp hc h
      refine sg_iload_n (pn := 42) (i := 1) dX12_stuckOnes_41 rfl rfl 1 rfl ?_
      obtain rfl := Option.some.inj h
      exact sg_iret dX12_stuckOnes_42 rfl ⟨rfl, rfl⟩
    · have h := sg_ifn hc h
      refine sg_iload_n (pn := 13) (i := 1) dX12_stuckOnes_12 rfl rfl 1 rfl ?_
      refine sg_aload_n (pn := 14) (i := 0) dX12_stuckOnes_13 rfl rfl 0 rfl ?_
      refine gfM_0_8 (pn := 17) dX12_stuckOnes_14 rfl lf_X12_25 ?_
      refine sg_bipush (pn := 19) dX12_stuckOnes_17 rfl ib_88 ?_
      refine sg_iload_n (pn := 20) (i := 2) dX12_stuckOnes_19 rfl rfl 2 rfl ?_
      refine sg_iadd (pn := 21) dX12_stuckOnes_20 rfl ?_
      obtain ⟨hg, h⟩ := sg_guard h
      refine alM_6 (pn := 22) dX12_stuckOnes_21 rfl (sg_in_vp hg) ?_
      refine sg_iconst (pn := 23) dX12_stuckOnes_22 rfl ic_m1 ?_
      obtain ⟨t1, e_t1, h2⟩ := sg_letJ h
      have hm_t1 : sg_G (eM l D cI cZ ad) yX12_stuckOnes cX12_stuckOnes 3 (some .int) 1 33 [(0, .ref (ad 0)), (2, .int v2)] [.int t1, .int v1] z (sg_is (some (.int r)) z) := by
        have h := h2
        refine sg_ior (pn := 34) dX12_stuckOnes_33 rfl ?_
        obtain ⟨v1_2, e_v1_2, h⟩ := sg_letE h
        refine sg_topi e_v1_2 ?_
        refine sg_istore_n (pn := 35) (i := 1) (lv' := [(0, .ref (ad 0)), (1, .int v1_2), (2, .int v2)]) dX12_stuckOnes_34 rfl rfl (Nat.le_of_ble_eq_true rfl) [1, 0, 2] rfl ?_
        refine sg_iinc (pn := 38) (i := 2) (lv' := [(0, .ref (ad 0)), (1, .int v1_2), (2, .int (v2 + (1 : Int32)))]) dX12_stuckOnes_35 rfl 2 rfl (ii_1 _) (Nat.le_of_ble_eq_true rfl) [1, 2, 0] rfl ?_
        refine sg_goto (tgt := 4) dX12_stuckOnes_38 (by decide) ?_
        exact ih _ _ _ _ h
      have h := e_t1
      refine sg_icmp_eq (pn := 26) (tgt := 32) dX12_stuckOnes_23 rfl (by decide) (fun hc => ?_) (fun hc => ?_)
      · have h := sg_ifp hc h
        refine sg_iconst (pn := 33) dX12_stuckOnes_32 rfl ic_0 ?_
        subst h
        refine sg_sub [0, 2] rfl ?_
        exact hm_t1
      · have h := sg_ifn hc h
        refine sg_iconst (pn := 27) dX12_stuckOnes_26 rfl ic_1 ?_
        refine sg_iload_n (pn := 28) (i := 2) dX12_stuckOnes_27 rfl rfl 2 rfl ?_
        refine sg_ishl (pn := 29) dX12_stuckOnes_28 rfl ?_
        refine sg_goto (tgt := 33) dX12_stuckOnes_29 (by decide) ?_
        subst h
        refine sg_sub [0, 2] rfl ?_
        exact hm_t1
set_option maxRecDepth 4000 in
theorem gM_stuckOnes_ok {l : Launch} {D : va_G} {cI cZ : ClassId} {ad : Nat → Nat} {n : Nat} {z : sg_M} {r : Int32} (h : gM_stuckOnes n z = some r) : sg_Met (eM l D cI cZ ad) yX12_stuckOnes cX12_stuckOnes 3 (some .int) 1 [.ref (ad 0)] z (sg_is (some (.int r)) z) := by
  refine sg_enter (lv0 := [(0, .ref (ad 0))]) pn_X12 (Nat.le_of_ble_eq_true rfl) rfl ?_
  unfold gM_stuckOnes at h
  refine sg_iconst (pn := 1) dX12_stuckOnes_0 rfl ic_0 ?_
  refine sg_istore_n (pn := 2) (i := 1) (lv' := [(0, .ref (ad 0)), (1, .int (0 : Int32))]) dX12_stuckOnes_1 rfl rfl (Nat.le_of_ble_eq_true rfl) [1, 0] rfl ?_
  refine sg_iconst (pn := 3) dX12_stuckOnes_2 rfl ic_0 ?_
  refine sg_istore_n (pn := 4) (i := 2) (lv' := [(0, .ref (ad 0)), (1, .int (0 : Int32)), (2, .int (0 : Int32))]) dX12_stuckOnes_3 rfl rfl (Nat.le_of_ble_eq_true rfl) [1, 2, 0] rfl ?_
  exact gM_stuckOnes_L_ok n _ _ _ _ h
set_option maxRecDepth 4000 in
theorem gM_told_ok {l : Launch} {D : va_G} {cI cZ : ClassId} {ad : Nat → Nat} {n : Nat} {a1 : Int32} {z : sg_M} {r : Int32} (h : gM_told n a1 z = some r) : sg_Met (eM l D cI cZ ad) yX12_told cX12_told 2 (some .int) 6 [.ref (ad 0), .int a1] z (sg_is (some (.int r)) z) := by
  refine sg_enter (lv0 := [(0, .ref (ad 0)), (1, .int a1)]) pn_X12 (Nat.le_of_ble_eq_true rfl) rfl ?_
  unfold gM_told at h
  refine sg_iload_n (pn := 1) (i := 1) dX12_told_0 rfl rfl 1 rfl ?_
  by_cases hk0 : a1 = (0 : Int32)
  · have h := sg_ifp hk0 h
    refine sg_tabIn (tgt := 80) (off := 79) dX12_told_1 (by rw [hk0]; decide) (by rw [hk0]; decide) (by rw [hk0]; rfl) (by decide) ?_
    refine sg_aload_n (pn := 81) (i := 0) dX12_told_80 rfl rfl 0 rfl ?_
    refine gfM_0_0 (pn := 84) dX12_told_81 rfl lf_X12_78 ?_
    obtain rfl := Option.some.inj h
    exact sg_iret dX12_told_84 rfl ⟨rfl, rfl⟩
  · have h := sg_ifn hk0 h
    by_cases hk1 : a1 = (1 : Int32)
    · have h := sg_ifp hk1 h
      refine sg_tabIn (tgt := 85) (off := 84) dX12_told_1 (by rw [hk1]; decide) (by rw [hk1]; decide) (by rw [hk1]; rfl) (by decide) ?_
      refine sg_aload_n (pn := 86) (i := 0) dX12_told_85 rfl rfl 0 rfl ?_
      refine gfM_0_4 (pn := 89) dX12_told_86 rfl lf_X12_85 ?_
      obtain rfl := Option.some.inj h
      exact sg_iret dX12_told_89 rfl ⟨rfl, rfl⟩
    · have h := sg_ifn hk1 h
      by_cases hk2 : a1 = (2 : Int32)
      · have h := sg_ifp hk2 h
        refine sg_tabIn (tgt := 90) (off := 89) dX12_told_1 (by rw [hk2]; decide) (by rw [hk2]; decide) (by rw [hk2]; rfl) (by decide) ?_
        refine sg_aload_n (pn := 91) (i := 0) dX12_told_90 rfl rfl 0 rfl ?_
        refine gfM_0_11 (pn := 94) dX12_told_91 rfl lf_X12_91 ?_
        obtain rfl := Option.some.inj h
        exact sg_iret dX12_told_94 rfl ⟨rfl, rfl⟩
      · have h := sg_ifn hk2 h
        by_cases hk3 : a1 = (3 : Int32)
        · have h := sg_ifp hk3 h
          refine sg_tabIn (tgt := 95) (off := 94) dX12_told_1 (by rw [hk3]; decide) (by rw [hk3]; decide) (by rw [hk3]; rfl) (by decide) ?_
          refine sg_aload_n (pn := 96) (i := 0) dX12_told_95 rfl rfl 0 rfl ?_
          refine gfM_0_8 (pn := 99) dX12_told_96 rfl lf_X12_25 ?_
          refine sg_bipush (pn := 101) dX12_told_99 rfl ib_104 ?_
          refine alM_6 (pn := 102) dX12_told_101 rfl (sg_in_vp (by decide +kernel)) ?_
          obtain rfl := Option.some.inj h
          exact sg_iret dX12_told_102 rfl ⟨rfl, rfl⟩
        · have h := sg_ifn hk3 h
          by_cases hk4 : a1 = (4 : Int32)
          · have h := sg_ifp hk4 h
            refine sg_tabIn (tgt := 103) (off := 102) dX12_told_1 (by rw [hk4]; decide) (by rw [hk4]; decide) (by rw [hk4]; rfl) (by decide) ?_
            refine sg_aload_n (pn := 104) (i := 0) dX12_told_103 rfl rfl 0 rfl ?_
            obtain ⟨r1, h_r1, h⟩ := sg_bind h
            refine sg_callVi (pn := 107) (rest := []) 0 dX12_told_104 rfl kb_X12_187 kv_X12_wet (by exact rfl) rfl (Nat.le_of_ble_eq_true rfl) (gM_wet_ok h_r1) rfl rfl (Nat.le_of_ble_eq_true rfl) ?_
            obtain rfl := Option.some.inj h
            exact sg_iret dX12_told_107 rfl ⟨rfl, rfl⟩
          · have h := sg_ifn hk4 h
            by_cases hk5 : a1 = (5 : Int32)
            · have h := sg_ifp hk5 h
              refine sg_tabIn (tgt := 108) (off := 107) dX12_told_1 (by rw [hk5]; decide) (by rw [hk5]; decide) (by rw [hk5]; rfl) (by decide) ?_
              refine sg_aload_n (pn := 109) (i := 0) dX12_told_108 rfl rfl 0 rfl ?_
              refine gfM_0_8 (pn := 112) dX12_told_109 rfl lf_X12_25 ?_
              refine sg_bipush (pn := 114) dX12_told_112 rfl ib_105 ?_
              refine alM_6 (pn := 115) dX12_told_114 rfl (sg_in_vp (by decide +kernel)) ?_
              obtain rfl := Option.some.inj h
              exact sg_iret dX12_told_115 rfl ⟨rfl, rfl⟩
            · have h := sg_ifn hk5 h
              by_cases hk6 : a1 = (6 : Int32)
              · have h := sg_ifp hk6 h
                refine sg_tabIn (tgt := 116) (off := 115) dX12_told_1 (by rw [hk6]; decide) (by rw [hk6]; decide) (by rw [hk6]; rfl) (by decide) ?_
                refine sg_aload_n (pn := 117) (i := 0) dX12_told_116 rfl rfl 0 rfl ?_
                obtain ⟨r2, h_r2, h⟩ := sg_bind h
                refine sg_callVi (pn := 120) (rest := []) 0 dX12_told_117 rfl kb_X12_198 kv_X12_towns (by exact rfl) rfl (Nat.le_of_ble_eq_true rfl) (gM_towns_ok h_r2) rfl rfl (Nat.le_of_ble_eq_true rfl) ?_
                obtain rfl := Option.some.inj h
                exact sg_iret dX12_told_120 rfl ⟨rfl, rfl⟩
              · have h := sg_ifn hk6 h
                by_cases hk7 : a1 = (7 : Int32)
                · have h := sg_ifp hk7 h
                  refine sg_tabIn (tgt := 121) (off := 120) dX12_told_1 (by rw [hk7]; decide) (by rw [hk7]; decide) (by rw [hk7]; rfl) (by decide) ?_
                  refine sg_aload_n (pn := 122) (i := 0) dX12_told_121 rfl rfl 0 rfl ?_
                  obtain ⟨r3, h_r3, h⟩ := sg_bind h
                  refine sg_callVi (pn := 125) (rest := []) 0 dX12_told_122 rfl kb_X12_204 kv_X12_stuckOnes (by exact rfl) rfl (Nat.le_of_ble_eq_true rfl) (gM_stuckOnes_ok h_r3) rfl rfl (Nat.le_of_ble_eq_true rfl) ?_
                  obtain rfl := Option.some.inj h
                  exact sg_iret dX12_told_125 rfl ⟨rfl, rfl⟩
                · have h := sg_ifn hk7 h
                  by_cases hk8 : a1 = (8 : Int32)
                  · have h := sg_ifp hk8 h
                    refine sg_tabIn (tgt := 126) (off := 125) dX12_told_1 (by rw [hk8]; decide) (by rw [hk8]; decide) (by rw [hk8]; rfl) (by decide) ?_
                    refine sg_aload_n (pn := 127) (i := 0) dX12_told_126 rfl rfl 0 rfl ?_
                    obtain ⟨r4, h_r4, h⟩ := sg_bind h
                    refine sg_callVi (pn := 130) (rest := []) 0 dX12_told_127 rfl kb_X12_207 kv_X12_stopper (by exact rfl) rfl (Nat.le_of_ble_eq_true rfl) (gM_stopper_ok h_r4) rfl rfl (Nat.le_of_ble_eq_true rfl) ?_
                    obtain rfl := Option.some.inj h
                    exact sg_iret dX12_told_130 rfl ⟨rfl, rfl⟩
                  · have h := sg_ifn hk8 h
                    by_cases hk9 : a1 = (9 : Int32)
                    · have h := sg_ifp hk9 h
                      refine sg_tabIn (tgt := 131) (off := 130) dX12_told_1 (by rw [hk9]; decide) (by rw [hk9]; decide) (by rw [hk9]; rfl) (by decide) ?_
                      refine sg_aload_n (pn := 132) (i := 0) dX12_told_131 rfl rfl 0 rfl ?_
                      obtain ⟨r5, h_r5, h⟩ := sg_bind h
                      refine sg_callVi (pn := 135) (rest := []) 0 dX12_told_132 rfl kb_X12_210 kv_X12_farOf (by exact rfl) rfl (Nat.le_of_ble_eq_true rfl) (gM_farOf_ok h_r5) rfl rfl (Nat.le_of_ble_eq_true rfl) ?_
                      obtain rfl := Option.some.inj h
                      exact sg_iret dX12_told_135 rfl ⟨rfl, rfl⟩
                    · have h := sg_ifn hk9 h
                      by_cases hk10 : a1 = (10 : Int32)
                      · have h := sg_ifp hk10 h
                        refine sg_tabIn (tgt := 136) (off := 135) dX12_told_1 (by rw [hk10]; decide) (by rw [hk10]; decide) (by rw [hk10]; rfl) (by decide) ?_
                        refine sg_aload_n (pn := 137) (i := 0) dX12_told_136 rfl rfl 0 rfl ?_
                        obtain ⟨r6, h_r6, h⟩ := sg_bind h
                        refine sg_callVi (pn := 140) (rest := []) 0 dX12_told_137 rfl kb_X12_213 kv_X12_longest (by exact rfl) rfl (Nat.le_of_ble_eq_true rfl) (gM_longest_ok h_r6) rfl rfl (Nat.le_of_ble_eq_true rfl) ?_
                        obtain rfl := Option.some.inj h
                        exact sg_iret dX12_told_140 rfl ⟨rfl, rfl⟩
                      · have h := sg_ifn hk10 h
                        by_cases hk11 : a1 = (11 : Int32)
                        · have h := sg_ifp hk11 h
                          refine sg_tabIn (tgt := 141) (off := 140) dX12_told_1 (by rw [hk11]; decide) (by rw [hk11]; decide) (by rw [hk11]; rfl) (by decide) ?_
                          refine sg_aload_n (pn := 142) (i := 0) dX12_told_141 rfl rfl 0 rfl ?_
                          obtain ⟨r7, h_r7, h⟩ := sg_bind h
                          refine sg_callVi (pn := 145) (rest := []) 0 dX12_told_142 rfl kb_X12_216 kv_X12_biggest (by exact rfl) rfl (Nat.le_of_ble_eq_true rfl) (gM_biggest_ok h_r7) rfl rfl (Nat.le_of_ble_eq_true rfl) ?_
                          obtain rfl := Option.some.inj h
                          exact sg_iret dX12_told_145 rfl ⟨rfl, rfl⟩
                        · have h := sg_ifn hk11 h
                          by_cases hk12 : a1 = (12 : Int32)
                          · have h := sg_ifp hk12 h
                            refine sg_tabIn (tgt := 146) (off := 145) dX12_told_1 (by rw [hk12]; decide) (by rw [hk12]; decide) (by rw [hk12]; rfl) (by decide) ?_
                            refine sg_aload_n (pn := 147) (i := 0) dX12_told_146 rfl rfl 0 rfl ?_
                            obtain ⟨r8, h_r8, h⟩ := sg_bind h
                            refine sg_callVi (pn := 150) (rest := []) 0 dX12_told_147 rfl kb_X12_219 kv_X12_allFolk (by exact rfl) rfl (Nat.le_of_ble_eq_true rfl) (gM_allFolk_ok h_r8) rfl rfl (Nat.le_of_ble_eq_true rfl) ?_
                            obtain rfl := Option.some.inj h
                            exact sg_iret dX12_told_150 rfl ⟨rfl, rfl⟩
                          · have h := sg_ifn hk12 h
                            by_cases hk13 : a1 = (13 : Int32)
                            · have h := sg_ifp hk13 h
                              refine sg_tabIn (tgt := 151) (off := 150) dX12_told_1 (by rw [hk13]; decide) (by rw [hk13]; decide) (by rw [hk13]; rfl) (by decide) ?_
                              refine sg_aload_n (pn := 152) (i := 0) dX12_told_151 rfl rfl 0 rfl ?_
                              refine gfM_0_27 (pn := 155) dX12_told_152 rfl lf_X12_154 ?_
                              obtain rfl := Option.some.inj h
                              exact sg_iret dX12_told_155 rfl ⟨rfl, rfl⟩
                            · have h := sg_ifn hk13 h
                              by_cases hk14 : a1 = (14 : Int32)
                              · have h := sg_ifp hk14 h
                                refine sg_tabIn (tgt := 156) (off := 155) dX12_told_1 (by rw [hk14]; decide) (by rw [hk14]; decide) (by rw [hk14]; rfl) (by decide) ?_
                                refine sg_aload_n (pn := 157) (i := 0) dX12_told_156 rfl rfl 0 rfl ?_
                                refine gfM_0_31 (pn := 160) dX12_told_157 rfl lf_X12_157 ?_
                                obtain rfl := Option.some.inj h
                                exact sg_iret dX12_told_160 rfl ⟨rfl, rfl⟩
                              · have h := sg_ifn hk14 h
                                by_cases hk15 : a1 = (15 : Int32)
                                · have h := sg_ifp hk15 h
                                  refine sg_tabIn (tgt := 161) (off := 160) dX12_told_1 (by rw [hk15]; decide) (by rw [hk15]; decide) (by rw [hk15]; rfl) (by decide) ?_
                                  refine sg_aload_n (pn := 162) (i := 0) dX12_told_161 rfl rfl 0 rfl ?_
                                  refine gfM_0_24 (pn := 165) dX12_told_162 rfl lf_X12_160 ?_
                                  obtain rfl := Option.some.inj h
                                  exact sg_iret dX12_told_165 rfl ⟨rfl, rfl⟩
                                · have h := sg_ifn hk15 h
                                  refine sg_tabOut (tgt := 166) dX12_told_1 (by have q0 := lv_neT hk0 (show (0 : Int32).toInt = 0 from rfl); have q1 := lv_neT hk1 (show (1 : Int32).toInt = 1 from rfl); have q2 := lv_neT hk2 (show (2 : Int32).toInt = 2 from rfl); have q3 := lv_neT hk3 (show (3 : Int32).toInt = 3 from rfl); have q4 := lv_neT hk4 (show (4 : Int32).toInt = 4 from rfl); have q5 := lv_neT hk5 (show (5 : Int32).toInt = 5 from rfl); have q6 := lv_neT hk6 (show (6 : Int32).toInt = 6 from rfl); have q7 := lv_neT hk7 (show (7 : Int32).toInt = 7 from rfl); have q8 := lv_neT hk8 (show (8 : Int32).toInt = 8 from rfl); have q9 := lv_neT hk9 (show (9 : Int32).toInt = 9 from rfl); have q10 := lv_neT hk10 (show (10 : Int32).toInt = 10 from rfl); have q11 := lv_neT hk11 (show (11 : Int32).toInt = 11 from rfl); have q12 := lv_neT hk12 (show (12 : Int32).toInt = 12 from rfl); have q13 := lv_neT hk13 (show (13 : Int32).toInt = 13 from rfl); have q14 := lv_neT hk14 (show (14 : Int32).toInt = 14 from rfl); have q15 := lv_neT hk15 (show (15 : Int32).toInt = 15 from rfl); omega) (by decide) ?_
                                  refine sg_ldc (pn := 168) dX12_told_166 rfl kc_X12_90 ?_
                                  obtain rfl := Option.some.inj h
                                  exact sg_iret dX12_told_168 rfl ⟨rfl, rfl⟩
set_option maxRecDepth 4000 in
theorem gM_isCell_ok {l : Launch} {D : va_G} {cI cZ : ClassId} {ad : Nat → Nat} {a1 : Int32} {z : sg_M} {r : Int32} (h : gM_isCell a1 z = r) : sg_Met (eM l D cI cZ ad) yX12_isCell cX12_isCell 2 (some .boolean) 2 [.ref (ad 0), .int a1] z (sg_is (some (.int r)) z) := by
  refine sg_enter (lv0 := [(0, .ref (ad 0)), (1, .int a1)]) pn_X12 (Nat.le_of_ble_eq_true rfl) rfl ?_
  unfold gM_isCell at h
  refine sg_iload_n (pn := 1) (i := 1) dX12_isCell_0 rfl rfl 1 rfl ?_
  refine sg_i2l (pn := 2) dX12_isCell_1 rfl ?_
  refine sg_lconst (pn := 3) dX12_isCell_2 rfl lc_0 ?_
  refine sg_aload_n (pn := 4) (i := 0) dX12_isCell_3 rfl rfl 0 rfl ?_
  refine gfM_0_0 (pn := 7) dX12_isCell_4 rfl lf_X12_78 ?_
  refine sg_iconst (pn := 8) dX12_isCell_7 rfl ic_1 ?_
  refine sg_isub (pn := 9) dX12_isCell_8 rfl ?_
  refine sg_i2l (pn := 10) dX12_isCell_9 rfl ?_
  refine sg_callSi (pn := 13) (rest := []) dX12_isCell_10 rfl kb_X12_81 ks_X12_in (Nat.le_of_ble_eq_true rfl) (gM_in_ok rfl) rfl rfl (Nat.le_of_ble_eq_true rfl) ?_
  subst h
  exact sg_zret dX12_isCell_13 rfl (sg_bool_n (gM_in_b)) ⟨rfl, rfl⟩
set_option maxRecDepth 4000 in
theorem gM_cell_ok {l : Launch} {D : va_G} {cI cZ : ClassId} {ad : Nat → Nat} {a1 : Int32} {a2 : Int32} {z : sg_M} {r : Int32} (h : gM_cell a1 a2 z = some r) : sg_Met (eM l D cI cZ ad) yX12_cell cX12_cell 3 (some .int) 3 [.ref (ad 0), .int a1, .int a2] z (sg_is (some (.int r)) z) := by
  refine sg_enter (lv0 := [(0, .ref (ad 0)), (1, .int a1), (2, .int a2)]) pn_X12 (Nat.le_of_ble_eq_true rfl) rfl ?_
  unfold gM_cell at h
  refine sg_aload_n (pn := 1) (i := 0) dX12_cell_0 rfl rfl 0 rfl ?_
  refine sg_iload_n (pn := 2) (i := 1) dX12_cell_1 rfl rfl 1 rfl ?_
  refine sg_callVi (pn := 5) (rest := []) 0 dX12_cell_2 rfl kb_X12_222 kv_X12_isCell (by exact rfl) rfl (Nat.le_of_ble_eq_true rfl) (gM_isCell_ok rfl) rfl rfl (Nat.le_of_ble_eq_true rfl) ?_
  refine sg_if_ne (pn := 8) (tgt := 11) dX12_cell_5 rfl (by decide) (fun hc => ?_) (fun hc => ?_)
  · have h := sg_ifn hc h
    refine sg_iload_n (pn := 12) (i := 2) dX12_cell_11 rfl rfl 2 rfl ?_
    by_cases hk0 : a2 = (0 : Int32)
    · have h := sg_ifp hk0 h
      refine sg_tabIn (tgt := 48) (off := 36) dX12_cell_12 (by rw [hk0]; decide) (by rw [hk0]; decide) (by rw [hk0]; rfl) (by decide) ?_
      refine sg_aload_n (pn := 49) (i := 0) dX12_cell_48 rfl rfl 0 rfl ?_
      refine gfM_0_1 (pn := 52) dX12_cell_49 rfl lf_X12_7 ?_
      refine sg_iload_n (pn := 53) (i := 1) dX12_cell_52 rfl rfl 1 rfl ?_
      obtain ⟨hg, h⟩ := sg_guard h
      refine alM_1 (pn := 54) dX12_cell_53 rfl (sg_in_vp hg) ?_
      obtain rfl := Option.some.inj h
      exact sg_iret dX12_cell_54 rfl ⟨rfl, rfl⟩
    · have h := sg_ifn hk0 h
      by_cases hk1 : a2 = (1 : Int32)
      · have h := sg_ifp hk1 h
        refine sg_tabIn (tgt := 55) (off := 43) dX12_cell_12 (by rw [hk1]; decide) (by rw [hk1]; decide) (by rw [hk1]; rfl) (by decide) ?_
        refine sg_aload_n (pn := 56) (i := 0) dX12_cell_55 rfl rfl 0 rfl ?_
        refine gfM_0_8 (pn := 59) dX12_cell_56 rfl lf_X12_25 ?_
        refine sg_iload_n (pn := 60) (i := 1) dX12_cell_59 rfl rfl 1 rfl ?_
        obtain ⟨hg, h⟩ := sg_guard h
        refine alM_6 (pn := 61) dX12_cell_60 rfl (sg_in_vp hg) ?_
        obtain rfl := Option.some.inj h
        exact sg_iret dX12_cell_61 rfl ⟨rfl, rfl⟩
      · have h := sg_ifn hk1 h
        by_cases hk2 : a2 = (2 : Int32)
        · have h := sg_ifp hk2 h
          refine sg_tabIn (tgt := 62) (off := 50) dX12_cell_12 (by rw [hk2]; decide) (by rw [hk2]; decide) (by rw [hk2]; rfl) (by decide) ?_
          refine sg_aload_n (pn := 63) (i := 0) dX12_cell_62 rfl rfl 0 rfl ?_
          refine gfM_0_8 (pn := 66) dX12_cell_63 rfl lf_X12_25 ?_
          refine sg_bipush (pn := 68) dX12_cell_66 rfl ib_20 ?_
          refine sg_iload_n (pn := 69) (i := 1) dX12_cell_68 rfl rfl 1 rfl ?_
          refine sg_iadd (pn := 70) dX12_cell_69 rfl ?_
          obtain ⟨hg, h⟩ := sg_guard h
          refine alM_6 (pn := 71) dX12_cell_70 rfl (sg_in_vp hg) ?_
          obtain rfl := Option.some.inj h
          exact sg_iret dX12_cell_71 rfl ⟨rfl, rfl⟩
        · have h := sg_ifn hk2 h
          by_cases hk3 : a2 = (3 : Int32)
          · have h := sg_ifp hk3 h
            refine sg_tabIn (tgt := 72) (off := 60) dX12_cell_12 (by rw [hk3]; decide) (by rw [hk3]; decide) (by rw [hk3]; rfl) (by decide) ?_
            refine sg_aload_n (pn := 73) (i := 0) dX12_cell_72 rfl rfl 0 rfl ?_
            refine gfM_0_8 (pn := 76) dX12_cell_73 rfl lf_X12_25 ?_
            refine sg_bipush (pn := 78) dX12_cell_76 rfl ib_40 ?_
            refine sg_iload_n (pn := 79) (i := 1) dX12_cell_78 rfl rfl 1 rfl ?_
            refine sg_iadd (pn := 80) dX12_cell_79 rfl ?_
            obtain ⟨hg, h⟩ := sg_guard h
            refine alM_6 (pn := 81) dX12_cell_80 rfl (sg_in_vp hg) ?_
            obtain rfl := Option.some.inj h
            exact sg_iret dX12_cell_81 rfl ⟨rfl, rfl⟩
          · have h := sg_ifn hk3 h
            by_cases hk4 : a2 = (4 : Int32)
            · have h := sg_ifp hk4 h
              refine sg_tabIn (tgt := 82) (off := 70) dX12_cell_12 (by rw [hk4]; decide) (by rw [hk4]; decide) (by rw [hk4]; rfl) (by decide) ?_
              refine sg_aload_n (pn := 83) (i := 0) dX12_cell_82 rfl rfl 0 rfl ?_
              refine sg_iload_n (pn := 84) (i := 1) dX12_cell_83 rfl rfl 1 rfl ?_
              obtain ⟨r1, h_r1, h⟩ := sg_bind h
              refine sg_callVi (pn := 87) (rest := []) 0 dX12_cell_84 rfl kb_X12_183 kv_X12_isTown (by exact rfl) rfl (Nat.le_of_ble_eq_true rfl) (gM_isTown_ok h_r1) rfl rfl (Nat.le_of_ble_eq_true rfl) ?_
              refine sg_if_eq (pn := 90) (tgt := 102) dX12_cell_87 rfl (by decide) (fun hc => ?_) (fun hc => ?_)
              · have h := sg_ifp hc h
                refine sg_iconst (pn := 103) dX12_cell_102 rfl ic_m1 ?_
                obtain rfl := Option.some.inj h
                exact sg_iret dX12_cell_103 rfl ⟨rfl, rfl⟩
              · have h := sg_ifn hc h
                refine sg_aload_n (pn := 91) (i := 0) dX12_cell_90 rfl rfl 0 rfl ?_
                refine gfM_0_8 (pn := 94) dX12_cell_91 rfl lf_X12_25 ?_
                refine sg_bipush (pn := 96) dX12_cell_94 rfl ib_60 ?_
                refine sg_iload_n (pn := 97) (i := 1) dX12_cell_96 rfl rfl 1 rfl ?_
                refine sg_iadd (pn := 98) dX12_cell_97 rfl ?_
                obtain ⟨hg, h⟩ := sg_guard h
                refine alM_6 (pn := 99) dX12_cell_98 rfl (sg_in_vp hg) ?_
                refine sg_goto (tgt := 103) dX12_cell_99 (by decide) ?_
                obtain rfl := Option.some.inj h
                exact sg_iret dX12_cell_103 rfl ⟨rfl, rfl⟩
            · have h := sg_ifn hk4 h
              refine sg_tabOut (tgt := 104) dX12_cell_12 (by have q0 := lv_neT hk0 (show (0 : Int32).toInt = 0 from rfl); have q1 := lv_neT hk1 (show (1 : Int32).toInt = 1 from rfl); have q2 := lv_neT hk2 (show (2 : Int32).toInt = 2 from rfl); have q3 := lv_neT hk3 (show (3 : Int32).toInt = 3 from rfl); have q4 := lv_neT hk4 (show (4 : Int32).toInt = 4 from rfl); omega) (by decide) ?_
              refine sg_ldc (pn := 106) dX12_cell_104 rfl kc_X12_90 ?_
              obtain rfl := Option.some.inj h
              exact sg_iret dX12_cell_106 rfl ⟨rfl, rfl⟩
  · have h := sg_ifp hc h
    refine sg_ldc (pn := 10) dX12_cell_8 rfl kc_X12_225 ?_
    obtain rfl := Option.some.inj h
    exact sg_iret dX12_cell_10 rfl ⟨rfl, rfl⟩
set_option maxRecDepth 4000 in
theorem gM_isCart_ok {l : Launch} {D : va_G} {cI cZ : ClassId} {ad : Nat → Nat} {a1 : Int32} {z : sg_M} {r : Int32} (h : gM_isCart a1 z = r) : sg_Met (eM l D cI cZ ad) yX12_isCart cX12_isCart 2 (some .boolean) 2 [.ref (ad 0), .int a1] z (sg_is (some (.int r)) z) := by
  refine sg_enter (lv0 := [(0, .ref (ad 0)), (1, .int a1)]) pn_X12 (Nat.le_of_ble_eq_true rfl) rfl ?_
  unfold gM_isCart at h
  refine sg_iload_n (pn := 1) (i := 1) dX12_isCart_0 rfl rfl 1 rfl ?_
  refine sg_i2l (pn := 2) dX12_isCart_1 rfl ?_
  refine sg_lconst (pn := 3) dX12_isCart_2 rfl lc_0 ?_
  refine sg_aload_n (pn := 4) (i := 0) dX12_isCart_3 rfl rfl 0 rfl ?_
  refine gfM_0_4 (pn := 7) dX12_isCart_4 rfl lf_X12_85 ?_
  refine sg_iconst (pn := 8) dX12_isCart_7 rfl ic_1 ?_
  refine sg_isub (pn := 9) dX12_isCart_8 rfl ?_
  refine sg_i2l (pn := 10) dX12_isCart_9 rfl ?_
  refine sg_callSi (pn := 13) (rest := []) dX12_isCart_10 rfl kb_X12_81 ks_X12_in (Nat.le_of_ble_eq_true rfl) (gM_in_ok rfl) rfl rfl (Nat.le_of_ble_eq_true rfl) ?_
  subst h
  exact sg_zret dX12_isCart_13 rfl (sg_bool_n (gM_in_b)) ⟨rfl, rfl⟩
set_option maxRecDepth 4000 in
theorem gM_mayorOf_L_ok {l : Launch} {D : va_G} {cI cZ : ClassId} {ad : Nat → Nat} : ∀ (n : Nat) (v1 : Int32) (v2 : Int32) (z : sg_M) (r : Int32), gM_mayorOf_L n v1 v2 z = some r → sg_G (eM l D cI cZ ad) yX12_mayorOf cX12_mayorOf 3 (some .int) 1 2 [(0, .ref (ad 0)), (1, .int v1), (2, .int v2)] [] z (sg_is (some (.int r)) z) := by
  intro n
  induction n with
  | zero => intro v1 v2 z r h; cases h
  | succ n ih =>
    intro v1 v2 z r h
    unfold gM_mayorOf_L at h
    refine sg_iload_n (pn := 3) (i := 2) dX12_mayorOf_2 rfl rfl 2 rfl ?_
    refine sg_aload_n (pn := 4) (i := 0) dX12_mayorOf_3 rfl rfl 0 rfl ?_
    refine gfM_0_0 (pn := 7) dX12_mayorOf_4 rfl lf_X12_78 ?_
    refine sg_icmp_ge (pn := 10) (tgt := 31) dX12_mayorOf_7 rfl (by decide) (fun hc => ?_) (fun hc => ?_)
    · have h := sg_ifp hc h
      refine sg_iconst (pn := 32) dX12_mayorOf_31 rfl ic_m1 ?_
      obtain rfl := Option.some.inj h
      exact sg_iret dX12_mayorOf_32 rfl ⟨rfl, rfl⟩
    · have h := sg_ifn hc h
      refine sg_aload_n (pn := 11) (i := 0) dX12_mayorOf_10 rfl rfl 0 rfl ?_
      refine gfM_0_8 (pn := 14) dX12_mayorOf_11 rfl lf_X12_25 ?_
      refine sg_bipush (pn := 16) dX12_mayorOf_14 rfl ib_40 ?_
      refine sg_iload_n (pn := 17) (i := 2) dX12_mayorOf_16 rfl rfl 2 rfl ?_
      refine sg_iadd (pn := 18) dX12_mayorOf_17 rfl ?_
      obtain ⟨hg, h⟩ := sg_guard h
      refine alM_6 (pn := 19) dX12_mayorOf_18 rfl (sg_in_vp hg) ?_
      refine sg_iload_n (pn := 20) (i := 1) dX12_mayorOf_19 rfl rfl 1 rfl ?_
      refine sg_icmp_ne (pn := 23) (tgt := 25) dX12_mayorOf_20 rfl (by decide) (fun hc => ?_) (fun hc => ?_)
      · have h := sg_ifn hc h
        refine sg_iinc (pn := 28) (i := 2) (lv' := [(0, .ref (ad 0)), (1, .int v1), (2, .int (v2 + (1 : Int32)))]) dX12_mayorOf_25 rfl 2 rfl (ii_1 _) (Nat.le_of_ble_eq_true rfl) [1, 2, 0] rfl ?_
        refine sg_goto (tgt := 2) dX12_mayorOf_28 (by decide) ?_
        exact ih _ _ _ _ h
      · have h := sg_ifp hc h
        refine sg_iload_n (pn := 24) (i := 2) dX12_mayorOf_23 rfl rfl 2 rfl ?_
        obtain rfl := Option.some.inj h
        exact sg_iret dX12_mayorOf_24 rfl ⟨rfl, rfl⟩
set_option maxRecDepth 4000 in
theorem gM_mayorOf_ok {l : Launch} {D : va_G} {cI cZ : ClassId} {ad : Nat → Nat} {n : Nat} {a1 : Int32} {z : sg_M} {r : Int32} (h : gM_mayorOf n a1 z = some r) : sg_Met (eM l D cI cZ ad) yX12_mayorOf cX12_mayorOf 3 (some .int) 1 [.ref (ad 0), .int a1] z (sg_is (some (.int r)) z) := by
  refine sg_enter (lv0 := [(0, .ref (ad 0)), (1, .int a1)]) pn_X12 (Nat.le_of_ble_eq_true rfl) rfl ?_
  unfold gM_mayorOf at h
  refine sg_iconst (pn := 1) dX12_mayorOf_0 rfl ic_0 ?_
  refine sg_istore_n (pn := 2) (i := 2) (lv' := [(0, .ref (ad 0)), (1, .int a1), (2, .int (0 : Int32))]) dX12_mayorOf_1 rfl rfl (Nat.le_of_ble_eq_true rfl) [1, 2, 0] rfl ?_
  exact gM_mayorOf_L_ok n _ _ _ _ h
set_option maxRecDepth 4000 in
theorem gM_cart_ok {l : Launch} {D : va_G} {cI cZ : ClassId} {ad : Nat → Nat} {n : Nat} {a1 : Int32} {a2 : Int32} {z : sg_M} {r : Int32} (h : gM_cart n a1 a2 z = some r) : sg_Met (eM l D cI cZ ad) yX12_cart cX12_cart 3 (some .int) 3 [.ref (ad 0), .int a1, .int a2] z (sg_is (some (.int r)) z) := by
  refine sg_enter (lv0 := [(0, .ref (ad 0)), (1, .int a1), (2, .int a2)]) pn_X12 (Nat.le_of_ble_eq_true rfl) rfl ?_
  unfold gM_cart at h
  refine sg_aload_n (pn := 1) (i := 0) dX12_cart_0 rfl rfl 0 rfl ?_
  refine sg_iload_n (pn := 2) (i := 1) dX12_cart_1 rfl rfl 1 rfl ?_
  refine sg_callVi (pn := 5) (rest := []) 0 dX12_cart_2 rfl kb_X12_226 kv_X12_isCart (by exact rfl) rfl (Nat.le_of_ble_eq_true rfl) (gM_isCart_ok rfl) rfl rfl (Nat.le_of_ble_eq_true rfl) ?_
  refine sg_if_ne (pn := 8) (tgt := 11) dX12_cart_5 rfl (by decide) (fun hc => ?_) (fun hc => ?_)
  · have h := sg_ifn hc h
    refine sg_iload_n (pn := 12) (i := 2) dX12_cart_11 rfl rfl 2 rfl ?_
    by_cases hk0 : a2 = (0 : Int32)
    · have h := sg_ifp hk0 h
      refine sg_tabIn (tgt := 52) (off := 40) dX12_cart_12 (by rw [hk0]; decide) (by rw [hk0]; decide) (by rw [hk0]; rfl) (by decide) ?_
      refine sg_aload_n (pn := 53) (i := 0) dX12_cart_52 rfl rfl 0 rfl ?_
      refine gfM_0_5 (pn := 56) dX12_cart_53 rfl lf_X12_16 ?_
      refine sg_iload_n (pn := 57) (i := 1) dX12_cart_56 rfl rfl 1 rfl ?_
      obtain ⟨hg, h⟩ := sg_guard h
      refine alM_3 (pn := 58) dX12_cart_57 rfl (sg_in_vp hg) ?_
      obtain rfl := Option.some.inj h
      exact sg_iret dX12_cart_58 rfl ⟨rfl, rfl⟩
    · have h := sg_ifn hk0 h
      by_cases hk1 : a2 = (1 : Int32)
      · have h := sg_ifp hk1 h
        refine sg_tabIn (tgt := 59) (off := 47) dX12_cart_12 (by rw [hk1]; decide) (by rw [hk1]; decide) (by rw [hk1]; rfl) (by decide) ?_
        refine sg_aload_n (pn := 60) (i := 0) dX12_cart_59 rfl rfl 0 rfl ?_
        refine gfM_0_8 (pn := 63) dX12_cart_60 rfl lf_X12_25 ?_
        refine sg_bipush (pn := 65) dX12_cart_63 rfl ib_80 ?_
        refine sg_iload_n (pn := 66) (i := 1) dX12_cart_65 rfl rfl 1 rfl ?_
        refine sg_iadd (pn := 67) dX12_cart_66 rfl ?_
        obtain ⟨hg, h⟩ := sg_guard h
        refine alM_6 (pn := 68) dX12_cart_67 rfl (sg_in_vp hg) ?_
        obtain rfl := Option.some.inj h
        exact sg_iret dX12_cart_68 rfl ⟨rfl, rfl⟩
      · have h := sg_ifn hk1 h
        by_cases hk2 : a2 = (2 : Int32)
        · have h := sg_ifp hk2 h
          refine sg_tabIn (tgt := 69) (off := 57) dX12_cart_12 (by rw [hk2]; decide) (by rw [hk2]; decide) (by rw [hk2]; rfl) (by decide) ?_
          refine sg_aload_n (pn := 70) (i := 0) dX12_cart_69 rfl rfl 0 rfl ?_
          refine gfM_0_7 (pn := 73) dX12_cart_70 rfl lf_X12_22 ?_
          refine sg_iload_n (pn := 74) (i := 1) dX12_cart_73 rfl rfl 1 rfl ?_
          obtain ⟨hg, h⟩ := sg_guard h
          refine alM_5 (pn := 75) dX12_cart_74 rfl (sg_in_vp hg) ?_
          obtain rfl := Option.some.inj h
          exact sg_iret dX12_cart_75 rfl ⟨rfl, rfl⟩
        · have h := sg_ifn hk2 h
          by_cases hk3 : a2 = (3 : Int32)
          · have h := sg_ifp hk3 h
            refine sg_tabIn (tgt := 76) (off := 64) dX12_cart_12 (by rw [hk3]; decide) (by rw [hk3]; decide) (by rw [hk3]; rfl) (by decide) ?_
            refine sg_aload_n (pn := 77) (i := 0) dX12_cart_76 rfl rfl 0 rfl ?_
            refine gfM_0_8 (pn := 80) dX12_cart_77 rfl lf_X12_25 ?_
            refine sg_bipush (pn := 82) dX12_cart_80 rfl ib_88 ?_
            refine sg_iload_n (pn := 83) (i := 1) dX12_cart_82 rfl rfl 1 rfl ?_
            refine sg_iadd (pn := 84) dX12_cart_83 rfl ?_
            obtain ⟨hg, h⟩ := sg_guard h
            refine alM_6 (pn := 85) dX12_cart_84 rfl (sg_in_vp hg) ?_
            obtain rfl := Option.some.inj h
            exact sg_iret dX12_cart_85 rfl ⟨rfl, rfl⟩
          · have h := sg_ifn hk3 h
            by_cases hk4 : a2 = (4 : Int32)
            · have h := sg_ifp hk4 h
              refine sg_tabIn (tgt := 86) (off := 74) dX12_cart_12 (by rw [hk4]; decide) (by rw [hk4]; decide) (by rw [hk4]; rfl) (by decide) ?_
              refine sg_aload_n (pn := 87) (i := 0) dX12_cart_86 rfl rfl 0 rfl ?_
              refine gfM_0_8 (pn := 90) dX12_cart_87 rfl lf_X12_25 ?_
              refine sg_bipush (pn := 92) dX12_cart_90 rfl ib_96 ?_
              refine sg_iload_n (pn := 93) (i := 1) dX12_cart_92 rfl rfl 1 rfl ?_
              refine sg_iadd (pn := 94) dX12_cart_93 rfl ?_
              obtain ⟨hg, h⟩ := sg_guard h
              refine alM_6 (pn := 95) dX12_cart_94 rfl (sg_in_vp hg) ?_
              obtain rfl := Option.some.inj h
              exact sg_iret dX12_cart_95 rfl ⟨rfl, rfl⟩
            · have h := sg_ifn hk4 h
              by_cases hk5 : a2 = (5 : Int32)
              · have h := sg_ifp hk5 h
                refine sg_tabIn (tgt := 96) (off := 84) dX12_cart_12 (by rw [hk5]; decide) (by rw [hk5]; decide) (by rw [hk5]; rfl) (by decide) ?_
                refine sg_aload_n (pn := 97) (i := 0) dX12_cart_96 rfl rfl 0 rfl ?_
                refine sg_iload_n (pn := 98) (i := 1) dX12_cart_97 rfl rfl 1 rfl ?_
                obtain ⟨r1, h_r1, h⟩ := sg_bind h
                refine sg_callVi (pn := 101) (rest := []) 0 dX12_cart_98 rfl kb_X12_229 kv_X12_mayorOf (by exact rfl) rfl (Nat.le_of_ble_eq_true rfl) (gM_mayorOf_ok h_r1) rfl rfl (Nat.le_of_ble_eq_true rfl) ?_
                obtain rfl := Option.some.inj h
                exact sg_iret dX12_cart_101 rfl ⟨rfl, rfl⟩
              · have h := sg_ifn hk5 h
                refine sg_tabOut (tgt := 102) dX12_cart_12 (by have q0 := lv_neT hk0 (show (0 : Int32).toInt = 0 from rfl); have q1 := lv_neT hk1 (show (1 : Int32).toInt = 1 from rfl); have q2 := lv_neT hk2 (show (2 : Int32).toInt = 2 from rfl); have q3 := lv_neT hk3 (show (3 : Int32).toInt = 3 from rfl); have q4 := lv_neT hk4 (show (4 : Int32).toInt = 4 from rfl); have q5 := lv_neT hk5 (show (5 : Int32).toInt = 5 from rfl); omega) (by decide) ?_
                refine sg_ldc (pn := 104) dX12_cart_102 rfl kc_X12_90 ?_
                obtain rfl := Option.some.inj h
                exact sg_iret dX12_cart_104 rfl ⟨rfl, rfl⟩
  · have h := sg_ifp hc h
    refine sg_ldc (pn := 10) dX12_cart_8 rfl kc_X12_225 ?_
    obtain rfl := Option.some.inj h
    exact sg_iret dX12_cart_10 rfl ⟨rfl, rfl⟩
set_option maxRecDepth 4000 in
theorem gM_sink_ok {l : Launch} {D : va_G} {cI cZ : ClassId} {ad : Nat → Nat} {n : Nat} {a1 : Int32} {a2 : Int32} {z : sg_M} {r : Int32} (h : gM_sink n a1 a2 z = some r) : sg_Met (eM l D cI cZ ad) yX12_sink cX12_sink 3 (some .int) 4 [.ref (ad 0), .int a1, .int a2] z (sg_is (some (.int r)) z) := by
  refine sg_enter (lv0 := [(0, .ref (ad 0)), (1, .int a1), (2, .int a2)]) pn_X12 (Nat.le_of_ble_eq_true rfl) rfl ?_
  unfold gM_sink at h
  refine sg_aload_n (pn := 1) (i := 0) dX12_sink_0 rfl rfl 0 rfl ?_
  refine sg_iload_n (pn := 2) (i := 1) dX12_sink_1 rfl rfl 1 rfl ?_
  refine sg_callVi (pn := 5) (rest := []) 0 dX12_sink_2 rfl kb_X12_226 kv_X12_isCart (by exact rfl) rfl (Nat.le_of_ble_eq_true rfl) (gM_isCart_ok rfl) rfl rfl (Nat.le_of_ble_eq_true rfl) ?_
  refine sg_if_eq (pn := 8) (tgt := 16) dX12_sink_5 rfl (by decide) (fun hc => ?_) (fun hc => ?_)
  · have h := sg_ifp hc h
    refine sg_ldc (pn := 18) dX12_sink_16 rfl kc_X12_225 ?_
    obtain rfl := Option.some.inj h
    exact sg_iret dX12_sink_18 rfl ⟨rfl, rfl⟩
  · have h := sg_ifn hc h
    refine sg_aload_n (pn := 9) (i := 0) dX12_sink_8 rfl rfl 0 rfl ?_
    refine sg_iload_n (pn := 10) (i := 2) dX12_sink_9 rfl rfl 2 rfl ?_
    refine sg_callVi (pn := 13) (rest := []) 0 dX12_sink_10 rfl kb_X12_222 kv_X12_isCell (by exact rfl) rfl (Nat.le_of_ble_eq_true rfl) (gM_isCell_ok rfl) rfl rfl (Nat.le_of_ble_eq_true rfl) ?_
    refine sg_if_ne (pn := 16) (tgt := 19) dX12_sink_13 rfl (by decide) (fun hc => ?_) (fun hc => ?_)
    · have h := sg_ifn hc h
      refine sg_aload_n (pn := 20) (i := 0) dX12_sink_19 rfl rfl 0 rfl ?_
      refine sg_iload_n (pn := 21) (i := 1) dX12_sink_20 rfl rfl 1 rfl ?_
      refine sg_iload_n (pn := 22) (i := 2) dX12_sink_21 rfl rfl 2 rfl ?_
      refine sg_aload_n (pn := 23) (i := 0) dX12_sink_22 rfl rfl 0 rfl ?_
      obtain ⟨r1, h_r1, h⟩ := sg_bind h
      refine sg_callVi (pn := 26) (rest := [.int a2, .int a1, .ref (ad 0)]) 0 dX12_sink_23 rfl kb_X12_187 kv_X12_wet (by exact rfl) rfl (Nat.le_of_ble_eq_true rfl) (gM_wet_ok h_r1) rfl rfl (Nat.le_of_ble_eq_true rfl) ?_
      obtain ⟨r2, h_r2, h⟩ := sg_bind h
      refine sg_callVi (pn := 29) (rest := []) 0 dX12_sink_26 rfl kb_X12_173 kv_X12_groundOf (by exact rfl) rfl (Nat.le_of_ble_eq_true rfl) (gM_groundOf_ok h_r2) rfl rfl (Nat.le_of_ble_eq_true rfl) ?_
      refine sg_aload_n (pn := 30) (i := 0) dX12_sink_29 rfl rfl 0 rfl ?_
      refine sg_iload_n (pn := 31) (i := 1) dX12_sink_30 rfl rfl 1 rfl ?_
      refine sg_aload_n (pn := 32) (i := 0) dX12_sink_31 rfl rfl 0 rfl ?_
      refine gfM_0_8 (pn := 35) dX12_sink_32 rfl lf_X12_25 ?_
      refine sg_bipush (pn := 37) dX12_sink_35 rfl ib_80 ?_
      refine sg_iload_n (pn := 38) (i := 1) dX12_sink_37 rfl rfl 1 rfl ?_
      refine sg_iadd (pn := 39) dX12_sink_38 rfl ?_
      obtain ⟨hg, h⟩ := sg_guard h
      refine alM_6 (pn := 40) dX12_sink_39 rfl (sg_in_vp hg) ?_
      obtain ⟨r3, h_r3, h⟩ := sg_bind h
      refine sg_callVi (pn := 43) (rest := [.int r2]) 0 dX12_sink_40 rfl kb_X12_177 kv_X12_weighs (by exact rfl) rfl (Nat.le_of_ble_eq_true rfl) (gM_weighs_ok h_r3) rfl rfl (Nat.le_of_ble_eq_true rfl) ?_
      refine sg_iadd (pn := 44) dX12_sink_43 rfl ?_
      obtain rfl := Option.some.inj h
      exact sg_iret dX12_sink_44 rfl ⟨rfl, rfl⟩
    · have h := sg_ifp hc h
      refine sg_ldc (pn := 18) dX12_sink_16 rfl kc_X12_225 ?_
      obtain rfl := Option.some.inj h
      exact sg_iret dX12_sink_18 rfl ⟨rfl, rfl⟩
set_option maxRecDepth 4000 in
theorem gM_remember_LL_ok {l : Launch} {D : va_G} {cI cZ : ClassId} {ad : Nat → Nat} : ∀ (n : Nat), (∀ (v1 : Int32) (z : sg_M) (r : sg_M), gM_remember_LL n 12 v1 z = some r → sg_G (eM l D cI cZ ad) yX12_remember cX12_remember 2 none 1 12 [(0, .ref (ad 0)), (1, .int v1)] [] z (sg_is none r)) ∧ (∀ (v1 : Int32) (z : sg_M) (r : sg_M), gM_remember_LL n 52 v1 z = some r → sg_G (eM l D cI cZ ad) yX12_remember cX12_remember 2 none 1 52 [(0, .ref (ad 0)), (1, .int v1)] [] z (sg_is none r)) := by
  intro n
  induction n with
  | zero => exact ⟨(fun _ _ _ h => by cases h), (fun _ _ _ h => by cases h)⟩
  | succ n ih =>
    refine ⟨?_, ?_⟩
    · intro v1 z r h
      unfold gM_remember_LL at h
      have h := sg_ifp (show (12 : Nat) = 12 from rfl) h
      refine sg_iload_n (pn := 13) (i := 1) dX12_remember_12 rfl rfl 1 rfl ?_
      refine sg_sipush (pn := 16) dX12_remember_13 rfl is_1696 ?_
      refine sg_icmp_ge (pn := 19) (tgt := 40) dX12_remember_16 rfl (by decide) (fun hc => ?_) (fun hc => ?_)
      · have h := sg_ifp hc h
        refine sg_aload_n (pn := 41) (i := 0) dX12_remember_40 rfl rfl 0 rfl ?_
        refine sg_dup (pn := 42) dX12_remember_41 rfl rfl ?_
        refine gfM_0_24 (pn := 45) dX12_remember_42 rfl lf_X12_160 ?_
        refine sg_iconst (pn := 46) dX12_remember_45 rfl ic_1 ?_
        refine sg_isub (pn := 47) dX12_remember_46 rfl ?_
        refine pfM_0_24 (pn := 50) dX12_remember_47 rfl lf_X12_160 ?_
        obtain ⟨z3, e_z3, h⟩ := sg_letE h
        refine sg_zE e_z3 ?_
        refine sg_iconst (pn := 51) dX12_remember_50 rfl ic_0 ?_
        refine sg_istore_n (pn := 52) (i := 1) (lv' := [(0, .ref (ad 0)), (1, .int (0 : Int32))]) dX12_remember_51 rfl rfl (Nat.le_of_ble_eq_true rfl) [1, 0] rfl ?_
        exact ih.2 _ _ _ h
      · have h := sg_ifn hc h
        refine sg_aload_n (pn := 20) (i := 0) dX12_remember_19 rfl rfl 0 rfl ?_
        refine gfM_0_25 (pn := 23) dX12_remember_20 rfl lf_X12_50 ?_
        refine sg_iload_n (pn := 24) (i := 1) dX12_remember_23 rfl rfl 1 rfl ?_
        refine sg_bipush (pn := 26) dX12_remember_24 rfl ib_106 ?_
        refine sg_isub (pn := 27) dX12_remember_26 rfl ?_
        refine sg_aload_n (pn := 28) (i := 0) dX12_remember_27 rfl rfl 0 rfl ?_
        refine gfM_0_25 (pn := 31) dX12_remember_28 rfl lf_X12_50 ?_
        refine sg_iload_n (pn := 32) (i := 1) dX12_remember_31 rfl rfl 1 rfl ?_
        obtain ⟨hg, h⟩ := sg_guard h
        refine alM_13 (pn := 33) dX12_remember_32 rfl (sg_in_vp hg) ?_
        obtain ⟨hg, h⟩ := sg_guard h
        refine asM_13 (pn := 34) dX12_remember_33 rfl (sg_in_vp hg) ?_
        obtain ⟨z4, e_z4, h⟩ := sg_letE h
        refine sg_zE e_z4 ?_
        refine sg_iinc (pn := 37) (i := 1) (lv' := [(0, .ref (ad 0)), (1, .int (v1 + (1 : Int32)))]) dX12_remember_34 rfl 1 rfl (ii_1 _) (Nat.le_of_ble_eq_true rfl) [1, 0] rfl ?_
        refine sg_goto (tgt := 12) dX12_remember_37 (by decide) ?_
        exact ih.1 _ _ _ h
    · intro v1 z r h
      unfold gM_remember_LL at h
      have h := sg_ifn (show ¬ (52 : Nat) = 12 by decide) h
      have h := sg_ifp (show (52 : Nat) = 52 from rfl) h
      refine sg_iload_n (pn := 53) (i := 1) dX12_remember_52 rfl rfl 1 rfl ?_
      refine sg_bipush (pn := 55) dX12_remember_53 rfl ib_106 ?_
      refine sg_icmp_ge (pn := 58) (tgt := 84) dX12_remember_55 rfl (by decide) (fun hc => ?_) (fun hc => ?_)
      · have h := sg_ifp hc h
        refine sg_aload_n (pn := 85) (i := 0) dX12_remember_84 rfl rfl 0 rfl ?_
        refine sg_dup (pn := 86) dX12_remember_85 rfl rfl ?_
        refine gfM_0_24 (pn := 89) dX12_remember_86 rfl lf_X12_160 ?_
        refine sg_iconst (pn := 90) dX12_remember_89 rfl ic_1 ?_
        refine sg_iadd (pn := 91) dX12_remember_90 rfl ?_
        refine pfM_0_24 (pn := 94) dX12_remember_91 rfl lf_X12_160 ?_
        obtain ⟨z1, e_z1, h⟩ := sg_letE h
        refine sg_zE e_z1 ?_
        obtain rfl := Option.some.inj h
        exact sg_vret dX12_remember_94 rfl ⟨rfl, rfl⟩
      · have h := sg_ifn hc h
        refine sg_aload_n (pn := 59) (i := 0) dX12_remember_58 rfl rfl 0 rfl ?_
        refine gfM_0_25 (pn := 62) dX12_remember_59 rfl lf_X12_50 ?_
        refine sg_bipush (pn := 64) dX12_remember_62 rfl ib_106 ?_
        refine sg_aload_n (pn := 65) (i := 0) dX12_remember_64 rfl rfl 0 rfl ?_
        refine gfM_0_24 (pn := 68) dX12_remember_65 rfl lf_X12_160 ?_
        refine sg_imul (pn := 69) dX12_remember_68 rfl ?_
        refine sg_iload_n (pn := 70) (i := 1) dX12_remember_69 rfl rfl 1 rfl ?_
        refine sg_iadd (pn := 71) dX12_remember_70 rfl ?_
        refine sg_aload_n (pn := 72) (i := 0) dX12_remember_71 rfl rfl 0 rfl ?_
        refine gfM_0_8 (pn := 75) dX12_remember_72 rfl lf_X12_25 ?_
        refine sg_iload_n (pn := 76) (i := 1) dX12_remember_75 rfl rfl 1 rfl ?_
        obtain ⟨hg, h⟩ := sg_guard h
        refine alM_6 (pn := 77) dX12_remember_76 rfl (sg_in_vp hg) ?_
        obtain ⟨hg, h⟩ := sg_guard h
        refine asM_13 (pn := 78) dX12_remember_77 rfl (sg_in_vp hg) ?_
        obtain ⟨z2, e_z2, h⟩ := sg_letE h
        refine sg_zE e_z2 ?_
        refine sg_iinc (pn := 81) (i := 1) (lv' := [(0, .ref (ad 0)), (1, .int (v1 + (1 : Int32)))]) dX12_remember_78 rfl 1 rfl (ii_1 _) (Nat.le_of_ble_eq_true rfl) [1, 0] rfl ?_
        refine sg_goto (tgt := 52) dX12_remember_81 (by decide) ?_
        exact ih.2 _ _ _ h
set_option maxRecDepth 4000 in
theorem gM_remember_ok {l : Launch} {D : va_G} {cI cZ : ClassId} {ad : Nat → Nat} {n : Nat} {z : sg_M} {r : sg_M} (h : gM_remember n z = some r) : sg_Met (eM l D cI cZ ad) yX12_remember cX12_remember 2 none 1 [.ref (ad 0)] z (sg_is none r) := by
  refine sg_enter (lv0 := [(0, .ref (ad 0))]) pn_X12 (Nat.le_of_ble_eq_true rfl) rfl ?_
  unfold gM_remember at h
  refine sg_aload_n (pn := 1) (i := 0) dX12_remember_0 rfl rfl 0 rfl ?_
  refine gfM_0_24 (pn := 4) dX12_remember_1 rfl lf_X12_160 ?_
  refine sg_bipush (pn := 6) dX12_remember_4 rfl ib_16 ?_
  refine sg_icmp_ne (pn := 9) (tgt := 50) dX12_remember_6 rfl (by decide) (fun hc => ?_) (fun hc => ?_)
  · have h := sg_ifn hc h
    refine sg_iconst (pn := 51) dX12_remember_50 rfl ic_0 ?_
    refine sg_istore_n (pn := 52) (i := 1) (lv' := [(0, .ref (ad 0)), (1, .int (0 : Int32))]) dX12_remember_51 rfl rfl (Nat.le_of_ble_eq_true rfl) [1, 0] rfl ?_
    exact (gM_remember_LL_ok n).2 _ _ _ h
  · have h := sg_ifp hc h
    refine sg_bipush (pn := 11) dX12_remember_9 rfl ib_106 ?_
    refine sg_istore_n (pn := 12) (i := 1) (lv' := [(0, .ref (ad 0)), (1, .int (106 : Int32))]) dX12_remember_11 rfl rfl (Nat.le_of_ble_eq_true rfl) [1, 0] rfl ?_
    exact (gM_remember_LL_ok n).1 _ _ _ h
set_option maxRecDepth 4000 in
theorem gM_driveNow_ok {l : Launch} {D : va_G} {cI cZ : ClassId} {ad : Nat → Nat} {n : Nat} {a1 : Int32} {z : sg_M} {r : Int32 × sg_M} (h : gM_driveNow n a1 z = some r) : sg_Met (eM l D cI cZ ad) yX12_driveNow cX12_driveNow 3 (some .int) 5 [.ref (ad 0), .int a1] z (sg_is (some (.int r.1)) r.2) := by
  refine sg_enter (lv0 := [(0, .ref (ad 0)), (1, .int a1)]) pn_X12 (Nat.le_of_ble_eq_true rfl) rfl ?_
  unfold gM_driveNow at h
  refine sg_aload_n (pn := 1) (i := 0) dX12_driveNow_0 rfl rfl 0 rfl ?_
  refine sg_iload_n (pn := 2) (i := 1) dX12_driveNow_1 rfl rfl 1 rfl ?_
  refine sg_aload_n (pn := 3) (i := 0) dX12_driveNow_2 rfl rfl 0 rfl ?_
  obtain ⟨r1, h_r1, h⟩ := sg_bind h
  refine sg_callVi (pn := 6) (rest := [.int a1, .ref (ad 0)]) 0 dX12_driveNow_3 rfl kb_X12_187 kv_X12_wet (by exact rfl) rfl (Nat.le_of_ble_eq_true rfl) (gM_wet_ok h_r1) rfl rfl (Nat.le_of_ble_eq_true rfl) ?_
  obtain ⟨r2, h_r2, h⟩ := sg_bind h
  refine sg_callVi (pn := 9) (rest := []) 0 dX12_driveNow_6 rfl kb_X12_190 kv_X12_stopOf (by exact rfl) rfl (Nat.le_of_ble_eq_true rfl) (gM_stopOf_ok h_r2) rfl rfl (Nat.le_of_ble_eq_true rfl) ?_
  refine sg_istore_n (pn := 10) (i := 2) (lv' := [(0, .ref (ad 0)), (1, .int a1), (2, .int r2)]) dX12_driveNow_9 rfl rfl (Nat.le_of_ble_eq_true rfl) [1, 2, 0] rfl ?_
  refine sg_iload_n (pn := 11) (i := 2) dX12_driveNow_10 rfl rfl 2 rfl ?_
  refine sg_if_ge (pn := 14) (tgt := 16) dX12_driveNow_11 rfl (by decide) (fun hc => ?_) (fun hc => ?_)
  · have h := sg_ifp hc h
    refine sg_aload_n (pn := 17) (i := 0) dX12_driveNow_16 rfl rfl 0 rfl ?_
    refine sg_iload_n (pn := 18) (i := 2) dX12_driveNow_17 rfl rfl 2 rfl ?_
    obtain ⟨r3, h_r3, h⟩ := sg_bind h
    refine sg_callVi (pn := 21) (rest := []) 0 dX12_driveNow_18 rfl kb_X12_183 kv_X12_isTown (by exact rfl) rfl (Nat.le_of_ble_eq_true rfl) (gM_isTown_ok h_r3) rfl rfl (Nat.le_of_ble_eq_true rfl) ?_
    obtain ⟨t6, e_t6, h2⟩ := sg_bind h
    have hm_t6 : sg_G (eM l D cI cZ ad) yX12_driveNow cX12_driveNow 3 (some .int) 5 49 [(0, .ref (ad 0)), (1, .int a1), (2, .int r2)] [] t6 (sg_is (some (.int r.1)) r.2) := by
      have h := h2
      refine sg_aload_n (pn := 50) (i := 0) dX12_driveNow_49 rfl rfl 0 rfl ?_
      refine gfM_0_8 (pn := 53) dX12_driveNow_50 rfl lf_X12_25 ?_
      refine sg_bipush (pn := 55) dX12_driveNow_53 rfl ib_60 ?_
      refine sg_iload_n (pn := 56) (i := 2) dX12_driveNow_55 rfl rfl 2 rfl ?_
      refine sg_iadd (pn := 57) dX12_driveNow_56 rfl ?_
      refine sg_dup2 (pn := 58) dX12_driveNow_57 rfl rfl rfl ?_
      obtain ⟨hg, h⟩ := sg_guard h
      refine alM_6 (pn := 59) dX12_driveNow_58 rfl (sg_in_vp hg) ?_
      refine sg_aload_n (pn := 60) (i := 0) dX12_driveNow_59 rfl rfl 0 rfl ?_
      refine gfM_0_8 (pn := 63) dX12_driveNow_60 rfl lf_X12_25 ?_
      refine sg_bipush (pn := 65) dX12_driveNow_63 rfl ib_60 ?_
      refine sg_iload_n (pn := 66) (i := 2) dX12_driveNow_65 rfl rfl 2 rfl ?_
      refine sg_iadd (pn := 67) dX12_driveNow_66 rfl ?_
      obtain ⟨hg, h⟩ := sg_guard h
      refine alM_6 (pn := 68) dX12_driveNow_67 rfl (sg_in_vp hg) ?_
      refine sg_sipush (pn := 71) dX12_driveNow_68 rfl is_9999 ?_
      obtain ⟨t7, e_t7, h2⟩ := sg_letJ h
      have hm_t7 : sg_G (eM l D cI cZ ad) yX12_driveNow cX12_driveNow 3 (some .int) 5 79 [(0, .ref (ad 0)), (1, .int a1), (2, .int r2)] [.int t7, .int (t6.2 5 ((60 : Int32) + r2).toNatClampNeg), .int ((60 : Int32) + r2), .ref (ad 6)] t6 (sg_is (some (.int r.1)) r.2) := by
        have h := h2
        refine sg_iadd (pn := 80) dX12_driveNow_79 rfl ?_
        obtain ⟨hg, h⟩ := sg_guard h
        refine asM_6 (pn := 81) dX12_driveNow_80 rfl (sg_in_vp hg) ?_
        obtain ⟨z8, e_z8, h⟩ := sg_letE h
        refine sg_zE e_z8 ?_
        refine sg_aload_n (pn := 82) (i := 0) dX12_driveNow_81 rfl rfl 0 rfl ?_
        refine gfM_0_8 (pn := 85) dX12_driveNow_82 rfl lf_X12_25 ?_
        refine sg_bipush (pn := 87) dX12_driveNow_85 rfl ib_40 ?_
        refine sg_iload_n (pn := 88) (i := 2) dX12_driveNow_87 rfl rfl 2 rfl ?_
        refine sg_iadd (pn := 89) dX12_driveNow_88 rfl ?_
        refine sg_aload_n (pn := 90) (i := 0) dX12_driveNow_89 rfl rfl 0 rfl ?_
        refine gfM_0_8 (pn := 93) dX12_driveNow_90 rfl lf_X12_25 ?_
        refine sg_bipush (pn := 95) dX12_driveNow_93 rfl ib_40 ?_
        refine sg_iload_n (pn := 96) (i := 2) dX12_driveNow_95 rfl rfl 2 rfl ?_
        refine sg_iadd (pn := 97) dX12_driveNow_96 rfl ?_
        obtain ⟨hg, h⟩ := sg_guard h
        refine alM_6 (pn := 98) dX12_driveNow_97 rfl (sg_in_vp hg) ?_
        refine sg_iconst (pn := 99) dX12_driveNow_98 rfl ic_m1 ?_
        obtain ⟨t9, e_t9, h2⟩ := sg_bind h
        have hm_t9 : sg_G (eM l D cI cZ ad) yX12_driveNow cX12_driveNow 3 (some .int) 5 115 [(0, .ref (ad 0)), (1, .int a1), (2, .int r2)] [.int t9, .int ((40 : Int32) + r2), .ref (ad 6)] z8 (sg_is (some (.int r.1)) r.2) := by
          have h := h2
          obtain ⟨hg, h⟩ := sg_guard h
          refine asM_6 (pn := 116) dX12_driveNow_115 rfl (sg_in_vp hg) ?_
          obtain ⟨z10, e_z10, h⟩ := sg_letE h
          refine sg_zE e_z10 ?_
          refine sg_aload_n (pn := 117) (i := 0) dX12_driveNow_116 rfl rfl 0 rfl ?_
          refine gfM_0_8 (pn := 120) dX12_driveNow_117 rfl lf_X12_25 ?_
          refine sg_bipush (pn := 122) dX12_driveNow_120 rfl ib_88 ?_
          refine sg_iload_n (pn := 123) (i := 1) dX12_driveNow_122 rfl rfl 1 rfl ?_
          refine sg_iadd (pn := 124) dX12_driveNow_123 rfl ?_
          refine sg_iload_n (pn := 125) (i := 2) dX12_driveNow_124 rfl rfl 2 rfl ?_
          obtain ⟨hg, h⟩ := sg_guard h
          refine asM_6 (pn := 126) dX12_driveNow_125 rfl (sg_in_vp hg) ?_
          obtain ⟨z11, e_z11, h⟩ := sg_letE h
          refine sg_zE e_z11 ?_
          refine sg_aload_n (pn := 127) (i := 0) dX12_driveNow_126 rfl rfl 0 rfl ?_
          refine gfM_0_8 (pn := 130) dX12_driveNow_127 rfl lf_X12_25 ?_
          refine sg_bipush (pn := 132) dX12_driveNow_130 rfl ib_96 ?_
          refine sg_iload_n (pn := 133) (i := 1) dX12_driveNow_132 rfl rfl 1 rfl ?_
          refine sg_iadd (pn := 134) dX12_driveNow_133 rfl ?_
          refine sg_dup2 (pn := 135) dX12_driveNow_134 rfl rfl rfl ?_
          obtain ⟨hg, h⟩ := sg_guard h
          refine alM_6 (pn := 136) dX12_driveNow_135 rfl (sg_in_vp hg) ?_
          refine sg_iconst (pn := 137) dX12_driveNow_136 rfl ic_1 ?_
          refine sg_iadd (pn := 138) dX12_driveNow_137 rfl ?_
          obtain ⟨hg, h⟩ := sg_guard h
          refine asM_6 (pn := 139) dX12_driveNow_138 rfl (sg_in_vp hg) ?_
          obtain ⟨z12, e_z12, h⟩ := sg_letE h
          refine sg_zE e_z12 ?_
          refine sg_iload_n (pn := 140) (i := 2) dX12_driveNow_139 rfl rfl 2 rfl ?_
          obtain rfl := Option.some.inj h
          exact sg_iret dX12_driveNow_140 rfl ⟨rfl, rfl⟩
        have h := e_t9
        refine sg_icmp_ne (pn := 102) (tgt := 106) dX12_driveNow_99 rfl (by decide) (fun hc => ?_) (fun hc => ?_)
        · have h := sg_ifn hc h
          refine sg_aload_n (pn := 107) (i := 0) dX12_driveNow_106 rfl rfl 0 rfl ?_
          refine gfM_0_8 (pn := 110) dX12_driveNow_107 rfl lf_X12_25 ?_
          refine sg_bipush (pn := 112) dX12_driveNow_110 rfl ib_40 ?_
          refine sg_iload_n (pn := 113) (i := 2) dX12_driveNow_112 rfl rfl 2 rfl ?_
          refine sg_iadd (pn := 114) dX12_driveNow_113 rfl ?_
          obtain ⟨hg, h⟩ := sg_guard h
          refine alM_6 (pn := 115) dX12_driveNow_114 rfl (sg_in_vp hg) ?_
          obtain rfl := Option.some.inj h
          exact hm_t9
        · have h := sg_ifp hc h
          refine sg_iload_n (pn := 103) (i := 1) dX12_driveNow_102 rfl rfl 1 rfl ?_
          refine sg_goto (tgt := 115) dX12_driveNow_103 (by decide) ?_
          obtain rfl := Option.some.inj h
          exact hm_t9
      have h := e_t7
      refine sg_icmp_ge (pn := 74) (tgt := 78) dX12_driveNow_71 rfl (by decide) (fun hc => ?_) (fun hc => ?_)
      · have h := sg_ifp hc h
        refine sg_iconst (pn := 79) dX12_driveNow_78 rfl ic_0 ?_
        subst h
        exact hm_t7
      · have h := sg_ifn hc h
        refine sg_iconst (pn := 75) dX12_driveNow_74 rfl ic_1 ?_
        refine sg_goto (tgt := 79) dX12_driveNow_75 (by decide) ?_
        subst h
        exact hm_t7
    have h := e_t6
    refine sg_if_ne (pn := 24) (tgt := 49) dX12_driveNow_21 rfl (by decide) (fun hc => ?_) (fun hc => ?_)
    · have h := sg_ifn hc h
      obtain rfl := Option.some.inj h
      exact hm_t6
    · have h := sg_ifp hc h
      refine sg_aload_n (pn := 25) (i := 0) dX12_driveNow_24 rfl rfl 0 rfl ?_
      refine gfM_0_8 (pn := 28) dX12_driveNow_25 rfl lf_X12_25 ?_
      refine sg_bipush (pn := 30) dX12_driveNow_28 rfl ib_20 ?_
      refine sg_iload_n (pn := 31) (i := 2) dX12_driveNow_30 rfl rfl 2 rfl ?_
      refine sg_iadd (pn := 32) dX12_driveNow_31 rfl ?_
      refine sg_aload_n (pn := 33) (i := 0) dX12_driveNow_32 rfl rfl 0 rfl ?_
      refine gfM_0_7 (pn := 36) dX12_driveNow_33 rfl lf_X12_22 ?_
      refine sg_iload_n (pn := 37) (i := 1) dX12_driveNow_36 rfl rfl 1 rfl ?_
      obtain ⟨hg, h⟩ := sg_guard h
      refine alM_5 (pn := 38) dX12_driveNow_37 rfl (sg_in_vp hg) ?_
      obtain ⟨hg, h⟩ := sg_guard h
      refine asM_6 (pn := 39) dX12_driveNow_38 rfl (sg_in_vp hg) ?_
      obtain ⟨z4, e_z4, h⟩ := sg_letE h
      refine sg_zE e_z4 ?_
      refine sg_aload_n (pn := 40) (i := 0) dX12_driveNow_39 rfl rfl 0 rfl ?_
      refine gfM_0_8 (pn := 43) dX12_driveNow_40 rfl lf_X12_25 ?_
      refine sg_bipush (pn := 45) dX12_driveNow_43 rfl ib_60 ?_
      refine sg_iload_n (pn := 46) (i := 2) dX12_driveNow_45 rfl rfl 2 rfl ?_
      refine sg_iadd (pn := 47) dX12_driveNow_46 rfl ?_
      refine sg_iconst (pn := 48) dX12_driveNow_47 rfl ic_0 ?_
      obtain ⟨hg, h⟩ := sg_guard h
      refine asM_6 (pn := 49) dX12_driveNow_48 rfl (sg_in_vp hg) ?_
      obtain ⟨z5, e_z5, h⟩ := sg_letE h
      refine sg_zE e_z5 ?_
      obtain rfl := Option.some.inj h
      exact hm_t6
  · have h := sg_ifn hc h
    refine sg_iconst (pn := 15) dX12_driveNow_14 rfl ic_m1 ?_
    obtain rfl := Option.some.inj h
    exact sg_iret dX12_driveNow_15 rfl ⟨rfl, rfl⟩
set_option maxRecDepth 4000 in
theorem gM_drive_ok {l : Launch} {D : va_G} {cI cZ : ClassId} {ad : Nat → Nat} {n : Nat} {a1 : Int32} {z : sg_M} {r : Int32 × sg_M} (h : gM_drive n a1 z = some r) : sg_Met (eM l D cI cZ ad) yX12_drive cX12_drive 2 (some .int) 6 [.ref (ad 0), .int a1] z (sg_is (some (.int r.1)) r.2) := by
  refine sg_enter (lv0 := [(0, .ref (ad 0)), (1, .int a1)]) pn_X12 (Nat.le_of_ble_eq_true rfl) rfl ?_
  unfold gM_drive at h
  refine sg_aload_n (pn := 1) (i := 0) dX12_drive_0 rfl rfl 0 rfl ?_
  refine sg_iload_n (pn := 2) (i := 1) dX12_drive_1 rfl rfl 1 rfl ?_
  refine sg_callVi (pn := 5) (rest := []) 0 dX12_drive_2 rfl kb_X12_226 kv_X12_isCart (by exact rfl) rfl (Nat.le_of_ble_eq_true rfl) (gM_isCart_ok rfl) rfl rfl (Nat.le_of_ble_eq_true rfl) ?_
  refine sg_if_ne (pn := 8) (tgt := 11) dX12_drive_5 rfl (by decide) (fun hc => ?_) (fun hc => ?_)
  · have h := sg_ifn hc h
    refine sg_aload_n (pn := 12) (i := 0) dX12_drive_11 rfl rfl 0 rfl ?_
    refine gfM_0_8 (pn := 15) dX12_drive_12 rfl lf_X12_25 ?_
    refine sg_bipush (pn := 17) dX12_drive_15 rfl ib_88 ?_
    refine sg_iload_n (pn := 18) (i := 1) dX12_drive_17 rfl rfl 1 rfl ?_
    refine sg_iadd (pn := 19) dX12_drive_18 rfl ?_
    obtain ⟨hg, h⟩ := sg_guard h
    refine alM_6 (pn := 20) dX12_drive_19 rfl (sg_in_vp hg) ?_
    refine sg_iconst (pn := 21) dX12_drive_20 rfl ic_m1 ?_
    refine sg_icmp_eq (pn := 24) (tgt := 27) dX12_drive_21 rfl (by decide) (fun hc => ?_) (fun hc => ?_)
    · have h := sg_ifp hc h
      refine sg_aload_n (pn := 28) (i := 0) dX12_drive_27 rfl rfl 0 rfl ?_
      obtain ⟨r1, h_r1, h⟩ := sg_bind h
      refine sg_callVv (pn := 31) (rest := []) 0 dX12_drive_28 rfl kb_X12_233 kv_X12_remember (by exact rfl) rfl (Nat.le_of_ble_eq_true rfl) (gM_remember_ok h_r1) rfl rfl (Nat.le_of_ble_eq_true rfl) ?_
      refine sg_aload_n (pn := 32) (i := 0) dX12_drive_31 rfl rfl 0 rfl ?_
      refine sg_iload_n (pn := 33) (i := 1) dX12_drive_32 rfl rfl 1 rfl ?_
      obtain ⟨r2, h_r2, h⟩ := sg_bind h
      refine sg_callVi (pn := 36) (rest := []) 0 dX12_drive_33 rfl kb_X12_236 kv_X12_driveNow (by exact rfl) rfl (Nat.le_of_ble_eq_true rfl) (gM_driveNow_ok h_r2) rfl rfl (Nat.le_of_ble_eq_true rfl) ?_
      obtain rfl := Option.some.inj h
      exact sg_iret dX12_drive_36 rfl ⟨rfl, rfl⟩
    · have h := sg_ifn hc h
      refine sg_ldc (pn := 26) dX12_drive_24 rfl kc_X12_232 ?_
      obtain rfl := Option.some.inj h
      exact sg_iret dX12_drive_26 rfl ⟨rfl, rfl⟩
  · have h := sg_ifp hc h
    refine sg_ldc (pn := 10) dX12_drive_8 rfl kc_X12_225 ?_
    obtain rfl := Option.some.inj h
    exact sg_iret dX12_drive_10 rfl ⟨rfl, rfl⟩
set_option maxRecDepth 4000 in
theorem gM_pullNow_ok {l : Launch} {D : va_G} {cI cZ : ClassId} {ad : Nat → Nat} {a1 : Int32} {z : sg_M} {r : Int32 × sg_M} (h : gM_pullNow a1 z = some r) : sg_Met (eM l D cI cZ ad) yX12_pullNow cX12_pullNow 3 (some .int) 2 [.ref (ad 0), .int a1] z (sg_is (some (.int r.1)) r.2) := by
  refine sg_enter (lv0 := [(0, .ref (ad 0)), (1, .int a1)]) pn_X12 (Nat.le_of_ble_eq_true rfl) rfl ?_
  unfold gM_pullNow at h
  refine sg_aload_n (pn := 1) (i := 0) dX12_pullNow_0 rfl rfl 0 rfl ?_
  refine gfM_0_8 (pn := 4) dX12_pullNow_1 rfl lf_X12_25 ?_
  refine sg_bipush (pn := 6) dX12_pullNow_4 rfl ib_88 ?_
  refine sg_iload_n (pn := 7) (i := 1) dX12_pullNow_6 rfl rfl 1 rfl ?_
  refine sg_iadd (pn := 8) dX12_pullNow_7 rfl ?_
  obtain ⟨hg, h⟩ := sg_guard h
  refine alM_6 (pn := 9) dX12_pullNow_8 rfl (sg_in_vp hg) ?_
  obtain ⟨v2_1, e_v2_1, h⟩ := sg_letE h
  refine sg_topi e_v2_1 ?_
  refine sg_istore_n (pn := 10) (i := 2) (lv' := [(0, .ref (ad 0)), (1, .int a1), (2, .int v2_1)]) dX12_pullNow_9 rfl rfl (Nat.le_of_ble_eq_true rfl) [1, 2, 0] rfl ?_
  refine sg_aload_n (pn := 11) (i := 0) dX12_pullNow_10 rfl rfl 0 rfl ?_
  refine gfM_0_8 (pn := 14) dX12_pullNow_11 rfl lf_X12_25 ?_
  refine sg_bipush (pn := 16) dX12_pullNow_14 rfl ib_88 ?_
  refine sg_iload_n (pn := 17) (i := 1) dX12_pullNow_16 rfl rfl 1 rfl ?_
  refine sg_iadd (pn := 18) dX12_pullNow_17 rfl ?_
  refine sg_iconst (pn := 19) dX12_pullNow_18 rfl ic_m1 ?_
  obtain ⟨hg, h⟩ := sg_guard h
  refine asM_6 (pn := 20) dX12_pullNow_19 rfl (sg_in_vp hg) ?_
  obtain ⟨z2, e_z2, h⟩ := sg_letE h
  refine sg_zE e_z2 ?_
  refine sg_aload_n (pn := 21) (i := 0) dX12_pullNow_20 rfl rfl 0 rfl ?_
  refine gfM_0_8 (pn := 24) dX12_pullNow_21 rfl lf_X12_25 ?_
  refine sg_bipush (pn := 26) dX12_pullNow_24 rfl ib_60 ?_
  refine sg_iload_n (pn := 27) (i := 2) dX12_pullNow_26 rfl rfl 2 rfl ?_
  refine sg_iadd (pn := 28) dX12_pullNow_27 rfl ?_
  refine sg_dup2 (pn := 29) dX12_pullNow_28 rfl rfl rfl ?_
  obtain ⟨hg, h⟩ := sg_guard h
  refine alM_6 (pn := 30) dX12_pullNow_29 rfl (sg_in_vp hg) ?_
  refine sg_aload_n (pn := 31) (i := 0) dX12_pullNow_30 rfl rfl 0 rfl ?_
  refine sg_iload_n (pn := 32) (i := 2) dX12_pullNow_31 rfl rfl 2 rfl ?_
  obtain ⟨r3, h_r3, h⟩ := sg_bind h
  refine sg_callVi (pn := 35) (rest := [.int (z2.2 5 ((60 : Int32) + v2_1).toNatClampNeg), .int ((60 : Int32) + v2_1), .ref (ad 6)]) 0 dX12_pullNow_32 rfl kb_X12_183 kv_X12_isTown (by exact rfl) rfl (Nat.le_of_ble_eq_true rfl) (gM_isTown_ok h_r3) rfl rfl (Nat.le_of_ble_eq_true rfl) ?_
  obtain ⟨t4, e_t4, h2⟩ := sg_bind h
  have hm_t4 : sg_G (eM l D cI cZ ad) yX12_pullNow cX12_pullNow 3 (some .int) 2 55 [(0, .ref (ad 0)), (1, .int a1), (2, .int v2_1)] [.int t4, .int (z2.2 5 ((60 : Int32) + v2_1).toNatClampNeg), .int ((60 : Int32) + v2_1), .ref (ad 6)] z2 (sg_is (some (.int r.1)) r.2) := by
    have h := h2
    refine sg_isub (pn := 56) dX12_pullNow_55 rfl ?_
    obtain ⟨hg, h⟩ := sg_guard h
    refine asM_6 (pn := 57) dX12_pullNow_56 rfl (sg_in_vp hg) ?_
    obtain ⟨z5, e_z5, h⟩ := sg_letE h
    refine sg_zE e_z5 ?_
    refine sg_aload_n (pn := 58) (i := 0) dX12_pullNow_57 rfl rfl 0 rfl ?_
    refine gfM_0_8 (pn := 61) dX12_pullNow_58 rfl lf_X12_25 ?_
    refine sg_bipush (pn := 63) dX12_pullNow_61 rfl ib_40 ?_
    refine sg_iload_n (pn := 64) (i := 2) dX12_pullNow_63 rfl rfl 2 rfl ?_
    refine sg_iadd (pn := 65) dX12_pullNow_64 rfl ?_
    refine sg_aload_n (pn := 66) (i := 0) dX12_pullNow_65 rfl rfl 0 rfl ?_
    refine gfM_0_8 (pn := 69) dX12_pullNow_66 rfl lf_X12_25 ?_
    refine sg_bipush (pn := 71) dX12_pullNow_69 rfl ib_40 ?_
    refine sg_iload_n (pn := 72) (i := 2) dX12_pullNow_71 rfl rfl 2 rfl ?_
    refine sg_iadd (pn := 73) dX12_pullNow_72 rfl ?_
    obtain ⟨hg, h⟩ := sg_guard h
    refine alM_6 (pn := 74) dX12_pullNow_73 rfl (sg_in_vp hg) ?_
    refine sg_iload_n (pn := 75) (i := 1) dX12_pullNow_74 rfl rfl 1 rfl ?_
    obtain ⟨t6, e_t6, h2⟩ := sg_bind h
    have hm_t6 : sg_G (eM l D cI cZ ad) yX12_pullNow cX12_pullNow 3 (some .int) 2 91 [(2, .int v2_1)] [.int t6, .int ((40 : Int32) + v2_1), .ref (ad 6)] z5 (sg_is (some (.int r.1)) r.2) := by
      have h := h2
      obtain ⟨hg, h⟩ := sg_guard h
      refine asM_6 (pn := 92) dX12_pullNow_91 rfl (sg_in_vp hg) ?_
      obtain ⟨z7, e_z7, h⟩ := sg_letE h
      refine sg_zE e_z7 ?_
      refine sg_iload_n (pn := 93) (i := 2) dX12_pullNow_92 rfl rfl 0 rfl ?_
      obtain rfl := Option.some.inj h
      exact sg_iret dX12_pullNow_93 rfl ⟨rfl, rfl⟩
    have h := e_t6
    refine sg_icmp_ne (pn := 78) (tgt := 82) dX12_pullNow_75 rfl (by decide) (fun hc => ?_) (fun hc => ?_)
    · have h := sg_ifn hc h
      refine sg_aload_n (pn := 83) (i := 0) dX12_pullNow_82 rfl rfl 0 rfl ?_
      refine gfM_0_8 (pn := 86) dX12_pullNow_83 rfl lf_X12_25 ?_
      refine sg_bipush (pn := 88) dX12_pullNow_86 rfl ib_40 ?_
      refine sg_iload_n (pn := 89) (i := 2) dX12_pullNow_88 rfl rfl 2 rfl ?_
      refine sg_iadd (pn := 90) dX12_pullNow_89 rfl ?_
      obtain ⟨hg, h⟩ := sg_guard h
      refine alM_6 (pn := 91) dX12_pullNow_90 rfl (sg_in_vp hg) ?_
      obtain rfl := Option.some.inj h
      refine sg_sub [2] rfl ?_
      exact hm_t6
    · have h := sg_ifp hc h
      refine sg_iconst (pn := 79) dX12_pullNow_78 rfl ic_m1 ?_
      refine sg_goto (tgt := 91) dX12_pullNow_79 (by decide) ?_
      obtain rfl := Option.some.inj h
      refine sg_sub [2] rfl ?_
      exact hm_t6
  have h := e_t4
  refine sg_if_eq (pn := 38) (tgt := 54) dX12_pullNow_35 rfl (by decide) (fun hc => ?_) (fun hc => ?_)
  · have h := sg_ifp hc h
    refine sg_iconst (pn := 55) dX12_pullNow_54 rfl ic_0 ?_
    obtain rfl := Option.some.inj h
    exact hm_t4
  · have h := sg_ifn hc h
    refine sg_aload_n (pn := 39) (i := 0) dX12_pullNow_38 rfl rfl 0 rfl ?_
    refine gfM_0_8 (pn := 42) dX12_pullNow_39 rfl lf_X12_25 ?_
    refine sg_bipush (pn := 44) dX12_pullNow_42 rfl ib_60 ?_
    refine sg_iload_n (pn := 45) (i := 2) dX12_pullNow_44 rfl rfl 2 rfl ?_
    refine sg_iadd (pn := 46) dX12_pullNow_45 rfl ?_
    obtain ⟨hg, h⟩ := sg_guard h
    refine alM_6 (pn := 47) dX12_pullNow_46 rfl (sg_in_vp hg) ?_
    refine sg_if_le (pn := 50) (tgt := 54) dX12_pullNow_47 rfl (by decide) (fun hc => ?_) (fun hc => ?_)
    · have h := sg_ifp hc h
      refine sg_iconst (pn := 55) dX12_pullNow_54 rfl ic_0 ?_
      obtain rfl := Option.some.inj h
      exact hm_t4
    · have h := sg_ifn hc h
      refine sg_iconst (pn := 51) dX12_pullNow_50 rfl ic_1 ?_
      refine sg_goto (tgt := 55) dX12_pullNow_51 (by decide) ?_
      obtain rfl := Option.some.inj h
      exact hm_t4
set_option maxRecDepth 4000 in
theorem gM_pull_ok {l : Launch} {D : va_G} {cI cZ : ClassId} {ad : Nat → Nat} {n : Nat} {a1 : Int32} {z : sg_M} {r : Int32 × sg_M} (h : gM_pull n a1 z = some r) : sg_Met (eM l D cI cZ ad) yX12_pull cX12_pull 2 (some .int) 3 [.ref (ad 0), .int a1] z (sg_is (some (.int r.1)) r.2) := by
  refine sg_enter (lv0 := [(0, .ref (ad 0)), (1, .int a1)]) pn_X12 (Nat.le_of_ble_eq_true rfl) rfl ?_
  unfold gM_pull at h
  refine sg_aload_n (pn := 1) (i := 0) dX12_pull_0 rfl rfl 0 rfl ?_
  refine sg_iload_n (pn := 2) (i := 1) dX12_pull_1 rfl rfl 1 rfl ?_
  refine sg_callVi (pn := 5) (rest := []) 0 dX12_pull_2 rfl kb_X12_226 kv_X12_isCart (by exact rfl) rfl (Nat.le_of_ble_eq_true rfl) (gM_isCart_ok rfl) rfl rfl (Nat.le_of_ble_eq_true rfl) ?_
  refine sg_if_ne (pn := 8) (tgt := 11) dX12_pull_5 rfl (by decide) (fun hc => ?_) (fun hc => ?_)
  · have h := sg_ifn hc h
    refine sg_aload_n (pn := 12) (i := 0) dX12_pull_11 rfl rfl 0 rfl ?_
    refine gfM_0_8 (pn := 15) dX12_pull_12 rfl lf_X12_25 ?_
    refine sg_bipush (pn := 17) dX12_pull_15 rfl ib_88 ?_
    refine sg_iload_n (pn := 18) (i := 1) dX12_pull_17 rfl rfl 1 rfl ?_
    refine sg_iadd (pn := 19) dX12_pull_18 rfl ?_
    obtain ⟨hg, h⟩ := sg_guard h
    refine alM_6 (pn := 20) dX12_pull_19 rfl (sg_in_vp hg) ?_
    refine sg_iconst (pn := 21) dX12_pull_20 rfl ic_m1 ?_
    refine sg_icmp_ne (pn := 24) (tgt := 27) dX12_pull_21 rfl (by decide) (fun hc => ?_) (fun hc => ?_)
    · have h := sg_ifn hc h
      refine sg_aload_n (pn := 28) (i := 0) dX12_pull_27 rfl rfl 0 rfl ?_
      obtain ⟨r1, h_r1, h⟩ := sg_bind h
      refine sg_callVv (pn := 31) (rest := []) 0 dX12_pull_28 rfl kb_X12_233 kv_X12_remember (by exact rfl) rfl (Nat.le_of_ble_eq_true rfl) (gM_remember_ok h_r1) rfl rfl (Nat.le_of_ble_eq_true rfl) ?_
      refine sg_aload_n (pn := 32) (i := 0) dX12_pull_31 rfl rfl 0 rfl ?_
      refine sg_iload_n (pn := 33) (i := 1) dX12_pull_32 rfl rfl 1 rfl ?_
      obtain ⟨r2, h_r2, h⟩ := sg_bind h
      refine sg_callVi (pn := 36) (rest := []) 0 dX12_pull_33 rfl kb_X12_239 kv_X12_pullNow (by exact rfl) rfl (Nat.le_of_ble_eq_true rfl) (gM_pullNow_ok h_r2) rfl rfl (Nat.le_of_ble_eq_true rfl) ?_
      obtain rfl := Option.some.inj h
      exact sg_iret dX12_pull_36 rfl ⟨rfl, rfl⟩
    · have h := sg_ifp hc h
      refine sg_ldc (pn := 26) dX12_pull_24 rfl kc_X12_232 ?_
      obtain rfl := Option.some.inj h
      exact sg_iret dX12_pull_26 rfl ⟨rfl, rfl⟩
  · have h := sg_ifp hc h
    refine sg_ldc (pn := 10) dX12_pull_8 rfl kc_X12_225 ?_
    obtain rfl := Option.some.inj h
    exact sg_iret dX12_pull_10 rfl ⟨rfl, rfl⟩
set_option maxRecDepth 4000 in
theorem gM_daysRefused_ok {l : Launch} {D : va_G} {cI cZ : ClassId} {ad : Nat → Nat} {a1 : Int32} {z : sg_M} {r : Int32} (h : gM_daysRefused a1 z = r) : sg_Met (eM l D cI cZ ad) yX12_daysRefused cX12_daysRefused 2 (some .int) 2 [.ref (ad 0), .int a1] z (sg_is (some (.int r)) z) := by
  refine sg_enter (lv0 := [(0, .ref (ad 0)), (1, .int a1)]) pn_X12 (Nat.le_of_ble_eq_true rfl) rfl ?_
  unfold gM_daysRefused at h
  refine sg_iload_n (pn := 1) (i := 1) dX12_daysRefused_0 rfl rfl 1 rfl ?_
  refine sg_i2l (pn := 2) dX12_daysRefused_1 rfl ?_
  refine sg_lconst (pn := 3) dX12_daysRefused_2 rfl lc_1 ?_
  refine sg_ldc2 (pn := 6) dX12_daysRefused_3 rfl kl_X12_242 ?_
  refine sg_callSi (pn := 9) (rest := []) dX12_daysRefused_6 rfl kb_X12_81 ks_X12_in (Nat.le_of_ble_eq_true rfl) (gM_in_ok rfl) rfl rfl (Nat.le_of_ble_eq_true rfl) ?_
  refine sg_if_ne (pn := 12) (tgt := 15) dX12_daysRefused_9 rfl (by decide) (fun hc => ?_) (fun hc => ?_)
  · have h := sg_ifn hc h
    refine sg_aload_n (pn := 16) (i := 0) dX12_daysRefused_15 rfl rfl 0 rfl ?_
    refine gfM_0_0 (pn := 19) dX12_daysRefused_16 rfl lf_X12_78 ?_
    refine sg_if_ne (pn := 22) (tgt := 27) dX12_daysRefused_19 rfl (by decide) (fun hc => ?_) (fun hc => ?_)
    · have h := sg_ifn hc h
      refine sg_aload_n (pn := 28) (i := 0) dX12_daysRefused_27 rfl rfl 0 rfl ?_
      refine gfM_0_8 (pn := 31) dX12_daysRefused_28 rfl lf_X12_25 ?_
      refine sg_bipush (pn := 33) dX12_daysRefused_31 rfl ib_104 ?_
      refine alM_6 (pn := 34) dX12_daysRefused_33 rfl (sg_in_vp (by decide +kernel)) ?_
      refine sg_sipush (pn := 37) dX12_daysRefused_34 rfl is_9000 ?_
      refine sg_icmp_le (pn := 40) (tgt := 45) dX12_daysRefused_37 rfl (by decide) (fun hc => ?_) (fun hc => ?_)
      · have h := sg_ifp hc h
        refine sg_iconst (pn := 46) dX12_daysRefused_45 rfl ic_0 ?_
        subst h
        exact sg_iret dX12_daysRefused_46 rfl ⟨rfl, rfl⟩
      · have h := sg_ifn hc h
        refine sg_ldc (pn := 42) dX12_daysRefused_40 rfl kc_X12_94 ?_
        refine sg_goto (tgt := 46) dX12_daysRefused_42 (by decide) ?_
        subst h
        exact sg_iret dX12_daysRefused_46 rfl ⟨rfl, rfl⟩
    · have h := sg_ifp hc h
      refine sg_ldc (pn := 24) dX12_daysRefused_22 rfl kc_X12_232 ?_
      refine sg_goto (tgt := 46) dX12_daysRefused_24 (by decide) ?_
      subst h
      exact sg_iret dX12_daysRefused_46 rfl ⟨rfl, rfl⟩
  · have h := sg_ifp hc h
    refine sg_ldc (pn := 14) dX12_daysRefused_12 rfl kc_X12_90 ?_
    subst h
    exact sg_iret dX12_daysRefused_14 rfl ⟨rfl, rfl⟩
set_option maxRecDepth 4000 in
theorem gM_pass_ok {l : Launch} {D : va_G} {cI cZ : ClassId} {ad : Nat → Nat} {z : sg_M} {r : sg_M} (h : gM_pass z = some r) : sg_Met (eM l D cI cZ ad) yX12_pass cX12_pass 1 none 1 [.ref (ad 0)] z (sg_is none r) := by
  refine sg_enter (lv0 := [(0, .ref (ad 0))]) pn_X12 (Nat.le_of_ble_eq_true rfl) rfl ?_
  unfold gM_pass at h
  refine sg_aload_n (pn := 1) (i := 0) dX12_pass_0 rfl rfl 0 rfl ?_
  refine gfM_0_8 (pn := 4) dX12_pass_1 rfl lf_X12_25 ?_
  refine sg_bipush (pn := 6) dX12_pass_4 rfl ib_105 ?_
  refine sg_dup2 (pn := 7) dX12_pass_6 rfl rfl rfl ?_
  refine alM_6 (pn := 8) dX12_pass_7 rfl (sg_in_vp (by decide +kernel)) ?_
  refine sg_iconst (pn := 9) dX12_pass_8 rfl ic_2 ?_
  refine sg_idiv (pn := 10) dX12_pass_9 rfl (by decide +kernel) ?_
  refine asM_6 (pn := 11) dX12_pass_10 rfl (sg_in_vp (by decide +kernel)) ?_
  obtain ⟨z1, e_z1, h⟩ := sg_letE h
  refine sg_zE e_z1 ?_
  refine sg_aload_n (pn := 12) (i := 0) dX12_pass_11 rfl rfl 0 rfl ?_
  refine gfM_0_8 (pn := 15) dX12_pass_12 rfl lf_X12_25 ?_
  refine sg_bipush (pn := 17) dX12_pass_15 rfl ib_104 ?_
  refine sg_dup2 (pn := 18) dX12_pass_17 rfl rfl rfl ?_
  refine alM_6 (pn := 19) dX12_pass_18 rfl (sg_in_vp (by decide +kernel)) ?_
  refine sg_iconst (pn := 20) dX12_pass_19 rfl ic_1 ?_
  refine sg_iadd (pn := 21) dX12_pass_20 rfl ?_
  refine asM_6 (pn := 22) dX12_pass_21 rfl (sg_in_vp (by decide +kernel)) ?_
  obtain ⟨z2, e_z2, h⟩ := sg_letE h
  refine sg_zE e_z2 ?_
  obtain rfl := Option.some.inj h
  exact sg_vret dX12_pass_22 rfl ⟨rfl, rfl⟩
set_option maxRecDepth 4000 in
theorem gM_day_L_ok {l : Launch} {D : va_G} {cI cZ : ClassId} {ad : Nat → Nat} : ∀ (n : Nat) (v1 : Int32) (v3 : Int32) (z : sg_M) (r : Int32 × sg_M), gM_day_L n v1 v3 z = some r → sg_G (eM l D cI cZ ad) yX12_day cX12_day 4 (some .int) 3 18 [(0, .ref (ad 0)), (1, .int v1), (3, .int v3)] [] z (sg_is (some (.int r.1)) r.2) := by
  intro n
  induction n with
  | zero => intro v1 v3 z r h; cases h
  | succ n ih =>
    intro v1 v3 z r h
    unfold gM_day_L at h
    refine sg_iload_n (pn := 19) (i := 3) dX12_day_18 rfl rfl 2 rfl ?_
    refine sg_iload_n (pn := 20) (i := 1) dX12_day_19 rfl rfl 1 rfl ?_
    refine sg_icmp_ge (pn := 23) (tgt := 33) dX12_day_20 rfl (by decide) (fun hc => ?_) (fun hc => ?_)
    · have h := sg_ifp hc h
      refine sg_aload_n (pn := 34) (i := 0) dX12_day_33 rfl rfl 0 rfl ?_
      refine gfM_0_8 (pn := 37) dX12_day_34 rfl lf_X12_25 ?_
      refine sg_bipush (pn := 39) dX12_day_37 rfl ib_104 ?_
      refine alM_6 (pn := 40) dX12_day_39 rfl (sg_in_vp (by decide +kernel)) ?_
      obtain rfl := Option.some.inj h
      exact sg_iret dX12_day_40 rfl ⟨rfl, rfl⟩
    · have h := sg_ifn hc h
      refine sg_aload_n (pn := 24) (i := 0) dX12_day_23 rfl rfl 0 rfl ?_
      obtain ⟨r3, h_r3, h⟩ := sg_bind h
      refine sg_callVv (pn := 27) (rest := []) 0 dX12_day_24 rfl kb_X12_247 kv_X12_pass (by exact rfl) rfl (Nat.le_of_ble_eq_true rfl) (gM_pass_ok h_r3) rfl rfl (Nat.le_of_ble_eq_true rfl) ?_
      refine sg_iinc (pn := 30) (i := 3) (lv' := [(0, .ref (ad 0)), (1, .int v1), (3, .int (v3 + (1 : Int32)))]) dX12_day_27 rfl 2 rfl (ii_1 _) (Nat.le_of_ble_eq_true rfl) [1, 2, 0] rfl ?_
      refine sg_goto (tgt := 18) dX12_day_30 (by decide) ?_
      exact ih _ _ _ _ h
set_option maxRecDepth 4000 in
theorem gM_day_ok {l : Launch} {D : va_G} {cI cZ : ClassId} {ad : Nat → Nat} {n : Nat} {a1 : Int32} {z : sg_M} {r : Int32 × sg_M} (h : gM_day n a1 z = some r) : sg_Met (eM l D cI cZ ad) yX12_day cX12_day 4 (some .int) 3 [.ref (ad 0), .int a1] z (sg_is (some (.int r.1)) r.2) := by
  refine sg_enter (lv0 := [(0, .ref (ad 0)), (1, .int a1)]) pn_X12 (Nat.le_of_ble_eq_true rfl) rfl ?_
  unfold gM_day at h
  refine sg_aload_n (pn := 1) (i := 0) dX12_day_0 rfl rfl 0 rfl ?_
  refine sg_iload_n (pn := 2) (i := 1) dX12_day_1 rfl rfl 1 rfl ?_
  refine sg_callVi (pn := 5) (rest := []) 0 dX12_day_2 rfl kb_X12_244 kv_X12_daysRefused (by exact rfl) rfl (Nat.le_of_ble_eq_true rfl) (gM_daysRefused_ok rfl) rfl rfl (Nat.le_of_ble_eq_true rfl) ?_
  obtain ⟨v2_1, e_v2_1, h⟩ := sg_letE h
  refine sg_topi e_v2_1 ?_
  refine sg_istore_n (pn := 6) (i := 2) (lv' := [(0, .ref (ad 0)), (1, .int a1), (2, .int v2_1)]) dX12_day_5 rfl rfl (Nat.le_of_ble_eq_true rfl) [1, 2, 0] rfl ?_
  refine sg_iload_n (pn := 7) (i := 2) dX12_day_6 rfl rfl 2 rfl ?_
  refine sg_if_eq (pn := 10) (tgt := 12) dX12_day_7 rfl (by decide) (fun hc => ?_) (fun hc => ?_)
  · have h := sg_ifp hc h
    refine sg_aload_n (pn := 13) (i := 0) dX12_day_12 rfl rfl 0 rfl ?_
    obtain ⟨r2, h_r2, h⟩ := sg_bind h
    refine sg_callVv (pn := 16) (rest := []) 0 dX12_day_13 rfl kb_X12_233 kv_X12_remember (by exact rfl) rfl (Nat.le_of_ble_eq_true rfl) (gM_remember_ok h_r2) rfl rfl (Nat.le_of_ble_eq_true rfl) ?_
    refine sg_iconst (pn := 17) dX12_day_16 rfl ic_0 ?_
    refine sg_istore_n (pn := 18) (i := 3) (lv' := [(0, .ref (ad 0)), (1, .int a1), (2, .int v2_1), (3, .int (0 : Int32))]) dX12_day_17 rfl rfl (Nat.le_of_ble_eq_true rfl) [1, 2, 3, 0] rfl ?_
    refine sg_sub [0, 1, 3] rfl ?_
    exact gM_day_L_ok n _ _ _ _ h
  · have h := sg_ifn hc h
    refine sg_iload_n (pn := 11) (i := 2) dX12_day_10 rfl rfl 2 rfl ?_
    obtain rfl := Option.some.inj h
    exact sg_iret dX12_day_11 rfl ⟨rfl, rfl⟩
