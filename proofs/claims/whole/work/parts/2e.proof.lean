set_option maxRecDepth 4000 in
theorem gC_Trials_loadsFor_L_ok {l : Launch} {D : va_G} {cI cZ : ClassId} {ad : Nat → Nat} : ∀ (n : Nat) (v1 : Int32) (v2 : Int32) (v3 : Int32) (v4 : Int32) (z : sg_M) (r : sg_M), gC_Trials_loadsFor_L n v1 v2 v3 v4 z = some r → sg_G (eC l D cI cZ ad) yX10_loadsFor cX10_loadsFor 5 (some (.object "StuckTowns$Span")) 4 19 [(0, .ref (ad 25)), (1, .int v1), (2, .int v2), (3, .int v3), (4, .int v4)] [] z (sg_is (some (.ref (ad 27))) r) := by
  intro n
  induction n with
  | zero => intro v1 v2 v3 v4 z r h; cases h
  | succ n ih =>
    intro v1 v2 v3 v4 z r h
    unfold gC_Trials_loadsFor_L at h
    refine sg_iload (pn := 21) (i := 4) dX10_loadsFor_19 rfl 4 rfl ?_
    refine sg_bipush (pn := 23) dX10_loadsFor_21 rfl ib_60 ?_
    refine sg_icmp_gt (pn := 26) (tgt := 56) dX10_loadsFor_23 rfl (by decide) (fun hc => ?_) (fun hc => ?_)
    · have h := sg_ifp hc h
      refine sg_aload_n (pn := 57) (i := 0) dX10_loadsFor_56 rfl rfl 0 rfl ?_
      refine gfC_25_4 (pn := 60) dX10_loadsFor_57 rfl lf_X10_18 ?_
      obtain rfl := Option.some.inj h
      exact sg_aret dX10_loadsFor_60 rfl ⟨rfl, rfl⟩
    · have h := sg_ifn hc h
      refine sg_aload_n (pn := 27) (i := 0) dX10_loadsFor_26 rfl rfl 0 rfl ?_
      refine gfC_25_2 (pn := 30) dX10_loadsFor_27 rfl lf_X10_30 ?_
      refine sg_iload_n (pn := 31) (i := 1) dX10_loadsFor_30 rfl rfl 1 rfl ?_
      refine sg_iload_n (pn := 32) (i := 3) dX10_loadsFor_31 rfl rfl 3 rfl ?_
      refine sg_iload (pn := 34) (i := 4) dX10_loadsFor_32 rfl 4 rfl ?_
      obtain ⟨r3, h_r3, h⟩ := sg_bind h
      refine sg_callVi (pn := 37) (rest := []) 23 dX10_loadsFor_34 rfl kb_X10_66 kv_X2_stopOf (by exact rfl) rfl (Nat.le_of_ble_eq_true rfl) (gC_Kingdom_stopOf_ok h_r3) rfl rfl (Nat.le_of_ble_eq_true rfl) ?_
      refine sg_iload_n (pn := 38) (i := 2) dX10_loadsFor_37 rfl rfl 2 rfl ?_
      obtain ⟨t5, e_t5, h2⟩ := sg_bind h
      have hm_t5 : sg_G (eC l D cI cZ ad) yX10_loadsFor cX10_loadsFor 5 (some (.object "StuckTowns$Span")) 4 50 [(0, .ref (ad 25)), (1, .int v1), (2, .int v2), (3, .int v3), (4, .int v4)] [] t5 (sg_is (some (.ref (ad 27))) r) := by
        have h := h2
        refine sg_iinc (pn := 53) (i := 4) (lv' := [(0, .ref (ad 25)), (1, .int v1), (2, .int v2), (3, .int v3), (4, .int (v4 + (1 : Int32)))]) dX10_loadsFor_50 rfl 4 rfl (ii_1 _) (Nat.le_of_ble_eq_true rfl) [1, 2, 3, 4, 0] rfl ?_
        refine sg_goto (tgt := 19) dX10_loadsFor_53 (by decide) ?_
        exact ih _ _ _ _ _ _ h
      have h := e_t5
      refine sg_icmp_ne (pn := 41) (tgt := 50) dX10_loadsFor_38 rfl (by decide) (fun hc => ?_) (fun hc => ?_)
      · have h := sg_ifn hc h
        obtain rfl := Option.some.inj h
        exact hm_t5
      · have h := sg_ifp hc h
        refine sg_aload_n (pn := 42) (i := 0) dX10_loadsFor_41 rfl rfl 0 rfl ?_
        refine gfC_25_4 (pn := 45) dX10_loadsFor_42 rfl lf_X10_18 ?_
        refine sg_iload (pn := 47) (i := 4) dX10_loadsFor_45 rfl 4 rfl ?_
        obtain ⟨r4, h_r4, h⟩ := sg_bind h
        refine sg_callVv (pn := 50) (rest := []) 27 dX10_loadsFor_47 rfl kb_X10_70 kv_X7_put (by exact rfl) rfl (Nat.le_of_ble_eq_true rfl) (gC_Span_put_27_ok h_r4) rfl rfl (Nat.le_of_ble_eq_true rfl) ?_
        obtain rfl := Option.some.inj h
        exact hm_t5
set_option maxRecDepth 4000 in
theorem gC_Trials_loadsFor_ok {l : Launch} {D : va_G} {cI cZ : ClassId} {ad : Nat → Nat} {n : Nat} {a1 : Int32} {a2 : Int32} {z : sg_M} {r : sg_M} (h : gC_Trials_loadsFor n a1 a2 z = some r) : sg_Met (eC l D cI cZ ad) yX10_loadsFor cX10_loadsFor 5 (some (.object "StuckTowns$Span")) 4 [.ref (ad 25), .int a1, .int a2] z (sg_is (some (.ref (ad 27))) r) := by
  refine sg_enter (lv0 := [(0, .ref (ad 25)), (1, .int a1), (2, .int a2)]) pn_X10 (Nat.le_of_ble_eq_true rfl) rfl ?_
  unfold gC_Trials_loadsFor at h
  refine sg_aload_n (pn := 1) (i := 0) dX10_loadsFor_0 rfl rfl 0 rfl ?_
  refine gfC_25_2 (pn := 4) dX10_loadsFor_1 rfl lf_X10_30 ?_
  refine sg_iconst (pn := 5) dX10_loadsFor_4 rfl ic_0 ?_
  obtain ⟨r1, h_r1, h⟩ := sg_bind h
  refine sg_callVi (pn := 8) (rest := []) 23 dX10_loadsFor_5 rfl kb_X10_59 kv_X2_wetBehind (by exact rfl) rfl (Nat.le_of_ble_eq_true rfl) (gC_Kingdom_wetBehind_ok h_r1) rfl rfl (Nat.le_of_ble_eq_true rfl) ?_
  refine sg_istore_n (pn := 9) (i := 3) (lv' := [(0, .ref (ad 25)), (1, .int a1), (2, .int a2), (3, .int r1)]) dX10_loadsFor_8 rfl rfl (Nat.le_of_ble_eq_true rfl) [1, 2, 3, 0] rfl ?_
  refine sg_aload_n (pn := 10) (i := 0) dX10_loadsFor_9 rfl rfl 0 rfl ?_
  refine gfC_25_4 (pn := 13) dX10_loadsFor_10 rfl lf_X10_18 ?_
  obtain ⟨r2, h_r2, h⟩ := sg_bind h
  refine sg_callVv (pn := 16) (rest := []) 27 dX10_loadsFor_13 rfl kb_X10_63 kv_X7_clear (by exact rfl) rfl (Nat.le_of_ble_eq_true rfl) (gC_Span_clear_27_ok h_r2) rfl rfl (Nat.le_of_ble_eq_true rfl) ?_
  refine sg_iconst (pn := 17) dX10_loadsFor_16 rfl ic_1 ?_
  refine sg_istore (pn := 19) (i := 4) (lv' := [(0, .ref (ad 25)), (1, .int a1), (2, .int a2), (3, .int r1), (4, .int (1 : Int32))]) dX10_loadsFor_17 rfl (Nat.le_of_ble_eq_true rfl) [1, 2, 3, 4, 0] rfl ?_
  exact gC_Trials_loadsFor_L_ok n _ _ _ _ _ _ h
set_option maxRecDepth 4000 in
theorem gC_Span_answer_27_ok {l : Launch} {D : va_G} {cI cZ : ClassId} {ad : Nat → Nat} {a1 : Int32} {z : sg_M} {r : Int32} (h : gC_Span_answer_27 a1 z = r) : sg_Met (eC l D cI cZ ad) yX7_answer cX7_answer 2 (some .int) 1 [.ref (ad 27), .int a1] z (sg_is (some (.int r)) z) := by
  refine sg_enter (lv0 := [(0, .ref (ad 27)), (1, .int a1)]) pn_X7 (Nat.le_of_ble_eq_true rfl) rfl ?_
  unfold gC_Span_answer_27 at h
  refine sg_iload_n (pn := 1) (i := 1) dX7_answer_0 rfl rfl 1 rfl ?_
  refine sg_if_ne (pn := 4) (tgt := 9) dX7_answer_1 rfl (by decide) (fun hc => ?_) (fun hc => ?_)
  · have h := sg_ifn hc h
    refine sg_iload_n (pn := 10) (i := 1) dX7_answer_9 rfl rfl 1 rfl ?_
    refine sg_iconst (pn := 11) dX7_answer_10 rfl ic_1 ?_
    refine sg_icmp_ne (pn := 14) (tgt := 21) dX7_answer_11 rfl (by decide) (fun hc => ?_) (fun hc => ?_)
    · have h := sg_ifn hc h
      refine sg_aload_n (pn := 22) (i := 0) dX7_answer_21 rfl rfl 0 rfl ?_
      refine gfC_27_2 (pn := 25) dX7_answer_22 rfl lf_X7_18 ?_
      subst h
      exact sg_iret dX7_answer_25 rfl ⟨rfl, rfl⟩
    · have h := sg_ifp hc h
      refine sg_aload_n (pn := 15) (i := 0) dX7_answer_14 rfl rfl 0 rfl ?_
      refine gfC_27_1 (pn := 18) dX7_answer_15 rfl lf_X7_15 ?_
      refine sg_goto (tgt := 25) dX7_answer_18 (by decide) ?_
      subst h
      exact sg_iret dX7_answer_25 rfl ⟨rfl, rfl⟩
  · have h := sg_ifp hc h
    refine sg_aload_n (pn := 5) (i := 0) dX7_answer_4 rfl rfl 0 rfl ?_
    refine gfC_27_0 (pn := 8) dX7_answer_5 rfl lf_X7_9 ?_
    subst h
    exact sg_iret dX7_answer_8 rfl ⟨rfl, rfl⟩
set_option maxRecDepth 4000 in
theorem gC_loads_ok {l : Launch} {D : va_G} {cI cZ : ClassId} {ad : Nat → Nat} {n : Nat} {a1 : Int32} {a2 : Int32} {a3 : Int32} {z : sg_M} {r : Int32 × sg_M} (h : gC_loads n a1 a2 a3 z = some r) : sg_Met (eC l D cI cZ ad) yX11_loads cX11_loads 4 (some .int) 5 [.ref (ad 0), .int a1, .int a2, .int a3] z (sg_is (some (.int r.1)) r.2) := by
  refine sg_enter (lv0 := [(0, .ref (ad 0)), (1, .int a1), (2, .int a2), (3, .int a3)]) pn_X11 (Nat.le_of_ble_eq_true rfl) rfl ?_
  unfold gC_loads at h
  refine sg_aload_n (pn := 1) (i := 0) dX11_loads_0 rfl rfl 0 rfl ?_
  refine gfC_0_1 (pn := 4) dX11_loads_1 rfl lf_X11_19 ?_
  refine sg_iload_n (pn := 5) (i := 1) dX11_loads_4 rfl rfl 1 rfl ?_
  refine sg_callVi (pn := 8) (rest := []) 9 dX11_loads_5 rfl kb_X11_188 kv_X6_hasCart (by exact rfl) rfl (Nat.le_of_ble_eq_true rfl) (gC_Road_hasCart_ok rfl) rfl rfl (Nat.le_of_ble_eq_true rfl) ?_
  refine sg_if_eq (pn := 11) (tgt := 22) dX11_loads_8 rfl (by decide) (fun hc => ?_) (fun hc => ?_)
  · have h := sg_ifp hc h
    refine sg_ldc (pn := 24) dX11_loads_22 rfl kc_X11_171 ?_
    obtain rfl := Option.some.inj h
    exact sg_iret dX11_loads_24 rfl ⟨rfl, rfl⟩
  · have h := sg_ifn hc h
    refine sg_aload_n (pn := 12) (i := 0) dX11_loads_11 rfl rfl 0 rfl ?_
    refine gfC_0_1 (pn := 15) dX11_loads_12 rfl lf_X11_19 ?_
    refine sg_iload_n (pn := 16) (i := 2) dX11_loads_15 rfl rfl 2 rfl ?_
    refine sg_callVi (pn := 19) (rest := []) 9 dX11_loads_16 rfl kb_X11_167 kv_X6_hasCell (by exact rfl) rfl (Nat.le_of_ble_eq_true rfl) (gC_Road_hasCell_ok rfl) rfl rfl (Nat.le_of_ble_eq_true rfl) ?_
    refine sg_if_ne (pn := 22) (tgt := 25) dX11_loads_19 rfl (by decide) (fun hc => ?_) (fun hc => ?_)
    · have h := sg_ifn hc h
      refine sg_iload_n (pn := 26) (i := 3) dX11_loads_25 rfl rfl 3 rfl ?_
      refine sg_if_lt (pn := 29) (tgt := 34) dX11_loads_26 rfl (by decide) (fun hc => ?_) (fun hc => ?_)
      · have h := sg_ifp hc h
        refine sg_ldc (pn := 36) dX11_loads_34 rfl kc_X11_99 ?_
        obtain rfl := Option.some.inj h
        exact sg_iret dX11_loads_36 rfl ⟨rfl, rfl⟩
      · have h := sg_ifn hc h
        refine sg_iload_n (pn := 30) (i := 3) dX11_loads_29 rfl rfl 3 rfl ?_
        refine sg_iconst (pn := 31) dX11_loads_30 rfl ic_2 ?_
        refine sg_icmp_le (pn := 34) (tgt := 37) dX11_loads_31 rfl (by decide) (fun hc => ?_) (fun hc => ?_)
        · have h := sg_ifp hc h
          refine sg_aload_n (pn := 38) (i := 0) dX11_loads_37 rfl rfl 0 rfl ?_
          refine gfC_0_5 (pn := 41) dX11_loads_38 rfl lf_X11_51 ?_
          refine sg_iload_n (pn := 42) (i := 1) dX11_loads_41 rfl rfl 1 rfl ?_
          refine sg_iload_n (pn := 43) (i := 2) dX11_loads_42 rfl rfl 2 rfl ?_
          obtain ⟨r1, h_r1, h⟩ := sg_bind h
          refine sg_callVa (pn := 46) (rest := []) 25 dX11_loads_43 rfl kb_X11_259 kv_X10_loadsFor (by exact rfl) rfl (Nat.le_of_ble_eq_true rfl) (gC_Trials_loadsFor_ok h_r1) rfl rfl (Nat.le_of_ble_eq_true rfl) ?_
          refine sg_iload_n (pn := 47) (i := 3) dX11_loads_46 rfl rfl 3 rfl ?_
          refine sg_callVi (pn := 50) (rest := []) 27 dX11_loads_47 rfl kb_X11_263 kv_X7_answer (by exact rfl) rfl (Nat.le_of_ble_eq_true rfl) (gC_Span_answer_27_ok rfl) rfl rfl (Nat.le_of_ble_eq_true rfl) ?_
          obtain rfl := Option.some.inj h
          exact sg_iret dX11_loads_50 rfl ⟨rfl, rfl⟩
        · have h := sg_ifn hc h
          refine sg_ldc (pn := 36) dX11_loads_34 rfl kc_X11_99 ?_
          obtain rfl := Option.some.inj h
          exact sg_iret dX11_loads_36 rfl ⟨rfl, rfl⟩
    · have h := sg_ifp hc h
      refine sg_ldc (pn := 24) dX11_loads_22 rfl kc_X11_171 ?_
      obtain rfl := Option.some.inj h
      exact sg_iret dX11_loads_24 rfl ⟨rfl, rfl⟩
set_option maxRecDepth 4000 in
theorem gC_Trials_needAt_ok {l : Launch} {D : va_G} {cI cZ : ClassId} {ad : Nat → Nat} {n : Nat} {a1 : Int32} {a2 : Int32} {z : sg_M} {r : Int32} (h : gC_Trials_needAt n a1 a2 z = some r) : sg_Met (eC l D cI cZ ad) yX10_needAt cX10_needAt 5 (some .int) 3 [.ref (ad 25), .int a1, .int a2] z (sg_is (some (.int r)) z) := by
  refine sg_enter (lv0 := [(0, .ref (ad 25)), (1, .int a1), (2, .int a2)]) pn_X10 (Nat.le_of_ble_eq_true rfl) rfl ?_
  unfold gC_Trials_needAt at h
  refine sg_aload_n (pn := 1) (i := 0) dX10_needAt_0 rfl rfl 0 rfl ?_
  refine gfC_25_2 (pn := 4) dX10_needAt_1 rfl lf_X10_30 ?_
  refine sg_iload_n (pn := 5) (i := 1) dX10_needAt_4 rfl rfl 1 rfl ?_
  refine sg_iload_n (pn := 6) (i := 2) dX10_needAt_5 rfl rfl 2 rfl ?_
  refine sg_aload_n (pn := 7) (i := 0) dX10_needAt_6 rfl rfl 0 rfl ?_
  refine gfC_25_2 (pn := 10) dX10_needAt_7 rfl lf_X10_30 ?_
  refine sg_iconst (pn := 11) dX10_needAt_10 rfl ic_0 ?_
  obtain ⟨r1, h_r1, h⟩ := sg_bind h
  refine sg_callVi (pn := 14) (rest := [.int a2, .int a1, .ref (ad 23)]) 23 dX10_needAt_11 rfl kb_X10_59 kv_X2_wetBehind (by exact rfl) rfl (Nat.le_of_ble_eq_true rfl) (gC_Kingdom_wetBehind_ok h_r1) rfl rfl (Nat.le_of_ble_eq_true rfl) ?_
  obtain ⟨r2, h_r2, h⟩ := sg_bind h
  refine sg_callVi (pn := 17) (rest := []) 23 dX10_needAt_14 rfl kb_X10_74 kv_X2_groundFor (by exact rfl) rfl (Nat.le_of_ble_eq_true rfl) (gC_Kingdom_groundFor_ok h_r2) rfl rfl (Nat.le_of_ble_eq_true rfl) ?_
  refine sg_istore_n (pn := 18) (i := 3) (lv' := [(0, .ref (ad 25)), (1, .int a1), (2, .int a2), (3, .int r2)]) dX10_needAt_17 rfl rfl (Nat.le_of_ble_eq_true rfl) [1, 2, 3, 0] rfl ?_
  refine sg_aload_n (pn := 19) (i := 0) dX10_needAt_18 rfl rfl 0 rfl ?_
  refine gfC_25_2 (pn := 22) dX10_needAt_19 rfl lf_X10_30 ?_
  refine sg_iload_n (pn := 23) (i := 1) dX10_needAt_22 rfl rfl 1 rfl ?_
  refine sg_aload_n (pn := 24) (i := 0) dX10_needAt_23 rfl rfl 0 rfl ?_
  refine gfC_25_1 (pn := 27) dX10_needAt_24 rfl lf_X10_26 ?_
  refine gfC_15_6 (pn := 30) dX10_needAt_27 rfl lf_X10_77 ?_
  refine sg_iload_n (pn := 31) (i := 1) dX10_needAt_30 rfl rfl 1 rfl ?_
  obtain ⟨hg, h⟩ := sg_guard h
  refine alC_20 (pn := 32) dX10_needAt_31 rfl (sg_in_vp hg) ?_
  obtain ⟨r3, h_r3, h⟩ := sg_bind h
  refine sg_callVi (pn := 35) (rest := []) 23 dX10_needAt_32 rfl kb_X10_82 kv_X2_weightOf (by exact rfl) rfl (Nat.le_of_ble_eq_true rfl) (gC_Kingdom_weightOf_ok h_r3) rfl rfl (Nat.le_of_ble_eq_true rfl) ?_
  refine sg_istore (pn := 37) (i := 4) (lv' := [(0, .ref (ad 25)), (1, .int a1), (2, .int a2), (3, .int r2), (4, .int r3)]) dX10_needAt_35 rfl (Nat.le_of_ble_eq_true rfl) [1, 2, 3, 4, 0] rfl ?_
  refine sg_iload_n (pn := 38) (i := 3) dX10_needAt_37 rfl rfl 3 rfl ?_
  refine sg_iload (pn := 40) (i := 4) dX10_needAt_38 rfl 4 rfl ?_
  refine sg_iadd (pn := 41) dX10_needAt_40 rfl ?_
  refine sg_bipush (pn := 43) dX10_needAt_41 rfl ib_60 ?_
  refine sg_icmp_ge (pn := 46) (tgt := 48) dX10_needAt_43 rfl (by decide) (fun hc => ?_) (fun hc => ?_)
  · have h := sg_ifp hc h
    refine sg_iload (pn := 50) (i := 4) dX10_needAt_48 rfl 4 rfl ?_
    refine sg_bipush (pn := 52) dX10_needAt_50 rfl ib_60 ?_
    refine sg_icmp_ge (pn := 55) (tgt := 67) dX10_needAt_52 rfl (by decide) (fun hc => ?_) (fun hc => ?_)
    · have h := sg_ifp hc h
      refine sg_iconst (pn := 68) dX10_needAt_67 rfl ic_m1 ?_
      obtain rfl := Option.some.inj h
      exact sg_iret dX10_needAt_68 rfl ⟨rfl, rfl⟩
    · have h := sg_ifn hc h
      refine sg_iload_n (pn := 56) (i := 3) dX10_needAt_55 rfl rfl 3 rfl ?_
      refine sg_iload (pn := 58) (i := 4) dX10_needAt_56 rfl 4 rfl ?_
      refine sg_iadd (pn := 59) dX10_needAt_58 rfl ?_
      refine sg_bipush (pn := 61) dX10_needAt_59 rfl ib_60 ?_
      refine sg_isub (pn := 62) dX10_needAt_61 rfl ?_
      refine sg_iconst (pn := 63) dX10_needAt_62 rfl ic_1 ?_
      refine sg_iadd (pn := 64) dX10_needAt_63 rfl ?_
      refine sg_goto (tgt := 68) dX10_needAt_64 (by decide) ?_
      obtain rfl := Option.some.inj h
      exact sg_iret dX10_needAt_68 rfl ⟨rfl, rfl⟩
  · have h := sg_ifn hc h
    refine sg_iconst (pn := 47) dX10_needAt_46 rfl ic_0 ?_
    obtain rfl := Option.some.inj h
    exact sg_iret dX10_needAt_47 rfl ⟨rfl, rfl⟩
set_option maxRecDepth 4000 in
theorem gC_Trials_greatestNeedAt_L_ok {l : Launch} {D : va_G} {cI cZ : ClassId} {ad : Nat → Nat} : ∀ (n : Nat) (v1 : Int32) (v2 : Int32) (v3 : Int32) (v4 : Int32) (z : sg_M) (r : Int32), gC_Trials_greatestNeedAt_L n v1 v2 v3 v4 z = some r → sg_G (eC l D cI cZ ad) yX10_greatestNeedAt cX10_greatestNeedAt 6 (some .int) 4 5 [(0, .ref (ad 25)), (1, .int v1), (2, .int v2), (3, .int v3), (4, .int v4)] [] z (sg_is (some (.int r)) z) := by
  intro n
  induction n with
  | zero => intro v1 v2 v3 v4 z r h; cases h
  | succ n ih =>
    intro v1 v2 v3 v4 z r h
    unfold gC_Trials_greatestNeedAt_L at h
    refine sg_iload (pn := 7) (i := 4) dX10_greatestNeedAt_5 rfl 4 rfl ?_
    refine sg_aload_n (pn := 8) (i := 0) dX10_greatestNeedAt_7 rfl rfl 0 rfl ?_
    refine gfC_25_0 (pn := 11) dX10_greatestNeedAt_8 rfl lf_X10_22 ?_
    refine gfC_9_2 (pn := 14) dX10_greatestNeedAt_11 rfl lf_X10_40 ?_
    refine sg_icmp_ge (pn := 17) (tgt := 56) dX10_greatestNeedAt_14 rfl (by decide) (fun hc => ?_) (fun hc => ?_)
    · have h := sg_ifp hc h
      refine sg_iload_n (pn := 57) (i := 3) dX10_greatestNeedAt_56 rfl rfl 3 rfl ?_
      obtain rfl := Option.some.inj h
      exact sg_iret dX10_greatestNeedAt_57 rfl ⟨rfl, rfl⟩
    · have h := sg_ifn hc h
      refine sg_iload_n (pn := 18) (i := 1) dX10_greatestNeedAt_17 rfl rfl 1 rfl ?_
      refine sg_iload (pn := 20) (i := 4) dX10_greatestNeedAt_18 rfl 4 rfl ?_
      refine sg_ishr (pn := 21) dX10_greatestNeedAt_20 rfl ?_
      refine sg_iconst (pn := 22) dX10_greatestNeedAt_21 rfl ic_1 ?_
      refine sg_iand (pn := 23) dX10_greatestNeedAt_22 rfl ?_
      refine sg_if_eq (pn := 26) (tgt := 50) dX10_greatestNeedAt_23 rfl (by decide) (fun hc => ?_) (fun hc => ?_)
      · have h := sg_ifp hc h
        refine sg_iinc (pn := 53) (i := 4) (lv' := [(0, .ref (ad 25)), (1, .int v1), (2, .int v2), (3, .int v3), (4, .int (v4 + (1 : Int32)))]) dX10_greatestNeedAt_50 rfl 4 rfl (ii_1 _) (Nat.le_of_ble_eq_true rfl) [1, 2, 3, 4, 0] rfl ?_
        refine sg_goto (tgt := 5) dX10_greatestNeedAt_53 (by decide) ?_
        exact ih _ _ _ _ _ _ h
      · have h := sg_ifn hc h
        refine sg_aload_n (pn := 27) (i := 0) dX10_greatestNeedAt_26 rfl rfl 0 rfl ?_
        refine sg_iload (pn := 29) (i := 4) dX10_greatestNeedAt_27 rfl 4 rfl ?_
        refine sg_iload_n (pn := 30) (i := 2) dX10_greatestNeedAt_29 rfl rfl 2 rfl ?_
        obtain ⟨r1, h_r1, h⟩ := sg_bind h
        refine sg_callVi (pn := 33) (rest := []) 25 dX10_greatestNeedAt_30 rfl kb_X10_85 kv_X10_needAt (by exact rfl) rfl (Nat.le_of_ble_eq_true rfl) (gC_Trials_needAt_ok h_r1) rfl rfl (Nat.le_of_ble_eq_true rfl) ?_
        refine sg_istore (pn := 35) (i := 5) (lv' := [(0, .ref (ad 25)), (1, .int v1), (2, .int v2), (3, .int v3), (4, .int v4), (5, .int r1)]) dX10_greatestNeedAt_33 rfl (Nat.le_of_ble_eq_true rfl) [1, 2, 3, 4, 5, 0] rfl ?_
        refine sg_iload (pn := 37) (i := 5) dX10_greatestNeedAt_35 rfl 5 rfl ?_
        refine sg_iconst (pn := 38) dX10_greatestNeedAt_37 rfl ic_m1 ?_
        refine sg_icmp_ne (pn := 41) (tgt := 43) dX10_greatestNeedAt_38 rfl (by decide) (fun hc => ?_) (fun hc => ?_)
        · have h := sg_ifn hc h
          refine sg_iload_n (pn := 44) (i := 3) dX10_greatestNeedAt_43 rfl rfl 3 rfl ?_
          refine sg_iload (pn := 46) (i := 5) dX10_greatestNeedAt_44 rfl 5 rfl ?_
          refine sg_mmax (pn := 49) dX10_greatestNeedAt_46 rfl lm_X10_88 sg_mw_max (Nat.le_of_ble_eq_true rfl) (Nat.le_of_ble_eq_true rfl) ?_
          obtain ⟨v3_2, e_v3_2, h⟩ := sg_letE h
          refine sg_topi e_v3_2 ?_
          refine sg_istore_n (pn := 50) (i := 3) (lv' := [(0, .ref (ad 25)), (1, .int v1), (2, .int v2), (3, .int v3_2), (4, .int v4), (5, .int r1)]) dX10_greatestNeedAt_49 rfl rfl (Nat.le_of_ble_eq_true rfl) [1, 2, 3, 0, 4, 5] rfl ?_
          refine sg_iinc (pn := 53) (i := 4) (lv' := [(0, .ref (ad 25)), (1, .int v1), (2, .int v2), (3, .int v3_2), (4, .int (v4 + (1 : Int32))), (5, .int r1)]) dX10_greatestNeedAt_50 rfl 4 rfl (ii_1 _) (Nat.le_of_ble_eq_true rfl) [1, 2, 3, 4, 0, 5] rfl ?_
          refine sg_goto (tgt := 5) dX10_greatestNeedAt_53 (by decide) ?_
          refine sg_sub [0, 1, 2, 3, 4] rfl ?_
          exact ih _ _ _ _ _ _ h
        · have h := sg_ifp hc h
          refine sg_iconst (pn := 42) dX10_greatestNeedAt_41 rfl ic_m1 ?_
          obtain rfl := Option.some.inj h
          exact sg_iret dX10_greatestNeedAt_42 rfl ⟨rfl, rfl⟩
set_option maxRecDepth 4000 in
theorem gC_Trials_greatestNeedAt_ok {l : Launch} {D : va_G} {cI cZ : ClassId} {ad : Nat → Nat} {n : Nat} {a1 : Int32} {a2 : Int32} {z : sg_M} {r : Int32} (h : gC_Trials_greatestNeedAt n a1 a2 z = some r) : sg_Met (eC l D cI cZ ad) yX10_greatestNeedAt cX10_greatestNeedAt 6 (some .int) 4 [.ref (ad 25), .int a1, .int a2] z (sg_is (some (.int r)) z) := by
  refine sg_enter (lv0 := [(0, .ref (ad 25)), (1, .int a1), (2, .int a2)]) pn_X10 (Nat.le_of_ble_eq_true rfl) rfl ?_
  unfold gC_Trials_greatestNeedAt at h
  refine sg_iconst (pn := 1) dX10_greatestNeedAt_0 rfl ic_0 ?_
  refine sg_istore_n (pn := 2) (i := 3) (lv' := [(0, .ref (ad 25)), (1, .int a1), (2, .int a2), (3, .int (0 : Int32))]) dX10_greatestNeedAt_1 rfl rfl (Nat.le_of_ble_eq_true rfl) [1, 2, 3, 0] rfl ?_
  refine sg_iconst (pn := 3) dX10_greatestNeedAt_2 rfl ic_0 ?_
  refine sg_istore (pn := 5) (i := 4) (lv' := [(0, .ref (ad 25)), (1, .int a1), (2, .int a2), (3, .int (0 : Int32)), (4, .int (0 : Int32))]) dX10_greatestNeedAt_3 rfl (Nat.le_of_ble_eq_true rfl) [1, 2, 3, 4, 0] rfl ?_
  exact gC_Trials_greatestNeedAt_L_ok n _ _ _ _ _ _ h
set_option maxRecDepth 4000 in
theorem gC_Trials_gravelAhead_L_ok {l : Launch} {D : va_G} {cI cZ : ClassId} {ad : Nat → Nat} : ∀ (n : Nat) (v1 : Int32) (v2 : Int32) (v3 : Int32) (v4 : Int32) (z : sg_M) (r : Int32), gC_Trials_gravelAhead_L n v1 v2 v3 v4 z = some r → sg_G (eC l D cI cZ ad) yX10_gravelAhead cX10_gravelAhead 6 (some .int) 5 5 [(0, .ref (ad 25)), (1, .int v1), (2, .int v2), (3, .int v3), (4, .int v4)] [] z (sg_is (some (.int r)) z) := by
  intro n
  induction n with
  | zero => intro v1 v2 v3 v4 z r h; cases h
  | succ n ih =>
    intro v1 v2 v3 v4 z r h
    unfold gC_Trials_gravelAhead_L at h
    refine sg_iload (pn := 7) (i := 4) dX10_gravelAhead_5 rfl 4 rfl ?_
    refine sg_iload_n (pn := 8) (i := 2) dX10_gravelAhead_7 rfl rfl 2 rfl ?_
    refine sg_icmp_ge (pn := 11) (tgt := 51) dX10_gravelAhead_8 rfl (by decide) (fun hc => ?_) (fun hc => ?_)
    · have h := sg_ifp hc h
      refine sg_iload_n (pn := 52) (i := 3) dX10_gravelAhead_51 rfl rfl 3 rfl ?_
      obtain rfl := Option.some.inj h
      exact sg_iret dX10_gravelAhead_52 rfl ⟨rfl, rfl⟩
    · have h := sg_ifn hc h
      refine sg_iload (pn := 13) (i := 4) dX10_gravelAhead_11 rfl 4 rfl ?_
      refine sg_aload_n (pn := 14) (i := 0) dX10_gravelAhead_13 rfl rfl 0 rfl ?_
      refine gfC_25_0 (pn := 17) dX10_gravelAhead_14 rfl lf_X10_22 ?_
      refine gfC_9_0 (pn := 20) dX10_gravelAhead_17 rfl lf_X10_56 ?_
      refine sg_icmp_ge (pn := 23) (tgt := 51) dX10_gravelAhead_20 rfl (by decide) (fun hc => ?_) (fun hc => ?_)
      · have h := sg_ifp hc h
        refine sg_iload_n (pn := 52) (i := 3) dX10_gravelAhead_51 rfl rfl 3 rfl ?_
        obtain rfl := Option.some.inj h
        exact sg_iret dX10_gravelAhead_52 rfl ⟨rfl, rfl⟩
      · have h := sg_ifn hc h
        refine sg_aload_n (pn := 24) (i := 0) dX10_gravelAhead_23 rfl rfl 0 rfl ?_
        refine sg_iload_n (pn := 25) (i := 1) dX10_gravelAhead_24 rfl rfl 1 rfl ?_
        refine sg_iload (pn := 27) (i := 4) dX10_gravelAhead_25 rfl 4 rfl ?_
        obtain ⟨r1, h_r1, h⟩ := sg_bind h
        refine sg_callVi (pn := 30) (rest := []) 25 dX10_gravelAhead_27 rfl kb_X10_93 kv_X10_greatestNeedAt (by exact rfl) rfl (Nat.le_of_ble_eq_true rfl) (gC_Trials_greatestNeedAt_ok h_r1) rfl rfl (Nat.le_of_ble_eq_true rfl) ?_
        refine sg_istore (pn := 32) (i := 5) (lv' := [(0, .ref (ad 25)), (1, .int v1), (2, .int v2), (3, .int v3), (4, .int v4), (5, .int r1)]) dX10_gravelAhead_30 rfl (Nat.le_of_ble_eq_true rfl) [1, 2, 3, 4, 5, 0] rfl ?_
        refine sg_iload (pn := 34) (i := 5) dX10_gravelAhead_32 rfl 5 rfl ?_
        refine sg_iconst (pn := 35) dX10_gravelAhead_34 rfl ic_m1 ?_
        refine sg_icmp_ne (pn := 38) (tgt := 40) dX10_gravelAhead_35 rfl (by decide) (fun hc => ?_) (fun hc => ?_)
        · have h := sg_ifn hc h
          refine sg_iload_n (pn := 41) (i := 3) dX10_gravelAhead_40 rfl rfl 3 rfl ?_
          refine sg_iload (pn := 43) (i := 5) dX10_gravelAhead_41 rfl 5 rfl ?_
          refine sg_iadd (pn := 44) dX10_gravelAhead_43 rfl ?_
          obtain ⟨v3_2, e_v3_2, h⟩ := sg_letE h
          refine sg_topi e_v3_2 ?_
          refine sg_istore_n (pn := 45) (i := 3) (lv' := [(0, .ref (ad 25)), (1, .int v1), (2, .int v2), (3, .int v3_2), (4, .int v4), (5, .int r1)]) dX10_gravelAhead_44 rfl rfl (Nat.le_of_ble_eq_true rfl) [1, 2, 3, 0, 4, 5] rfl ?_
          refine sg_iinc (pn := 48) (i := 4) (lv' := [(0, .ref (ad 25)), (1, .int v1), (2, .int v2), (3, .int v3_2), (4, .int (v4 + (1 : Int32))), (5, .int r1)]) dX10_gravelAhead_45 rfl 4 rfl (ii_1 _) (Nat.le_of_ble_eq_true rfl) [1, 2, 3, 4, 0, 5] rfl ?_
          refine sg_goto (tgt := 5) dX10_gravelAhead_48 (by decide) ?_
          refine sg_sub [0, 1, 2, 3, 4] rfl ?_
          exact ih _ _ _ _ _ _ h
        · have h := sg_ifp hc h
          refine sg_iconst (pn := 39) dX10_gravelAhead_38 rfl ic_m1 ?_
          obtain rfl := Option.some.inj h
          exact sg_iret dX10_gravelAhead_39 rfl ⟨rfl, rfl⟩
set_option maxRecDepth 4000 in
theorem gC_Trials_gravelAhead_ok {l : Launch} {D : va_G} {cI cZ : ClassId} {ad : Nat → Nat} {n : Nat} {a1 : Int32} {a2 : Int32} {z : sg_M} {r : Int32} (h : gC_Trials_gravelAhead n a1 a2 z = some r) : sg_Met (eC l D cI cZ ad) yX10_gravelAhead cX10_gravelAhead 6 (some .int) 5 [.ref (ad 25), .int a1, .int a2] z (sg_is (some (.int r)) z) := by
  refine sg_enter (lv0 := [(0, .ref (ad 25)), (1, .int a1), (2, .int a2)]) pn_X10 (Nat.le_of_ble_eq_true rfl) rfl ?_
  unfold gC_Trials_gravelAhead at h
  refine sg_iconst (pn := 1) dX10_gravelAhead_0 rfl ic_0 ?_
  refine sg_istore_n (pn := 2) (i := 3) (lv' := [(0, .ref (ad 25)), (1, .int a1), (2, .int a2), (3, .int (0 : Int32))]) dX10_gravelAhead_1 rfl rfl (Nat.le_of_ble_eq_true rfl) [1, 2, 3, 0] rfl ?_
  refine sg_iconst (pn := 3) dX10_gravelAhead_2 rfl ic_0 ?_
  refine sg_istore (pn := 5) (i := 4) (lv' := [(0, .ref (ad 25)), (1, .int a1), (2, .int a2), (3, .int (0 : Int32)), (4, .int (0 : Int32))]) dX10_gravelAhead_3 rfl (Nat.le_of_ble_eq_true rfl) [1, 2, 3, 4, 0] rfl ?_
  exact gC_Trials_gravelAhead_L_ok n _ _ _ _ _ _ h
set_option maxRecDepth 4000 in
theorem gC_gravelTo_ok {l : Launch} {D : va_G} {cI cZ : ClassId} {ad : Nat → Nat} {n : Nat} {a1 : Int32} {a2 : Int32} {z : sg_M} {r : Int32} (h : gC_gravelTo n a1 a2 z = some r) : sg_Met (eC l D cI cZ ad) yX11_gravelTo cX11_gravelTo 3 (some .int) 6 [.ref (ad 0), .int a1, .int a2] z (sg_is (some (.int r)) z) := by
  refine sg_enter (lv0 := [(0, .ref (ad 0)), (1, .int a1), (2, .int a2)]) pn_X11 (Nat.le_of_ble_eq_true rfl) rfl ?_
  unfold gC_gravelTo at h
  refine sg_aload_n (pn := 1) (i := 0) dX11_gravelTo_0 rfl rfl 0 rfl ?_
  refine gfC_0_1 (pn := 4) dX11_gravelTo_1 rfl lf_X11_19 ?_
  refine sg_iload_n (pn := 5) (i := 1) dX11_gravelTo_4 rfl rfl 1 rfl ?_
  refine sg_callVi (pn := 8) (rest := []) 9 dX11_gravelTo_5 rfl kb_X11_188 kv_X6_hasCart (by exact rfl) rfl (Nat.le_of_ble_eq_true rfl) (gC_Road_hasCart_ok rfl) rfl rfl (Nat.le_of_ble_eq_true rfl) ?_
  refine sg_if_eq (pn := 11) (tgt := 22) dX11_gravelTo_8 rfl (by decide) (fun hc => ?_) (fun hc => ?_)
  · have h := sg_ifp hc h
    refine sg_ldc (pn := 24) dX11_gravelTo_22 rfl kc_X11_171 ?_
    obtain rfl := Option.some.inj h
    exact sg_iret dX11_gravelTo_24 rfl ⟨rfl, rfl⟩
  · have h := sg_ifn hc h
    refine sg_aload_n (pn := 12) (i := 0) dX11_gravelTo_11 rfl rfl 0 rfl ?_
    refine gfC_0_1 (pn := 15) dX11_gravelTo_12 rfl lf_X11_19 ?_
    refine sg_iload_n (pn := 16) (i := 2) dX11_gravelTo_15 rfl rfl 2 rfl ?_
    refine sg_callVi (pn := 19) (rest := []) 9 dX11_gravelTo_16 rfl kb_X11_167 kv_X6_hasCell (by exact rfl) rfl (Nat.le_of_ble_eq_true rfl) (gC_Road_hasCell_ok rfl) rfl rfl (Nat.le_of_ble_eq_true rfl) ?_
    refine sg_if_ne (pn := 22) (tgt := 25) dX11_gravelTo_19 rfl (by decide) (fun hc => ?_) (fun hc => ?_)
    · have h := sg_ifn hc h
      refine sg_aload_n (pn := 26) (i := 0) dX11_gravelTo_25 rfl rfl 0 rfl ?_
      refine gfC_0_5 (pn := 29) dX11_gravelTo_26 rfl lf_X11_51 ?_
      refine sg_iconst (pn := 30) dX11_gravelTo_29 rfl ic_1 ?_
      refine sg_iload_n (pn := 31) (i := 1) dX11_gravelTo_30 rfl rfl 1 rfl ?_
      refine sg_ishl (pn := 32) dX11_gravelTo_31 rfl ?_
      refine sg_iload_n (pn := 33) (i := 2) dX11_gravelTo_32 rfl rfl 2 rfl ?_
      obtain ⟨r1, h_r1, h⟩ := sg_bind h
      refine sg_callVi (pn := 36) (rest := []) 25 dX11_gravelTo_33 rfl kb_X11_268 kv_X10_gravelAhead (by exact rfl) rfl (Nat.le_of_ble_eq_true rfl) (gC_Trials_gravelAhead_ok h_r1) rfl rfl (Nat.le_of_ble_eq_true rfl) ?_
      obtain rfl := Option.some.inj h
      exact sg_iret dX11_gravelTo_36 rfl ⟨rfl, rfl⟩
    · have h := sg_ifp hc h
      refine sg_ldc (pn := 24) dX11_gravelTo_22 rfl kc_X11_171 ?_
      obtain rfl := Option.some.inj h
      exact sg_iret dX11_gravelTo_24 rfl ⟨rfl, rfl⟩
set_option maxRecDepth 4000 in
theorem gC_Road_hasCarts_ok {l : Launch} {D : va_G} {cI cZ : ClassId} {ad : Nat → Nat} {a1 : Int32} {z : sg_M} {r : Int32} (h : gC_Road_hasCarts a1 z = r) : sg_Met (eC l D cI cZ ad) yX6_hasCarts cX6_hasCarts 2 (some .boolean) 1 [.ref (ad 9), .int a1] z (sg_is (some (.int r)) z) := by
  refine sg_enter (lv0 := [(0, .ref (ad 9)), (1, .int a1)]) pn_X6 (Nat.le_of_ble_eq_true rfl) rfl ?_
  unfold gC_Road_hasCarts at h
  refine sg_iload_n (pn := 1) (i := 1) dX6_hasCarts_0 rfl rfl 1 rfl ?_
  refine sg_aload_n (pn := 2) (i := 0) dX6_hasCarts_1 rfl rfl 0 rfl ?_
  refine gfC_9_2 (pn := 5) dX6_hasCarts_2 rfl lf_X6_31 ?_
  refine sg_iushr (pn := 6) dX6_hasCarts_5 rfl ?_
  refine sg_if_ne (pn := 9) (tgt := 13) dX6_hasCarts_6 rfl (by decide) (fun hc => ?_) (fun hc => ?_)
  · have h := sg_ifn hc h
    refine sg_iconst (pn := 14) dX6_hasCarts_13 rfl ic_0 ?_
    subst h
    exact sg_zret dX6_hasCarts_14 rfl rfl ⟨rfl, rfl⟩
  · have h := sg_ifp hc h
    refine sg_iconst (pn := 10) dX6_hasCarts_9 rfl ic_1 ?_
    refine sg_goto (tgt := 14) dX6_hasCarts_10 (by decide) ?_
    subst h
    exact sg_zret dX6_hasCarts_14 rfl rfl ⟨rfl, rfl⟩
set_option maxRecDepth 4000 in
theorem gC_gravelForAll_ok {l : Launch} {D : va_G} {cI cZ : ClassId} {ad : Nat → Nat} {n : Nat} {a1 : Int32} {z : sg_M} {r : Int32} (h : gC_gravelForAll n a1 z = some r) : sg_Met (eC l D cI cZ ad) yX11_gravelForAll cX11_gravelForAll 2 (some .int) 6 [.ref (ad 0), .int a1] z (sg_is (some (.int r)) z) := by
  refine sg_enter (lv0 := [(0, .ref (ad 0)), (1, .int a1)]) pn_X11 (Nat.le_of_ble_eq_true rfl) rfl ?_
  unfold gC_gravelForAll at h
  refine sg_aload_n (pn := 1) (i := 0) dX11_gravelForAll_0 rfl rfl 0 rfl ?_
  refine gfC_0_1 (pn := 4) dX11_gravelForAll_1 rfl lf_X11_19 ?_
  refine sg_iload_n (pn := 5) (i := 1) dX11_gravelForAll_4 rfl rfl 1 rfl ?_
  refine sg_callVi (pn := 8) (rest := []) 9 dX11_gravelForAll_5 rfl kb_X11_271 kv_X6_hasCarts (by exact rfl) rfl (Nat.le_of_ble_eq_true rfl) (gC_Road_hasCarts_ok rfl) rfl rfl (Nat.le_of_ble_eq_true rfl) ?_
  refine sg_if_ne (pn := 11) (tgt := 14) dX11_gravelForAll_8 rfl (by decide) (fun hc => ?_) (fun hc => ?_)
  · have h := sg_ifn hc h
    refine sg_aload_n (pn := 15) (i := 0) dX11_gravelForAll_14 rfl rfl 0 rfl ?_
    refine gfC_0_5 (pn := 18) dX11_gravelForAll_15 rfl lf_X11_51 ?_
    refine sg_iload_n (pn := 19) (i := 1) dX11_gravelForAll_18 rfl rfl 1 rfl ?_
    refine sg_aload_n (pn := 20) (i := 0) dX11_gravelForAll_19 rfl rfl 0 rfl ?_
    refine gfC_0_1 (pn := 23) dX11_gravelForAll_20 rfl lf_X11_19 ?_
    refine gfC_9_0 (pn := 26) dX11_gravelForAll_23 rfl lf_X11_124 ?_
    obtain ⟨r1, h_r1, h⟩ := sg_bind h
    refine sg_callVi (pn := 29) (rest := []) 25 dX11_gravelForAll_26 rfl kb_X11_268 kv_X10_gravelAhead (by exact rfl) rfl (Nat.le_of_ble_eq_true rfl) (gC_Trials_gravelAhead_ok h_r1) rfl rfl (Nat.le_of_ble_eq_true rfl) ?_
    obtain rfl := Option.some.inj h
    exact sg_iret dX11_gravelForAll_29 rfl ⟨rfl, rfl⟩
  · have h := sg_ifp hc h
    refine sg_ldc (pn := 13) dX11_gravelForAll_11 rfl kc_X11_171 ?_
    obtain rfl := Option.some.inj h
    exact sg_iret dX11_gravelForAll_13 rfl ⟨rfl, rfl⟩
set_option maxRecDepth 4000 in
theorem gC_Integer_bitCount_ok {l : Launch} {D : va_G} {cI cZ : ClassId} {ad : Nat → Nat} {a0 : Int32} {z : sg_M} {r : Int32} (h : gC_Integer_bitCount a0 = r) : sg_Met (eC l D cI cZ ad) yJ6_bitCount_0f7a4 cJ6_bitCount_0f7a4 1 (some .int) 1 [.int a0] z (sg_is (some (.int r)) z) := by
  refine sg_enter (lv0 := [(0, .int a0)]) pn_J6 (Nat.le_of_ble_eq_true rfl) rfl ?_
  unfold gC_Integer_bitCount at h
  refine sg_iload_n (pn := 1) (i := 0) dJ6_bitCount_0f7a4_0 rfl rfl 0 rfl ?_
  refine sg_iload_n (pn := 2) (i := 0) dJ6_bitCount_0f7a4_1 rfl rfl 0 rfl ?_
  refine sg_iconst (pn := 3) dJ6_bitCount_0f7a4_2 rfl ic_1 ?_
  refine sg_iushr (pn := 4) dJ6_bitCount_0f7a4_3 rfl ?_
  refine sg_ldcw (pn := 7) dJ6_bitCount_0f7a4_4 rfl kc_J6_265 ?_
  refine sg_iand (pn := 8) dJ6_bitCount_0f7a4_7 rfl ?_
  refine sg_isub (pn := 9) dJ6_bitCount_0f7a4_8 rfl ?_
  obtain ⟨v0_1, e_v0_1, h⟩ := sg_letE h
  refine sg_topi e_v0_1 ?_
  refine sg_istore_n (pn := 10) (i := 0) (lv' := [(0, .int v0_1)]) dJ6_bitCount_0f7a4_9 rfl rfl (Nat.le_of_ble_eq_true rfl) [0] rfl ?_
  refine sg_iload_n (pn := 11) (i := 0) dJ6_bitCount_0f7a4_10 rfl rfl 0 rfl ?_
  refine sg_ldcw (pn := 14) dJ6_bitCount_0f7a4_11 rfl kc_J6_266 ?_
  refine sg_iand (pn := 15) dJ6_bitCount_0f7a4_14 rfl ?_
  refine sg_iload_n (pn := 16) (i := 0) dJ6_bitCount_0f7a4_15 rfl rfl 0 rfl ?_
  refine sg_iconst (pn := 17) dJ6_bitCount_0f7a4_16 rfl ic_2 ?_
  refine sg_iushr (pn := 18) dJ6_bitCount_0f7a4_17 rfl ?_
  refine sg_ldcw (pn := 21) dJ6_bitCount_0f7a4_18 rfl kc_J6_266 ?_
  refine sg_iand (pn := 22) dJ6_bitCount_0f7a4_21 rfl ?_
  refine sg_iadd (pn := 23) dJ6_bitCount_0f7a4_22 rfl ?_
  obtain ⟨v0_2, e_v0_2, h⟩ := sg_letE h
  refine sg_topi e_v0_2 ?_
  refine sg_istore_n (pn := 24) (i := 0) (lv' := [(0, .int v0_2)]) dJ6_bitCount_0f7a4_23 rfl rfl (Nat.le_of_ble_eq_true rfl) [0] rfl ?_
  refine sg_iload_n (pn := 25) (i := 0) dJ6_bitCount_0f7a4_24 rfl rfl 0 rfl ?_
  refine sg_iload_n (pn := 26) (i := 0) dJ6_bitCount_0f7a4_25 rfl rfl 0 rfl ?_
  refine sg_iconst (pn := 27) dJ6_bitCount_0f7a4_26 rfl ic_4 ?_
  refine sg_iushr (pn := 28) dJ6_bitCount_0f7a4_27 rfl ?_
  refine sg_iadd (pn := 29) dJ6_bitCount_0f7a4_28 rfl ?_
  refine sg_ldcw (pn := 32) dJ6_bitCount_0f7a4_29 rfl kc_J6_267 ?_
  refine sg_iand (pn := 33) dJ6_bitCount_0f7a4_32 rfl ?_
  obtain ⟨v0_3, e_v0_3, h⟩ := sg_letE h
  refine sg_topi e_v0_3 ?_
  refine sg_istore_n (pn := 34) (i := 0) (lv' := [(0, .int v0_3)]) dJ6_bitCount_0f7a4_33 rfl rfl (Nat.le_of_ble_eq_true rfl) [0] rfl ?_
  refine sg_iload_n (pn := 35) (i := 0) dJ6_bitCount_0f7a4_34 rfl rfl 0 rfl ?_
  refine sg_iload_n (pn := 36) (i := 0) dJ6_bitCount_0f7a4_35 rfl rfl 0 rfl ?_
  refine sg_bipush (pn := 38) dJ6_bitCount_0f7a4_36 rfl ib_8 ?_
  refine sg_iushr (pn := 39) dJ6_bitCount_0f7a4_38 rfl ?_
  refine sg_iadd (pn := 40) dJ6_bitCount_0f7a4_39 rfl ?_
  obtain ⟨v0_4, e_v0_4, h⟩ := sg_letE h
  refine sg_topi e_v0_4 ?_
  refine sg_istore_n (pn := 41) (i := 0) (lv' := [(0, .int v0_4)]) dJ6_bitCount_0f7a4_40 rfl rfl (Nat.le_of_ble_eq_true rfl) [0] rfl ?_
  refine sg_iload_n (pn := 42) (i := 0) dJ6_bitCount_0f7a4_41 rfl rfl 0 rfl ?_
  refine sg_iload_n (pn := 43) (i := 0) dJ6_bitCount_0f7a4_42 rfl rfl 0 rfl ?_
  refine sg_bipush (pn := 45) dJ6_bitCount_0f7a4_43 rfl ib_16 ?_
  refine sg_iushr (pn := 46) dJ6_bitCount_0f7a4_45 rfl ?_
  refine sg_iadd (pn := 47) dJ6_bitCount_0f7a4_46 rfl ?_
  obtain ⟨v0_5, e_v0_5, h⟩ := sg_letE h
  refine sg_topi e_v0_5 ?_
  refine sg_istore_n (pn := 48) (i := 0) (lv' := [(0, .int v0_5)]) dJ6_bitCount_0f7a4_47 rfl rfl (Nat.le_of_ble_eq_true rfl) [0] rfl ?_
  refine sg_iload_n (pn := 49) (i := 0) dJ6_bitCount_0f7a4_48 rfl rfl 0 rfl ?_
  refine sg_bipush (pn := 51) dJ6_bitCount_0f7a4_49 rfl ib_63 ?_
  refine sg_iand (pn := 52) dJ6_bitCount_0f7a4_51 rfl ?_
  subst h
  exact sg_iret dJ6_bitCount_0f7a4_52 rfl ⟨rfl, rfl⟩
set_option maxRecDepth 4000 in
theorem gC_Orders_sendNext_LL_ok {l : Launch} {D : va_G} {cI cZ : ClassId} {ad : Nat → Nat} : ∀ (n d : Nat), 1 + n ≤ d → (∀ (v1 : Int32) (v2 : Int32) (v3 : Int32) (v4 : Int32) (v5 : Int32) (v6 : Int32) (z : sg_M) (r : sg_M), gC_Orders_sendNext_LL n 0 v1 v2 v3 v4 v5 v6 z = some r → sg_G (eC l D cI cZ ad) yX4_sendNext cX4_sendNext 10 none d 0 [(0, .ref (ad 28)), (1, .int v1), (2, .int v2), (3, .int v3), (4, .int v4), (5, .int v5)] [] z (sg_is none r)) ∧ (∀ (v1 : Int32) (v2 : Int32) (v3 : Int32) (v4 : Int32) (v5 : Int32) (v6 : Int32) (z : sg_M) (r : sg_M), gC_Orders_sendNext_LL n 34 v1 v2 v3 v4 v5 v6 z = some r → sg_G (eC l D cI cZ ad) yX4_sendNext cX4_sendNext 10 none d 34 [(0, .ref (ad 28)), (1, .int v1), (2, .int v2), (3, .int v3), (4, .int v4), (5, .int v5), (6, .int v6)] [] z (sg_is none r)) := by
  intro n
  induction n with
  | zero => intro d hd; exact ⟨(fun _ _ _ _ _ _ _ _ h => by cases h), (fun _ _ _ _ _ _ _ _ h => by cases h)⟩
  | succ n ih =>
    intro d hd
    refine ⟨?_, ?_⟩
    · intro v1 v2 v3 v4 v5 v6 z r h
      unfold gC_Orders_sendNext_LL at h
      have h := sg_ifp (show (0 : Nat) = 0 from rfl) h
      refine sg_iload_n (pn := 1) (i := 2) dX4_sendNext_0 rfl rfl 2 rfl ?_
      refine sg_if_eq (pn := 4) (tgt := 9) dX4_sendNext_1 rfl (by decide) (fun hc => ?_) (fun hc => ?_)
      · have h := sg_ifp hc h
        refine sg_iload (pn := 11) (i := 4) dX4_sendNext_9 rfl 4 rfl ?_
        refine sg_aload_n (pn := 12) (i := 0) dX4_sendNext_11 rfl rfl 0 rfl ?_
        refine gfC_28_0 (pn := 15) dX4_sendNext_12 rfl lf_X4_35 ?_
        refine sg_icmp_le (pn := 18) (tgt := 30) dX4_sendNext_15 rfl (by decide) (fun hc => ?_) (fun hc => ?_)
        · have h := sg_ifp hc h
          obtain rfl := Option.some.inj h
          exact sg_vret dX4_sendNext_30 rfl ⟨rfl, rfl⟩
        · have h := sg_ifn hc h
          refine sg_aload_n (pn := 19) (i := 0) dX4_sendNext_18 rfl rfl 0 rfl ?_
          refine sg_iload (pn := 21) (i := 4) dX4_sendNext_19 rfl 4 rfl ?_
          refine pfC_28_0 (pn := 24) dX4_sendNext_21 rfl lf_X4_35 ?_
          obtain ⟨z1, e_z1, h⟩ := sg_letE h
          refine sg_zE e_z1 ?_
          refine sg_aload_n (pn := 25) (i := 0) dX4_sendNext_24 rfl rfl 0 rfl ?_
          refine sg_iload (pn := 27) (i := 5) dX4_sendNext_25 rfl 5 rfl ?_
          refine pfC_28_1 (pn := 30) dX4_sendNext_27 rfl lf_X4_38 ?_
          obtain ⟨z2, e_z2, h⟩ := sg_letE h
          refine sg_zE e_z2 ?_
          obtain rfl := Option.some.inj h
          exact sg_vret dX4_sendNext_30 rfl ⟨rfl, rfl⟩
      · have h := sg_ifn hc h
        refine sg_iload_n (pn := 5) (i := 1) dX4_sendNext_4 rfl rfl 1 rfl ?_
        refine sg_iconst (pn := 6) dX4_sendNext_5 rfl ic_5 ?_
        refine sg_icmp_lt (pn := 9) (tgt := 31) dX4_sendNext_6 rfl (by decide) (fun hc => ?_) (fun hc => ?_)
        · have h := sg_ifp hc h
          refine sg_iconst (pn := 32) dX4_sendNext_31 rfl ic_0 ?_
          refine sg_istore (pn := 34) (i := 6) (lv' := [(0, .ref (ad 28)), (1, .int v1), (2, .int v2), (3, .int v3), (4, .int v4), (5, .int v5), (6, .int (0 : Int32))]) dX4_sendNext_32 rfl (Nat.le_of_ble_eq_true rfl) [1, 2, 3, 4, 5, 6, 0] rfl ?_
          exact (ih d (by omega)).2 _ _ _ _ _ _ _ _ h
        · have h := sg_ifn hc h
          refine sg_iload (pn := 11) (i := 4) dX4_sendNext_9 rfl 4 rfl ?_
          refine sg_aload_n (pn := 12) (i := 0) dX4_sendNext_11 rfl rfl 0 rfl ?_
          refine gfC_28_0 (pn := 15) dX4_sendNext_12 rfl lf_X4_35 ?_
          refine sg_icmp_le (pn := 18) (tgt := 30) dX4_sendNext_15 rfl (by decide) (fun hc => ?_) (fun hc => ?_)
          · have h := sg_ifp hc h
            obtain rfl := Option.some.inj h
            exact sg_vret dX4_sendNext_30 rfl ⟨rfl, rfl⟩
          · have h := sg_ifn hc h
            refine sg_aload_n (pn := 19) (i := 0) dX4_sendNext_18 rfl rfl 0 rfl ?_
            refine sg_iload (pn := 21) (i := 4) dX4_sendNext_19 rfl 4 rfl ?_
            refine pfC_28_0 (pn := 24) dX4_sendNext_21 rfl lf_X4_35 ?_
            obtain ⟨z3, e_z3, h⟩ := sg_letE h
            refine sg_zE e_z3 ?_
            refine sg_aload_n (pn := 25) (i := 0) dX4_sendNext_24 rfl rfl 0 rfl ?_
            refine sg_iload (pn := 27) (i := 5) dX4_sendNext_25 rfl 5 rfl ?_
            refine pfC_28_1 (pn := 30) dX4_sendNext_27 rfl lf_X4_38 ?_
            obtain ⟨z4, e_z4, h⟩ := sg_letE h
            refine sg_zE e_z4 ?_
            obtain rfl := Option.some.inj h
            exact sg_vret dX4_sendNext_30 rfl ⟨rfl, rfl⟩
    · intro v1 v2 v3 v4 v5 v6 z r h
      unfold gC_Orders_sendNext_LL at h
      have h := sg_ifn (show ¬ (34 : Nat) = 0 by decide) h
      have h := sg_ifp (show (34 : Nat) = 34 from rfl) h
      refine sg_iload (pn := 36) (i := 6) dX4_sendNext_34 rfl 6 rfl ?_
      refine sg_aload_n (pn := 37) (i := 0) dX4_sendNext_36 rfl rfl 0 rfl ?_
      refine gfC_28_2 (pn := 40) dX4_sendNext_37 rfl lf_X4_15 ?_
      refine gfC_9_2 (pn := 43) dX4_sendNext_40 rfl lf_X4_23 ?_
      refine sg_icmp_ge (pn := 46) (tgt := 141) dX4_sendNext_43 rfl (by decide) (fun hc => ?_) (fun hc => ?_)
      · have h := sg_ifp hc h
        obtain rfl := Option.some.inj h
        exact sg_vret dX4_sendNext_141 rfl ⟨rfl, rfl⟩
      · have h := sg_ifn hc h
        refine sg_iload_n (pn := 47) (i := 2) dX4_sendNext_46 rfl rfl 2 rfl ?_
        refine sg_iload (pn := 49) (i := 6) dX4_sendNext_47 rfl 6 rfl ?_
        refine sg_ishr (pn := 50) dX4_sendNext_49 rfl ?_
        refine sg_iconst (pn := 51) dX4_sendNext_50 rfl ic_1 ?_
        refine sg_iand (pn := 52) dX4_sendNext_51 rfl ?_
        obtain ⟨t9, e_t9, h2⟩ := sg_bind h
        have hm_t9 : sg_G (eC l D cI cZ ad) yX4_sendNext cX4_sendNext 10 none d 135 [(0, .ref (ad 28)), (1, .int v1), (2, .int v2), (3, .int v3), (4, .int v4), (5, .int v5), (6, .int v6)] [] t9 (sg_is none r) := by
          have h := h2
          refine sg_iinc (pn := 138) (i := 6) (lv' := [(0, .ref (ad 28)), (1, .int v1), (2, .int v2), (3, .int v3), (4, .int v4), (5, .int v5), (6, .int (v6 + (1 : Int32)))]) dX4_sendNext_135 rfl 6 rfl (ii_1 _) (Nat.le_of_ble_eq_true rfl) [1, 2, 3, 4, 5, 6, 0] rfl ?_
          refine sg_goto (tgt := 34) dX4_sendNext_138 (by decide) ?_
          exact (ih d (by omega)).2 _ _ _ _ _ _ _ _ h
        have h := e_t9
        refine sg_if_eq (pn := 55) (tgt := 135) dX4_sendNext_52 rfl (by decide) (fun hc => ?_) (fun hc => ?_)
        · have h := sg_ifp hc h
          obtain rfl := Option.some.inj h
          exact hm_t9
        · have h := sg_ifn hc h
          refine sg_aload_n (pn := 56) (i := 0) dX4_sendNext_55 rfl rfl 0 rfl ?_
          refine gfC_28_4 (pn := 59) dX4_sendNext_56 rfl lf_X4_9 ?_
          refine sg_iload_n (pn := 60) (i := 1) dX4_sendNext_59 rfl rfl 1 rfl ?_
          refine sg_bipush (pn := 62) dX4_sendNext_60 rfl ib_8 ?_
          refine sg_imul (pn := 63) dX4_sendNext_62 rfl ?_
          refine sg_iload (pn := 65) (i := 6) dX4_sendNext_63 rfl 6 rfl ?_
          refine sg_iadd (pn := 66) dX4_sendNext_65 rfl ?_
          obtain ⟨hg, h⟩ := sg_guard h
          refine alC_29 (pn := 67) dX4_sendNext_66 rfl (sg_in_vp hg) ?_
          obtain ⟨v7_5, e_v7_5, h⟩ := sg_letE h
          refine sg_topi e_v7_5 ?_
          refine sg_istore (pn := 69) (i := 7) (lv' := [(0, .ref (ad 28)), (1, .int v1), (2, .int v2), (3, .int v3), (4, .int v4), (5, .int v5), (6, .int v6), (7, .int v7_5)]) dX4_sendNext_67 rfl (Nat.le_of_ble_eq_true rfl) [1, 2, 3, 4, 5, 6, 7, 0] rfl ?_
          refine sg_iload (pn := 71) (i := 7) dX4_sendNext_69 rfl 7 rfl ?_
          refine sg_iconst (pn := 72) dX4_sendNext_71 rfl ic_m1 ?_
          obtain ⟨t6, e_t6, h2⟩ := sg_letJ h
          have hm_t6 : sg_G (eC l D cI cZ ad) yX4_sendNext cX4_sendNext 10 none d 83 [(0, .ref (ad 28)), (1, .int v1), (2, .int v2), (3, .int v3), (4, .int v4), (5, .int v5), (6, .int v6)] [.int t6] z (sg_is none r) := by
            have h := h2
            refine sg_istore (pn := 85) (i := 8) (lv' := [(0, .ref (ad 28)), (1, .int v1), (2, .int v2), (3, .int v3), (4, .int v4), (5, .int v5), (6, .int v6), (8, .int t6)]) dX4_sendNext_83 rfl (Nat.le_of_ble_eq_true rfl) [1, 2, 3, 4, 5, 6, 7, 0] rfl ?_
            refine sg_iload (pn := 87) (i := 8) dX4_sendNext_85 rfl 7 rfl ?_
            refine sg_iload_n (pn := 88) (i := 3) dX4_sendNext_87 rfl rfl 3 rfl ?_
            refine sg_iconst (pn := 89) dX4_sendNext_88 rfl ic_m1 ?_
            refine sg_ixor (pn := 90) dX4_sendNext_89 rfl ?_
            refine sg_iand (pn := 91) dX4_sendNext_90 rfl ?_
            obtain ⟨t7, e_t7, h2⟩ := sg_letJ h
            have hm_t7 : sg_G (eC l D cI cZ ad) yX4_sendNext cX4_sendNext 10 none d 99 [(0, .ref (ad 28)), (1, .int v1), (2, .int v2), (3, .int v3), (4, .int v4), (5, .int v5), (6, .int v6), (8, .int t6)] [.int t7] z (sg_is none r) := by
              have h := h2
              refine sg_istore (pn := 101) (i := 9) (lv' := [(0, .ref (ad 28)), (1, .int v1), (2, .int v2), (3, .int v3), (4, .int v4), (5, .int v5), (6, .int v6), (8, .int t6), (9, .int t7)]) dX4_sendNext_99 rfl (Nat.le_of_ble_eq_true rfl) [1, 2, 3, 4, 5, 6, 7, 8, 0] rfl ?_
              refine sg_aload_n (pn := 102) (i := 0) dX4_sendNext_101 rfl rfl 0 rfl ?_
              refine sg_iload_n (pn := 103) (i := 1) dX4_sendNext_102 rfl rfl 1 rfl ?_
              refine sg_iconst (pn := 104) dX4_sendNext_103 rfl ic_1 ?_
              refine sg_iadd (pn := 105) dX4_sendNext_104 rfl ?_
              refine sg_iload_n (pn := 106) (i := 2) dX4_sendNext_105 rfl rfl 2 rfl ?_
              refine sg_iconst (pn := 107) dX4_sendNext_106 rfl ic_1 ?_
              refine sg_iload (pn := 109) (i := 6) dX4_sendNext_107 rfl 6 rfl ?_
              refine sg_ishl (pn := 110) dX4_sendNext_109 rfl ?_
              refine sg_iconst (pn := 111) dX4_sendNext_110 rfl ic_m1 ?_
              refine sg_ixor (pn := 112) dX4_sendNext_111 rfl ?_
              refine sg_iand (pn := 113) dX4_sendNext_112 rfl ?_
              refine sg_iload_n (pn := 114) (i := 3) dX4_sendNext_113 rfl rfl 3 rfl ?_
              refine sg_iload (pn := 116) (i := 8) dX4_sendNext_114 rfl 7 rfl ?_
              refine sg_ior (pn := 117) dX4_sendNext_116 rfl ?_
              refine sg_iload (pn := 119) (i := 4) dX4_sendNext_117 rfl 4 rfl ?_
              refine sg_iload (pn := 121) (i := 9) dX4_sendNext_119 rfl 8 rfl ?_
              refine sg_iadd (pn := 122) dX4_sendNext_121 rfl ?_
              refine sg_iload (pn := 124) (i := 5) dX4_sendNext_122 rfl 5 rfl ?_
              refine sg_bipush (pn := 126) dX4_sendNext_124 rfl ib_10 ?_
              refine sg_imul (pn := 127) dX4_sendNext_126 rfl ?_
              refine sg_iload (pn := 129) (i := 6) dX4_sendNext_127 rfl 6 rfl ?_
              refine sg_iadd (pn := 130) dX4_sendNext_129 rfl ?_
              refine sg_iconst (pn := 131) dX4_sendNext_130 rfl ic_1 ?_
              refine sg_iadd (pn := 132) dX4_sendNext_131 rfl ?_
              obtain ⟨r8, h_r8, h⟩ := sg_bind h
              refine sg_callVv (pn := 135) (rest := []) 28 dX4_sendNext_132 rfl kb_X4_41 kv_X4_sendNext (by exact rfl) rfl (by omega) (d' := 1 + n) (As := [.int (v1 + (1 : Int32)), .int (v2 &&& ((sg_shl (1 : Int32) v6) ^^^ (-1 : Int32))), .int (v3 ||| t6), .int (v4 + t7), .int (((v5 * (10 : Int32)) + v6) + (1 : Int32))]) (sg_enter (lv0 := [(0, .ref (ad 28)), (1, .int (v1 + (1 : Int32))), (2, .int (v2 &&& ((sg_shl (1 : Int32) v6) ^^^ (-1 : Int32)))), (3, .int (v3 ||| t6)), (4, .int (v4 + t7)), (5, .int (((v5 * (10 : Int32)) + v6) + (1 : Int32)))]) pn_X4 (Nat.le_of_ble_eq_true rfl) rfl ((ih (1 + n) (Nat.le_refl _)).1 _ _ _ _ _ _ _ _ h_r8)) rfl rfl (Nat.le_of_ble_eq_true rfl) ?_
              obtain rfl := Option.some.inj h
              refine sg_sub [0, 1, 2, 3, 4, 5, 6] rfl ?_
              exact hm_t9
            have h := e_t7
            refine sg_if_ne (pn := 94) (tgt := 98) dX4_sendNext_91 rfl (by decide) (fun hc => ?_) (fun hc => ?_)
            · have h := sg_ifn hc h
              refine sg_iconst (pn := 99) dX4_sendNext_98 rfl ic_1 ?_
              subst h
              exact hm_t7
            · have h := sg_ifp hc h
              refine sg_iconst (pn := 95) dX4_sendNext_94 rfl ic_0 ?_
              refine sg_goto (tgt := 99) dX4_sendNext_95 (by decide) ?_
              subst h
              exact hm_t7
          have h := e_t6
          refine sg_icmp_ne (pn := 75) (tgt := 79) dX4_sendNext_72 rfl (by decide) (fun hc => ?_) (fun hc => ?_)
          · have h := sg_ifn hc h
            refine sg_iconst (pn := 80) dX4_sendNext_79 rfl ic_1 ?_
            refine sg_iload (pn := 82) (i := 7) dX4_sendNext_80 rfl 7 rfl ?_
            refine sg_ishl (pn := 83) dX4_sendNext_82 rfl ?_
            subst h
            refine sg_sub [0, 1, 2, 3, 4, 5, 6] rfl ?_
            exact hm_t6
          · have h := sg_ifp hc h
            refine sg_iconst (pn := 76) dX4_sendNext_75 rfl ic_0 ?_
            refine sg_goto (tgt := 83) dX4_sendNext_76 (by decide) ?_
            subst h
            refine sg_sub [0, 1, 2, 3, 4, 5, 6] rfl ?_
            exact hm_t6
set_option maxRecDepth 4000 in
theorem gC_Orders_sendNext_ok {l : Launch} {D : va_G} {cI cZ : ClassId} {ad : Nat → Nat} {n : Nat} {a1 : Int32} {a2 : Int32} {a3 : Int32} {a4 : Int32} {a5 : Int32} {z : sg_M} {r : sg_M} (h : gC_Orders_sendNext n a1 a2 a3 a4 a5 z = some r) : sg_Met (eC l D cI cZ ad) yX4_sendNext cX4_sendNext 10 none (1 + n) [.ref (ad 28), .int a1, .int a2, .int a3, .int a4, .int a5] z (sg_is none r) := by
  refine sg_enter (lv0 := [(0, .ref (ad 28)), (1, .int a1), (2, .int a2), (3, .int a3), (4, .int a4), (5, .int a5)]) pn_X4 (Nat.le_of_ble_eq_true rfl) rfl ?_
  unfold gC_Orders_sendNext at h
  exact (gC_Orders_sendNext_LL_ok n _ (Nat.le_refl _)).1 _ _ _ _ _ _ _ _ h
set_option maxRecDepth 4000 in
theorem gC_Orders_look_LL_ok {l : Launch} {D : va_G} {cI cZ : ClassId} {ad : Nat → Nat} : ∀ (n : Nat), (∀ (v1 : Int32) (v2 : Int32) (v3 : Int32) (v4 : Int32) (z : sg_M) (r : sg_M), gC_Orders_look_LL n 2 v1 v2 v3 v4 z = some r → sg_G (eC l D cI cZ ad) yX4_look cX4_look 5 none 102 2 [(0, .ref (ad 28)), (1, .int v1), (2, .int v2), (3, .int v3)] [] z (sg_is none r)) ∧ (∀ (v1 : Int32) (v2 : Int32) (v3 : Int32) (v4 : Int32) (z : sg_M) (r : sg_M), gC_Orders_look_LL n 10 v1 v2 v3 v4 z = some r → sg_G (eC l D cI cZ ad) yX4_look cX4_look 5 none 102 10 [(0, .ref (ad 28)), (1, .int v1), (2, .int v2), (3, .int v3), (4, .int v4)] [] z (sg_is none r)) := by
  intro n
  induction n with
  | zero => exact ⟨(fun _ _ _ _ _ _ h => by cases h), (fun _ _ _ _ _ _ h => by cases h)⟩
  | succ n ih =>
    refine ⟨?_, ?_⟩
    · intro v1 v2 v3 v4 z r h
      unfold gC_Orders_look_LL at h
      have h := sg_ifp (show (2 : Nat) = 2 from rfl) h
      refine sg_iload_n (pn := 3) (i := 3) dX4_look_2 rfl rfl 3 rfl ?_
      refine sg_iconst (pn := 4) dX4_look_3 rfl ic_5 ?_
      refine sg_icmp_ge (pn := 7) (tgt := 56) dX4_look_4 rfl (by decide) (fun hc => ?_) (fun hc => ?_)
      · have h := sg_ifp hc h
        refine sg_aload_n (pn := 57) (i := 0) dX4_look_56 rfl rfl 0 rfl ?_
        refine sg_iconst (pn := 58) dX4_look_57 rfl ic_m1 ?_
        refine pfC_28_0 (pn := 61) dX4_look_58 rfl lf_X4_35 ?_
        obtain ⟨z1, e_z1, h⟩ := sg_letE h
        refine sg_zE e_z1 ?_
        refine sg_aload_n (pn := 62) (i := 0) dX4_look_61 rfl rfl 0 rfl ?_
        refine sg_iconst (pn := 63) dX4_look_62 rfl ic_0 ?_
        refine pfC_28_1 (pn := 66) dX4_look_63 rfl lf_X4_38 ?_
        obtain ⟨z2, e_z2, h⟩ := sg_letE h
        refine sg_zE e_z2 ?_
        refine sg_aload_n (pn := 67) (i := 0) dX4_look_66 rfl rfl 0 rfl ?_
        refine sg_iconst (pn := 68) dX4_look_67 rfl ic_0 ?_
        refine sg_iload_n (pn := 69) (i := 1) dX4_look_68 rfl rfl 1 rfl ?_
        refine sg_iload_n (pn := 70) (i := 2) dX4_look_69 rfl rfl 2 rfl ?_
        refine sg_iconst (pn := 71) dX4_look_70 rfl ic_0 ?_
        refine sg_iconst (pn := 72) dX4_look_71 rfl ic_0 ?_
        obtain ⟨r3, h_r3, h⟩ := sg_bind h
        refine sg_callVv (pn := 75) (rest := []) 28 dX4_look_72 rfl kb_X4_41 kv_X4_sendNext (by exact rfl) rfl (Nat.le_of_ble_eq_true rfl) (gC_Orders_sendNext_ok h_r3) rfl rfl (Nat.le_of_ble_eq_true rfl) ?_
        obtain rfl := Option.some.inj h
        exact sg_vret dX4_look_75 rfl ⟨rfl, rfl⟩
      · have h := sg_ifn hc h
        refine sg_iconst (pn := 8) dX4_look_7 rfl ic_0 ?_
        refine sg_istore (pn := 10) (i := 4) (lv' := [(0, .ref (ad 28)), (1, .int v1), (2, .int v2), (3, .int v3), (4, .int (0 : Int32))]) dX4_look_8 rfl (Nat.le_of_ble_eq_true rfl) [1, 2, 3, 4, 0] rfl ?_
        exact ih.2 _ _ _ _ _ _ h
    · intro v1 v2 v3 v4 z r h
      unfold gC_Orders_look_LL at h
      have h := sg_ifn (show ¬ (10 : Nat) = 2 by decide) h
      have h := sg_ifp (show (10 : Nat) = 10 from rfl) h
      refine sg_iload (pn := 12) (i := 4) dX4_look_10 rfl 4 rfl ?_
      refine sg_aload_n (pn := 13) (i := 0) dX4_look_12 rfl rfl 0 rfl ?_
      refine gfC_28_2 (pn := 16) dX4_look_13 rfl lf_X4_15 ?_
      refine gfC_9_2 (pn := 19) dX4_look_16 rfl lf_X4_23 ?_
      refine sg_icmp_ge (pn := 22) (tgt := 50) dX4_look_19 rfl (by decide) (fun hc => ?_) (fun hc => ?_)
      · have h := sg_ifp hc h
        refine sg_iinc (pn := 53) (i := 3) (lv' := [(0, .ref (ad 28)), (1, .int v1), (2, .int v2), (3, .int (v3 + (1 : Int32))), (4, .int v4)]) dX4_look_50 rfl 3 rfl (ii_1 _) (Nat.le_of_ble_eq_true rfl) [1, 2, 3, 0, 4] rfl ?_
        refine sg_goto (tgt := 2) dX4_look_53 (by decide) ?_
        refine sg_sub [0, 1, 2, 3] rfl ?_
        exact ih.1 _ _ _ _ _ _ h
      · have h := sg_ifn hc h
        refine sg_aload_n (pn := 23) (i := 0) dX4_look_22 rfl rfl 0 rfl ?_
        refine gfC_28_4 (pn := 26) dX4_look_23 rfl lf_X4_9 ?_
        refine sg_iload_n (pn := 27) (i := 3) dX4_look_26 rfl rfl 3 rfl ?_
        refine sg_bipush (pn := 29) dX4_look_27 rfl ib_8 ?_
        refine sg_imul (pn := 30) dX4_look_29 rfl ?_
        refine sg_iload (pn := 32) (i := 4) dX4_look_30 rfl 4 rfl ?_
        refine sg_iadd (pn := 33) dX4_look_32 rfl ?_
        refine sg_aload_n (pn := 34) (i := 0) dX4_look_33 rfl rfl 0 rfl ?_
        refine gfC_28_3 (pn := 37) dX4_look_34 rfl lf_X4_19 ?_
        refine sg_iload (pn := 39) (i := 4) dX4_look_37 rfl 4 rfl ?_
        refine sg_iload_n (pn := 40) (i := 3) dX4_look_39 rfl rfl 3 rfl ?_
        obtain ⟨r4, h_r4, h⟩ := sg_bind h
        refine sg_callVi (pn := 43) (rest := [.int ((v3 * (8 : Int32)) + v4), .ref (ad 29)]) 23 dX4_look_40 rfl kb_X4_29 kv_X2_stopBehind (by exact rfl) rfl (Nat.le_of_ble_eq_true rfl) (gC_Kingdom_stopBehind_ok h_r4) rfl rfl (Nat.le_of_ble_eq_true rfl) ?_
        obtain ⟨hg, h⟩ := sg_guard h
        refine asC_29 (pn := 44) dX4_look_43 rfl (sg_in_vp hg) ?_
        obtain ⟨z5, e_z5, h⟩ := sg_letE h
        refine sg_zE e_z5 ?_
        refine sg_iinc (pn := 47) (i := 4) (lv' := [(0, .ref (ad 28)), (1, .int v1), (2, .int v2), (3, .int v3), (4, .int (v4 + (1 : Int32)))]) dX4_look_44 rfl 4 rfl (ii_1 _) (Nat.le_of_ble_eq_true rfl) [1, 2, 3, 4, 0] rfl ?_
        refine sg_goto (tgt := 10) dX4_look_47 (by decide) ?_
        exact ih.2 _ _ _ _ _ _ h
set_option maxRecDepth 4000 in
theorem gC_Orders_look_ok {l : Launch} {D : va_G} {cI cZ : ClassId} {ad : Nat → Nat} {n : Nat} {a1 : Int32} {a2 : Int32} {z : sg_M} {r : sg_M} (h : gC_Orders_look n a1 a2 z = some r) : sg_Met (eC l D cI cZ ad) yX4_look cX4_look 5 none 102 [.ref (ad 28), .int a1, .int a2] z (sg_is none r) := by
  refine sg_enter (lv0 := [(0, .ref (ad 28)), (1, .int a1), (2, .int a2)]) pn_X4 (Nat.le_of_ble_eq_true rfl) rfl ?_
  unfold gC_Orders_look at h
  refine sg_iconst (pn := 1) dX4_look_0 rfl ic_0 ?_
  refine sg_istore_n (pn := 2) (i := 3) (lv' := [(0, .ref (ad 28)), (1, .int a1), (2, .int a2), (3, .int (0 : Int32))]) dX4_look_1 rfl rfl (Nat.le_of_ble_eq_true rfl) [1, 2, 3, 0] rfl ?_
  exact (gC_Orders_look_LL_ok n).1 _ _ _ _ _ _ h
set_option maxRecDepth 4000 in
theorem gC_order_ok {l : Launch} {D : va_G} {cI cZ : ClassId} {ad : Nat → Nat} {n : Nat} {a1 : Int32} {a2 : Int32} {z : sg_M} {r : Int32 × sg_M} (h : gC_order n a1 a2 z = some r) : sg_Met (eC l D cI cZ ad) yX11_order cX11_order 3 (some .int) 103 [.ref (ad 0), .int a1, .int a2] z (sg_is (some (.int r.1)) r.2) := by
  refine sg_enter (lv0 := [(0, .ref (ad 0)), (1, .int a1), (2, .int a2)]) pn_X11 (Nat.le_of_ble_eq_true rfl) rfl ?_
  unfold gC_order at h
  refine sg_aload_n (pn := 1) (i := 0) dX11_order_0 rfl rfl 0 rfl ?_
  refine gfC_0_1 (pn := 4) dX11_order_1 rfl lf_X11_19 ?_
  refine sg_iload_n (pn := 5) (i := 1) dX11_order_4 rfl rfl 1 rfl ?_
  refine sg_callVi (pn := 8) (rest := []) 9 dX11_order_5 rfl kb_X11_271 kv_X6_hasCarts (by exact rfl) rfl (Nat.le_of_ble_eq_true rfl) (gC_Road_hasCarts_ok rfl) rfl rfl (Nat.le_of_ble_eq_true rfl) ?_
  refine sg_if_ne (pn := 11) (tgt := 14) dX11_order_8 rfl (by decide) (fun hc => ?_) (fun hc => ?_)
  · have h := sg_ifn hc h
    refine sg_iload_n (pn := 15) (i := 2) dX11_order_14 rfl rfl 2 rfl ?_
    refine sg_if_lt (pn := 18) (tgt := 23) dX11_order_15 rfl (by decide) (fun hc => ?_) (fun hc => ?_)
    · have h := sg_ifp hc h
      refine sg_ldc (pn := 25) dX11_order_23 rfl kc_X11_99 ?_
      obtain rfl := Option.some.inj h
      exact sg_iret dX11_order_25 rfl ⟨rfl, rfl⟩
    · have h := sg_ifn hc h
      refine sg_iload_n (pn := 19) (i := 2) dX11_order_18 rfl rfl 2 rfl ?_
      refine sg_iconst (pn := 20) dX11_order_19 rfl ic_1 ?_
      refine sg_icmp_le (pn := 23) (tgt := 26) dX11_order_20 rfl (by decide) (fun hc => ?_) (fun hc => ?_)
      · have h := sg_ifp hc h
        refine sg_iload_n (pn := 27) (i := 1) dX11_order_26 rfl rfl 1 rfl ?_
        refine sg_callSi (pn := 30) (rest := []) dX11_order_27 rfl kb_X11_274 ks_J6_bitCount_0f7a4 (Nat.le_of_ble_eq_true rfl) (gC_Integer_bitCount_ok rfl) rfl rfl (Nat.le_of_ble_eq_true rfl) ?_
        refine sg_iconst (pn := 31) dX11_order_30 rfl ic_5 ?_
        refine sg_icmp_gt (pn := 34) (tgt := 46) dX11_order_31 rfl (by decide) (fun hc => ?_) (fun hc => ?_)
        · have h := sg_ifp hc h
          refine sg_ldc (pn := 48) dX11_order_46 rfl kc_X11_216 ?_
          obtain rfl := Option.some.inj h
          exact sg_iret dX11_order_48 rfl ⟨rfl, rfl⟩
        · have h := sg_ifn hc h
          refine sg_iload_n (pn := 35) (i := 1) dX11_order_34 rfl rfl 1 rfl ?_
          refine sg_aload_n (pn := 36) (i := 0) dX11_order_35 rfl rfl 0 rfl ?_
          refine gfC_0_4 (pn := 39) dX11_order_36 rfl lf_X11_42 ?_
          obtain ⟨r1, h_r1, h⟩ := sg_bind h
          refine sg_callVi (pn := 42) (rest := [.int a1]) 24 dX11_order_39 rfl kb_X11_146 kv_X9_stuckSet (by exact rfl) rfl (Nat.le_of_ble_eq_true rfl) (gC_Survey_stuckSet_ok h_r1) rfl rfl (Nat.le_of_ble_eq_true rfl) ?_
          refine sg_iand (pn := 43) dX11_order_42 rfl ?_
          refine sg_if_eq (pn := 46) (tgt := 49) dX11_order_43 rfl (by decide) (fun hc => ?_) (fun hc => ?_)
          · have h := sg_ifp hc h
            refine sg_aload_n (pn := 50) (i := 0) dX11_order_49 rfl rfl 0 rfl ?_
            refine gfC_0_6 (pn := 53) dX11_order_50 rfl lf_X11_60 ?_
            refine sg_iload_n (pn := 54) (i := 1) dX11_order_53 rfl rfl 1 rfl ?_
            refine sg_aload_n (pn := 55) (i := 0) dX11_order_54 rfl rfl 0 rfl ?_
            refine gfC_0_4 (pn := 58) dX11_order_55 rfl lf_X11_42 ?_
            obtain ⟨r2, h_r2, h⟩ := sg_bind h
            refine sg_callVi (pn := 61) (rest := [.int a1, .ref (ad 28)]) 24 dX11_order_58 rfl kb_X11_143 kv_X9_townSet (by exact rfl) rfl (Nat.le_of_ble_eq_true rfl) (gC_Survey_townSet_ok h_r2) rfl rfl (Nat.le_of_ble_eq_true rfl) ?_
            obtain ⟨r3, h_r3, h⟩ := sg_bind h
            refine sg_callVv (pn := 64) (rest := []) 28 dX11_order_61 rfl kb_X11_279 kv_X4_look (by exact rfl) rfl (Nat.le_of_ble_eq_true rfl) (gC_Orders_look_ok h_r3) rfl rfl (Nat.le_of_ble_eq_true rfl) ?_
            refine sg_iload_n (pn := 65) (i := 2) dX11_order_64 rfl rfl 2 rfl ?_
            refine sg_if_ne (pn := 68) (tgt := 78) dX11_order_65 rfl (by decide) (fun hc => ?_) (fun hc => ?_)
            · have h := sg_ifn hc h
              refine sg_aload_n (pn := 79) (i := 0) dX11_order_78 rfl rfl 0 rfl ?_
              refine gfC_0_6 (pn := 82) dX11_order_79 rfl lf_X11_60 ?_
              refine gfC_28_1 (pn := 85) dX11_order_82 rfl lf_X11_285 ?_
              obtain rfl := Option.some.inj h
              exact sg_iret dX11_order_85 rfl ⟨rfl, rfl⟩
            · have h := sg_ifp hc h
              refine sg_aload_n (pn := 69) (i := 0) dX11_order_68 rfl rfl 0 rfl ?_
              refine gfC_0_6 (pn := 72) dX11_order_69 rfl lf_X11_60 ?_
              refine gfC_28_0 (pn := 75) dX11_order_72 rfl lf_X11_282 ?_
              refine sg_goto (tgt := 85) dX11_order_75 (by decide) ?_
              obtain rfl := Option.some.inj h
              exact sg_iret dX11_order_85 rfl ⟨rfl, rfl⟩
          · have h := sg_ifn hc h
            refine sg_ldc (pn := 48) dX11_order_46 rfl kc_X11_216 ?_
            obtain rfl := Option.some.inj h
            exact sg_iret dX11_order_48 rfl ⟨rfl, rfl⟩
      · have h := sg_ifn hc h
        refine sg_ldc (pn := 25) dX11_order_23 rfl kc_X11_99 ?_
        obtain rfl := Option.some.inj h
        exact sg_iret dX11_order_25 rfl ⟨rfl, rfl⟩
  · have h := sg_ifp hc h
    refine sg_ldc (pn := 13) dX11_order_11 rfl kc_X11_171 ?_
    obtain rfl := Option.some.inj h
    exact sg_iret dX11_order_13 rfl ⟨rfl, rfl⟩
set_option maxRecDepth 4000 in
theorem gC_Survey_distancesWith_L_ok {l : Launch} {D : va_G} {cI cZ : ClassId} {ad : Nat → Nat} : ∀ (n : Nat) (v1 : Int32) (v2 : Int32) (v3 : Int32) (z : sg_M) (r : Int32), gC_Survey_distancesWith_L n v1 v2 v3 z = some r → sg_G (eC l D cI cZ ad) yX9_distancesWith cX9_distancesWith 4 (some .int) 3 4 [(0, .ref (ad 24)), (1, .int v1), (2, .int v2), (3, .int v3)] [] z (sg_is (some (.int r)) z) := by
  intro n
  induction n with
  | zero => intro v1 v2 v3 z r h; cases h
  | succ n ih =>
    intro v1 v2 v3 z r h
    unfold gC_Survey_distancesWith_L at h
    refine sg_iload_n (pn := 5) (i := 3) dX9_distancesWith_4 rfl rfl 3 rfl ?_
    refine sg_aload_n (pn := 6) (i := 0) dX9_distancesWith_5 rfl rfl 0 rfl ?_
    refine gfC_24_0 (pn := 9) dX9_distancesWith_6 rfl lf_X9_9 ?_
    refine gfC_9_0 (pn := 12) dX9_distancesWith_9 rfl lf_X9_19 ?_
    refine sg_icmp_ge (pn := 15) (tgt := 30) dX9_distancesWith_12 rfl (by decide) (fun hc => ?_) (fun hc => ?_)
    · have h := sg_ifp hc h
      refine sg_iload_n (pn := 31) (i := 2) dX9_distancesWith_30 rfl rfl 2 rfl ?_
      obtain rfl := Option.some.inj h
      exact sg_iret dX9_distancesWith_31 rfl ⟨rfl, rfl⟩
    · have h := sg_ifn hc h
      refine sg_iload_n (pn := 16) (i := 2) dX9_distancesWith_15 rfl rfl 2 rfl ?_
      refine sg_aload_n (pn := 17) (i := 0) dX9_distancesWith_16 rfl rfl 0 rfl ?_
      refine sg_iload_n (pn := 18) (i := 3) dX9_distancesWith_17 rfl rfl 3 rfl ?_
      refine sg_iload_n (pn := 19) (i := 1) dX9_distancesWith_18 rfl rfl 1 rfl ?_
      obtain ⟨r1, h_r1, h⟩ := sg_bind h
      refine sg_callVi (pn := 22) (rest := [.int v2]) 24 dX9_distancesWith_19 rfl kb_X9_47 kv_X9_distanceWith (by exact rfl) rfl (Nat.le_of_ble_eq_true rfl) (gC_Survey_distanceWith_ok h_r1) rfl rfl (Nat.le_of_ble_eq_true rfl) ?_
      refine sg_iadd (pn := 23) dX9_distancesWith_22 rfl ?_
      obtain ⟨v2_2, e_v2_2, h⟩ := sg_letE h
      refine sg_topi e_v2_2 ?_
      refine sg_istore_n (pn := 24) (i := 2) (lv' := [(0, .ref (ad 24)), (1, .int v1), (2, .int v2_2), (3, .int v3)]) dX9_distancesWith_23 rfl rfl (Nat.le_of_ble_eq_true rfl) [1, 2, 0, 3] rfl ?_
      refine sg_iinc (pn := 27) (i := 3) (lv' := [(0, .ref (ad 24)), (1, .int v1), (2, .int v2_2), (3, .int (v3 + (1 : Int32)))]) dX9_distancesWith_24 rfl 3 rfl (ii_1 _) (Nat.le_of_ble_eq_true rfl) [1, 2, 3, 0] rfl ?_
      refine sg_goto (tgt := 4) dX9_distancesWith_27 (by decide) ?_
      exact ih _ _ _ _ _ h
set_option maxRecDepth 4000 in
theorem gC_Survey_distancesWith_ok {l : Launch} {D : va_G} {cI cZ : ClassId} {ad : Nat → Nat} {n : Nat} {a1 : Int32} {z : sg_M} {r : Int32} (h : gC_Survey_distancesWith n a1 z = some r) : sg_Met (eC l D cI cZ ad) yX9_distancesWith cX9_distancesWith 4 (some .int) 3 [.ref (ad 24), .int a1] z (sg_is (some (.int r)) z) := by
  refine sg_enter (lv0 := [(0, .ref (ad 24)), (1, .int a1)]) pn_X9 (Nat.le_of_ble_eq_true rfl) rfl ?_
  unfold gC_Survey_distancesWith at h
  refine sg_iconst (pn := 1) dX9_distancesWith_0 rfl ic_0 ?_
  refine sg_istore_n (pn := 2) (i := 2) (lv' := [(0, .ref (ad 24)), (1, .int a1), (2, .int (0 : Int32))]) dX9_distancesWith_1 rfl rfl (Nat.le_of_ble_eq_true rfl) [1, 2, 0] rfl ?_
  refine sg_iconst (pn := 3) dX9_distancesWith_2 rfl ic_0 ?_
  refine sg_istore_n (pn := 4) (i := 3) (lv' := [(0, .ref (ad 24)), (1, .int a1), (2, .int (0 : Int32)), (3, .int (0 : Int32))]) dX9_distancesWith_3 rfl rfl (Nat.le_of_ble_eq_true rfl) [1, 2, 3, 0] rfl ?_
  exact gC_Survey_distancesWith_L_ok n _ _ _ _ _ h
set_option maxRecDepth 4000 in
theorem gC_Survey_bestPlace_L_ok {l : Launch} {D : va_G} {cI cZ : ClassId} {ad : Nat → Nat} : ∀ (n : Nat) (v1 : Int32) (v2 : Int32) (v3 : Int32) (z : sg_M) (r : Int32), gC_Survey_bestPlace_L n v1 v2 v3 z = some r → sg_G (eC l D cI cZ ad) yX9_bestPlace cX9_bestPlace 5 (some .int) 4 6 [(0, .ref (ad 24)), (1, .int v1), (2, .int v2), (3, .int v3)] [] z (sg_is (some (.int r)) z) := by
  intro n
  induction n with
  | zero => intro v1 v2 v3 z r h; cases h
  | succ n ih =>
    intro v1 v2 v3 z r h
    unfold gC_Survey_bestPlace_L at h
    refine sg_iload_n (pn := 7) (i := 3) dX9_bestPlace_6 rfl rfl 3 rfl ?_
    refine sg_aload_n (pn := 8) (i := 0) dX9_bestPlace_7 rfl rfl 0 rfl ?_
    refine gfC_24_0 (pn := 11) dX9_bestPlace_8 rfl lf_X9_9 ?_
    refine gfC_9_0 (pn := 14) dX9_bestPlace_11 rfl lf_X9_19 ?_
    refine sg_icmp_ge (pn := 17) (tgt := 57) dX9_bestPlace_14 rfl (by decide) (fun hc => ?_) (fun hc => ?_)
    · have h := sg_ifp hc h
      refine sg_iload_n (pn := 58) (i := 1) dX9_bestPlace_57 rfl rfl 1 rfl ?_
      obtain rfl := Option.some.inj h
      exact sg_iret dX9_bestPlace_58 rfl ⟨rfl, rfl⟩
    · have h := sg_ifn hc h
      refine sg_aload_n (pn := 18) (i := 0) dX9_bestPlace_17 rfl rfl 0 rfl ?_
      refine gfC_24_1 (pn := 21) dX9_bestPlace_18 rfl lf_X9_15 ?_
      refine sg_iload_n (pn := 22) (i := 3) dX9_bestPlace_21 rfl rfl 3 rfl ?_
      obtain ⟨r1, h_r1, h⟩ := sg_bind h
      refine sg_callVi (pn := 25) (rest := []) 15 dX9_bestPlace_22 rfl kb_X9_25 kv_X8_hasTown (by exact rfl) rfl (Nat.le_of_ble_eq_true rfl) (gC_State_hasTown_ok h_r1) rfl rfl (Nat.le_of_ble_eq_true rfl) ?_
      obtain ⟨t3, e_t3, h2⟩ := sg_bind h
      have hm_t3 : sg_G (eC l D cI cZ ad) yX9_bestPlace cX9_bestPlace 5 (some .int) 4 51 [(0, .ref (ad 24)), (1, .int t3.1), (2, .int t3.2), (3, .int v3)] [] z (sg_is (some (.int r)) z) := by
        have h := h2
        refine sg_iinc (pn := 54) (i := 3) (lv' := [(0, .ref (ad 24)), (1, .int t3.1), (2, .int t3.2), (3, .int (v3 + (1 : Int32)))]) dX9_bestPlace_51 rfl 3 rfl (ii_1 _) (Nat.le_of_ble_eq_true rfl) [1, 2, 3, 0] rfl ?_
        refine sg_goto (tgt := 6) dX9_bestPlace_54 (by decide) ?_
        exact ih _ _ _ _ _ h
      have h := e_t3
      refine sg_if_ne (pn := 28) (tgt := 51) dX9_bestPlace_25 rfl (by decide) (fun hc => ?_) (fun hc => ?_)
      · have h := sg_ifn hc h
        obtain rfl := Option.some.inj h
        exact hm_t3
      · have h := sg_ifp hc h
        refine sg_aload_n (pn := 29) (i := 0) dX9_bestPlace_28 rfl rfl 0 rfl ?_
        refine sg_iload_n (pn := 30) (i := 3) dX9_bestPlace_29 rfl rfl 3 rfl ?_
        obtain ⟨r2, h_r2, h⟩ := sg_bind h
        refine sg_callVi (pn := 33) (rest := []) 24 dX9_bestPlace_30 rfl kb_X9_51 kv_X9_distancesWith (by exact rfl) rfl (Nat.le_of_ble_eq_true rfl) (gC_Survey_distancesWith_ok h_r2) rfl rfl (Nat.le_of_ble_eq_true rfl) ?_
        refine sg_istore (pn := 35) (i := 4) (lv' := [(0, .ref (ad 24)), (1, .int v1), (2, .int v2), (3, .int v3), (4, .int r2)]) dX9_bestPlace_33 rfl (Nat.le_of_ble_eq_true rfl) [1, 2, 3, 4, 0] rfl ?_
        refine sg_iload_n (pn := 36) (i := 1) dX9_bestPlace_35 rfl rfl 1 rfl ?_
        refine sg_iconst (pn := 37) dX9_bestPlace_36 rfl ic_m1 ?_
        refine sg_icmp_eq (pn := 40) (tgt := 46) dX9_bestPlace_37 rfl (by decide) (fun hc => ?_) (fun hc => ?_)
        · have h := sg_ifp hc h
          refine sg_iload_n (pn := 47) (i := 3) dX9_bestPlace_46 rfl rfl 3 rfl ?_
          refine sg_istore_n (pn := 48) (i := 1) (lv' := [(0, .ref (ad 24)), (1, .int v3), (2, .int v2), (3, .int v3), (4, .int r2)]) dX9_bestPlace_47 rfl rfl (Nat.le_of_ble_eq_true rfl) [1, 0, 2, 3, 4] rfl ?_
          refine sg_iload (pn := 50) (i := 4) dX9_bestPlace_48 rfl 4 rfl ?_
          refine sg_istore_n (pn := 51) (i := 2) (lv' := [(0, .ref (ad 24)), (1, .int v3), (2, .int r2), (3, .int v3), (4, .int r2)]) dX9_bestPlace_50 rfl rfl (Nat.le_of_ble_eq_true rfl) [1, 2, 0, 3, 4] rfl ?_
          obtain rfl := Option.some.inj h
          refine sg_sub [0, 1, 2, 3] rfl ?_
          exact hm_t3
        · have h := sg_ifn hc h
          refine sg_iload (pn := 42) (i := 4) dX9_bestPlace_40 rfl 4 rfl ?_
          refine sg_iload_n (pn := 43) (i := 2) dX9_bestPlace_42 rfl rfl 2 rfl ?_
          refine sg_icmp_ge (pn := 46) (tgt := 51) dX9_bestPlace_43 rfl (by decide) (fun hc => ?_) (fun hc => ?_)
          · have h := sg_ifp hc h
            obtain rfl := Option.some.inj h
            refine sg_sub [0, 1, 2, 3] rfl ?_
            exact hm_t3
          · have h := sg_ifn hc h
            refine sg_iload_n (pn := 47) (i := 3) dX9_bestPlace_46 rfl rfl 3 rfl ?_
            refine sg_istore_n (pn := 48) (i := 1) (lv' := [(0, .ref (ad 24)), (1, .int v3), (2, .int v2), (3, .int v3), (4, .int r2)]) dX9_bestPlace_47 rfl rfl (Nat.le_of_ble_eq_true rfl) [1, 0, 2, 3, 4] rfl ?_
            refine sg_iload (pn := 50) (i := 4) dX9_bestPlace_48 rfl 4 rfl ?_
            refine sg_istore_n (pn := 51) (i := 2) (lv' := [(0, .ref (ad 24)), (1, .int v3), (2, .int r2), (3, .int v3), (4, .int r2)]) dX9_bestPlace_50 rfl rfl (Nat.le_of_ble_eq_true rfl) [1, 2, 0, 3, 4] rfl ?_
            obtain rfl := Option.some.inj h
            refine sg_sub [0, 1, 2, 3] rfl ?_
            exact hm_t3
set_option maxRecDepth 4000 in
theorem gC_Survey_bestPlace_ok {l : Launch} {D : va_G} {cI cZ : ClassId} {ad : Nat → Nat} {n : Nat} {z : sg_M} {r : Int32} (h : gC_Survey_bestPlace n z = some r) : sg_Met (eC l D cI cZ ad) yX9_bestPlace cX9_bestPlace 5 (some .int) 4 [.ref (ad 24)] z (sg_is (some (.int r)) z) := by
  refine sg_enter (lv0 := [(0, .ref (ad 24))]) pn_X9 (Nat.le_of_ble_eq_true rfl) rfl ?_
  unfold gC_Survey_bestPlace at h
  refine sg_iconst (pn := 1) dX9_bestPlace_0 rfl ic_m1 ?_
  refine sg_istore_n (pn := 2) (i := 1) (lv' := [(0, .ref (ad 24)), (1, .int (-1 : Int32))]) dX9_bestPlace_1 rfl rfl (Nat.le_of_ble_eq_true rfl) [1, 0] rfl ?_
  refine sg_iconst (pn := 3) dX9_bestPlace_2 rfl ic_0 ?_
  refine sg_istore_n (pn := 4) (i := 2) (lv' := [(0, .ref (ad 24)), (1, .int (-1 : Int32)), (2, .int (0 : Int32))]) dX9_bestPlace_3 rfl rfl (Nat.le_of_ble_eq_true rfl) [1, 2, 0] rfl ?_
  refine sg_iconst (pn := 5) dX9_bestPlace_4 rfl ic_0 ?_
  refine sg_istore_n (pn := 6) (i := 3) (lv' := [(0, .ref (ad 24)), (1, .int (-1 : Int32)), (2, .int (0 : Int32)), (3, .int (0 : Int32))]) dX9_bestPlace_5 rfl rfl (Nat.le_of_ble_eq_true rfl) [1, 2, 3, 0] rfl ?_
  exact gC_Survey_bestPlace_L_ok n _ _ _ _ _ h
set_option maxRecDepth 4000 in
theorem gC_place_ok {l : Launch} {D : va_G} {cI cZ : ClassId} {ad : Nat → Nat} {n : Nat} {a1 : Int32} {z : sg_M} {r : Int32} (h : gC_place n a1 z = some r) : sg_Met (eC l D cI cZ ad) yX11_place cX11_place 3 (some .int) 5 [.ref (ad 0), .int a1] z (sg_is (some (.int r)) z) := by
  refine sg_enter (lv0 := [(0, .ref (ad 0)), (1, .int a1)]) pn_X11 (Nat.le_of_ble_eq_true rfl) rfl ?_
  unfold gC_place at h
  refine sg_iload_n (pn := 1) (i := 1) dX11_place_0 rfl rfl 1 rfl ?_
  refine sg_if_lt (pn := 4) (tgt := 9) dX11_place_1 rfl (by decide) (fun hc => ?_) (fun hc => ?_)
  · have h := sg_ifp hc h
    refine sg_ldc (pn := 11) dX11_place_9 rfl kc_X11_99 ?_
    obtain rfl := Option.some.inj h
    exact sg_iret dX11_place_11 rfl ⟨rfl, rfl⟩
  · have h := sg_ifn hc h
    refine sg_iload_n (pn := 5) (i := 1) dX11_place_4 rfl rfl 1 rfl ?_
    refine sg_iconst (pn := 6) dX11_place_5 rfl ic_1 ?_
    refine sg_icmp_le (pn := 9) (tgt := 12) dX11_place_6 rfl (by decide) (fun hc => ?_) (fun hc => ?_)
    · have h := sg_ifp hc h
      refine sg_aload_n (pn := 13) (i := 0) dX11_place_12 rfl rfl 0 rfl ?_
      refine gfC_0_1 (pn := 16) dX11_place_13 rfl lf_X11_19 ?_
      refine gfC_9_0 (pn := 19) dX11_place_16 rfl lf_X11_124 ?_
      refine sg_if_ne (pn := 22) (tgt := 25) dX11_place_19 rfl (by decide) (fun hc => ?_) (fun hc => ?_)
      · have h := sg_ifn hc h
        refine sg_aload_n (pn := 26) (i := 0) dX11_place_25 rfl rfl 0 rfl ?_
        refine gfC_0_4 (pn := 29) dX11_place_26 rfl lf_X11_42 ?_
        obtain ⟨r1, h_r1, h⟩ := sg_bind h
        refine sg_callVi (pn := 32) (rest := []) 24 dX11_place_29 rfl kb_X11_288 kv_X9_bestPlace (by exact rfl) rfl (Nat.le_of_ble_eq_true rfl) (gC_Survey_bestPlace_ok h_r1) rfl rfl (Nat.le_of_ble_eq_true rfl) ?_
        refine sg_istore_n (pn := 33) (i := 2) (lv' := [(0, .ref (ad 0)), (1, .int a1), (2, .int r1)]) dX11_place_32 rfl rfl (Nat.le_of_ble_eq_true rfl) [1, 2, 0] rfl ?_
        refine sg_iload_n (pn := 34) (i := 1) dX11_place_33 rfl rfl 1 rfl ?_
        refine sg_if_eq (pn := 37) (tgt := 42) dX11_place_34 rfl (by decide) (fun hc => ?_) (fun hc => ?_)
        · have h := sg_ifp hc h
          refine sg_iload_n (pn := 43) (i := 2) dX11_place_42 rfl rfl 2 rfl ?_
          refine sg_goto (tgt := 54) dX11_place_43 (by decide) ?_
          obtain rfl := Option.some.inj h
          exact sg_iret dX11_place_54 rfl ⟨rfl, rfl⟩
        · have h := sg_ifn hc h
          refine sg_iload_n (pn := 38) (i := 2) dX11_place_37 rfl rfl 2 rfl ?_
          refine sg_iconst (pn := 39) dX11_place_38 rfl ic_m1 ?_
          refine sg_icmp_ne (pn := 42) (tgt := 46) dX11_place_39 rfl (by decide) (fun hc => ?_) (fun hc => ?_)
          · have h := sg_ifn hc h
            refine sg_aload_n (pn := 47) (i := 0) dX11_place_46 rfl rfl 0 rfl ?_
            refine gfC_0_4 (pn := 50) dX11_place_47 rfl lf_X11_42 ?_
            refine sg_iload_n (pn := 51) (i := 2) dX11_place_50 rfl rfl 2 rfl ?_
            obtain ⟨r2, h_r2, h⟩ := sg_bind h
            refine sg_callVi (pn := 54) (rest := []) 24 dX11_place_51 rfl kb_X11_291 kv_X9_distancesWith (by exact rfl) rfl (Nat.le_of_ble_eq_true rfl) (gC_Survey_distancesWith_ok h_r2) rfl rfl (Nat.le_of_ble_eq_true rfl) ?_
            obtain rfl := Option.some.inj h
            exact sg_iret dX11_place_54 rfl ⟨rfl, rfl⟩
          · have h := sg_ifp hc h
            refine sg_iload_n (pn := 43) (i := 2) dX11_place_42 rfl rfl 2 rfl ?_
            refine sg_goto (tgt := 54) dX11_place_43 (by decide) ?_
            obtain rfl := Option.some.inj h
            exact sg_iret dX11_place_54 rfl ⟨rfl, rfl⟩
      · have h := sg_ifp hc h
        refine sg_ldc (pn := 24) dX11_place_22 rfl kc_X11_216 ?_
        obtain rfl := Option.some.inj h
        exact sg_iret dX11_place_24 rfl ⟨rfl, rfl⟩
    · have h := sg_ifn hc h
      refine sg_ldc (pn := 11) dX11_place_9 rfl kc_X11_99 ?_
      obtain rfl := Option.some.inj h
      exact sg_iret dX11_place_11 rfl ⟨rfl, rfl⟩
set_option maxRecDepth 4000 in
theorem gC_Survey_townsNamed_L_ok {l : Launch} {D : va_G} {cI cZ : ClassId} {ad : Nat → Nat} : ∀ (n : Nat) (v1 : Int32) (v2 : Int32) (v3 : Int32) (z : sg_M) (r : Int32), gC_Survey_townsNamed_L n v1 v2 v3 z = some r → sg_G (eC l D cI cZ ad) yX9_townsNamed cX9_townsNamed 4 (some .int) 1 4 [(0, .ref (ad 24)), (1, .int v1), (2, .int v2), (3, .int v3)] [] z (sg_is (some (.int r)) z) := by
  intro n
  induction n with
  | zero => intro v1 v2 v3 z r h; cases h
  | succ n ih =>
    intro v1 v2 v3 z r h
    unfold gC_Survey_townsNamed_L at h
    refine sg_iload_n (pn := 5) (i := 3) dX9_townsNamed_4 rfl rfl 3 rfl ?_
    refine sg_aload_n (pn := 6) (i := 0) dX9_townsNamed_5 rfl rfl 0 rfl ?_
    refine gfC_24_0 (pn := 9) dX9_townsNamed_6 rfl lf_X9_9 ?_
    refine gfC_9_0 (pn := 12) dX9_townsNamed_9 rfl lf_X9_19 ?_
    refine sg_icmp_ge (pn := 15) (tgt := 37) dX9_townsNamed_12 rfl (by decide) (fun hc => ?_) (fun hc => ?_)
    · have h := sg_ifp hc h
      refine sg_iload_n (pn := 38) (i := 2) dX9_townsNamed_37 rfl rfl 2 rfl ?_
      obtain rfl := Option.some.inj h
      exact sg_iret dX9_townsNamed_38 rfl ⟨rfl, rfl⟩
    · have h := sg_ifn hc h
      refine sg_aload_n (pn := 16) (i := 0) dX9_townsNamed_15 rfl rfl 0 rfl ?_
      refine gfC_24_1 (pn := 19) dX9_townsNamed_16 rfl lf_X9_15 ?_
      refine gfC_15_3 (pn := 22) dX9_townsNamed_19 rfl lf_X9_63 ?_
      refine sg_iload_n (pn := 23) (i := 3) dX9_townsNamed_22 rfl rfl 3 rfl ?_
      obtain ⟨hg, h⟩ := sg_guard h
      refine alC_17 (pn := 24) dX9_townsNamed_23 rfl (sg_in_vp hg) ?_
      refine sg_iload_n (pn := 25) (i := 1) dX9_townsNamed_24 rfl rfl 1 rfl ?_
      obtain ⟨t1, e_t1, h2⟩ := sg_letJ h
      have hm_t1 : sg_G (eC l D cI cZ ad) yX9_townsNamed cX9_townsNamed 4 (some .int) 1 31 [(0, .ref (ad 24)), (1, .int v1), (2, .int t1), (3, .int v3)] [] z (sg_is (some (.int r)) z) := by
        have h := h2
        refine sg_iinc (pn := 34) (i := 3) (lv' := [(0, .ref (ad 24)), (1, .int v1), (2, .int t1), (3, .int (v3 + (1 : Int32)))]) dX9_townsNamed_31 rfl 3 rfl (ii_1 _) (Nat.le_of_ble_eq_true rfl) [1, 2, 3, 0] rfl ?_
        refine sg_goto (tgt := 4) dX9_townsNamed_34 (by decide) ?_
        exact ih _ _ _ _ _ h
      have h := e_t1
      refine sg_icmp_ne (pn := 28) (tgt := 31) dX9_townsNamed_25 rfl (by decide) (fun hc => ?_) (fun hc => ?_)
      · have h := sg_ifn hc h
        subst h
        exact hm_t1
      · have h := sg_ifp hc h
        refine sg_iinc (pn := 31) (i := 2) (lv' := [(0, .ref (ad 24)), (1, .int v1), (2, .int (v2 + (1 : Int32))), (3, .int v3)]) dX9_townsNamed_28 rfl 2 rfl (ii_1 _) (Nat.le_of_ble_eq_true rfl) [1, 2, 0, 3] rfl ?_
        subst h
        exact hm_t1
set_option maxRecDepth 4000 in
theorem gC_Survey_townsNamed_ok {l : Launch} {D : va_G} {cI cZ : ClassId} {ad : Nat → Nat} {n : Nat} {a1 : Int32} {z : sg_M} {r : Int32} (h : gC_Survey_townsNamed n a1 z = some r) : sg_Met (eC l D cI cZ ad) yX9_townsNamed cX9_townsNamed 4 (some .int) 1 [.ref (ad 24), .int a1] z (sg_is (some (.int r)) z) := by
  refine sg_enter (lv0 := [(0, .ref (ad 24)), (1, .int a1)]) pn_X9 (Nat.le_of_ble_eq_true rfl) rfl ?_
  unfold gC_Survey_townsNamed at h
  refine sg_iconst (pn := 1) dX9_townsNamed_0 rfl ic_0 ?_
  refine sg_istore_n (pn := 2) (i := 2) (lv' := [(0, .ref (ad 24)), (1, .int a1), (2, .int (0 : Int32))]) dX9_townsNamed_1 rfl rfl (Nat.le_of_ble_eq_true rfl) [1, 2, 0] rfl ?_
  refine sg_iconst (pn := 3) dX9_townsNamed_2 rfl ic_0 ?_
  refine sg_istore_n (pn := 4) (i := 3) (lv' := [(0, .ref (ad 24)), (1, .int a1), (2, .int (0 : Int32)), (3, .int (0 : Int32))]) dX9_townsNamed_3 rfl rfl (Nat.le_of_ble_eq_true rfl) [1, 2, 3, 0] rfl ?_
  exact gC_Survey_townsNamed_L_ok n _ _ _ _ _ h
set_option maxRecDepth 4000 in
theorem gC_said_ok {l : Launch} {D : va_G} {cI cZ : ClassId} {ad : Nat → Nat} {n : Nat} {a1 : Int32} {z : sg_M} {r : Int32} (h : gC_said n a1 z = some r) : sg_Met (eC l D cI cZ ad) yX11_said cX11_said 2 (some .int) 2 [.ref (ad 0), .int a1] z (sg_is (some (.int r)) z) := by
  refine sg_enter (lv0 := [(0, .ref (ad 0)), (1, .int a1)]) pn_X11 (Nat.le_of_ble_eq_true rfl) rfl ?_
  unfold gC_said at h
  refine sg_iload_n (pn := 1) (i := 1) dX11_said_0 rfl rfl 1 rfl ?_
  refine sg_if_lt (pn := 4) (tgt := 10) dX11_said_1 rfl (by decide) (fun hc => ?_) (fun hc => ?_)
  · have h := sg_ifp hc h
    refine sg_ldc (pn := 12) dX11_said_10 rfl kc_X11_99 ?_
    obtain rfl := Option.some.inj h
    exact sg_iret dX11_said_12 rfl ⟨rfl, rfl⟩
  · have h := sg_ifn hc h
    refine sg_iload_n (pn := 5) (i := 1) dX11_said_4 rfl rfl 1 rfl ?_
    refine sg_bipush (pn := 7) dX11_said_5 rfl ib_9 ?_
    refine sg_icmp_le (pn := 10) (tgt := 13) dX11_said_7 rfl (by decide) (fun hc => ?_) (fun hc => ?_)
    · have h := sg_ifp hc h
      refine sg_aload_n (pn := 14) (i := 0) dX11_said_13 rfl rfl 0 rfl ?_
      refine gfC_0_4 (pn := 17) dX11_said_14 rfl lf_X11_42 ?_
      refine sg_iload_n (pn := 18) (i := 1) dX11_said_17 rfl rfl 1 rfl ?_
      obtain ⟨r1, h_r1, h⟩ := sg_bind h
      refine sg_callVi (pn := 21) (rest := []) 24 dX11_said_18 rfl kb_X11_294 kv_X9_townsNamed (by exact rfl) rfl (Nat.le_of_ble_eq_true rfl) (gC_Survey_townsNamed_ok h_r1) rfl rfl (Nat.le_of_ble_eq_true rfl) ?_
      obtain rfl := Option.some.inj h
      exact sg_iret dX11_said_21 rfl ⟨rfl, rfl⟩
    · have h := sg_ifn hc h
      refine sg_ldc (pn := 12) dX11_said_10 rfl kc_X11_99 ?_
      obtain rfl := Option.some.inj h
      exact sg_iret dX11_said_12 rfl ⟨rfl, rfl⟩
set_option maxRecDepth 4000 in
theorem gC_dry_L_ok {l : Launch} {D : va_G} {cI cZ : ClassId} {ad : Nat → Nat} : ∀ (n : Nat) (v1 : Int32) (v2 : Int32) (v3 : Int64) (v5 : Int32) (z : sg_M) (r : Int32), gC_dry_L n v1 v2 v3 v5 z = some r → sg_G (eC l D cI cZ ad) yX11_dry cX11_dry 6 (some .int) 1 30 [(1, .int v1), (2, .int v2), (3, .long v3), (5, .int v5)] [] z (sg_is (some (.int r)) z) := by
  intro n
  induction n with
  | zero => intro v1 v2 v3 v5 z r h; cases h
  | succ n ih =>
    intro v1 v2 v3 v5 z r h
    unfold gC_dry_L at h
    refine sg_iload (pn := 32) (i := 5) dX11_dry_30 rfl 3 rfl ?_
    refine sg_iload_n (pn := 33) (i := 1) dX11_dry_32 rfl rfl 0 rfl ?_
    refine sg_icmp_ge (pn := 36) (tgt := 51) dX11_dry_33 rfl (by decide) (fun hc => ?_) (fun hc => ?_)
    · have h := sg_ifp hc h
      refine sg_lload_n (pn := 52) (i := 3) dX11_dry_51 rfl rfl 2 rfl ?_
      refine sg_l2i (pn := 53) dX11_dry_52 rfl ?_
      obtain rfl := Option.some.inj h
      exact sg_iret dX11_dry_53 rfl ⟨rfl, rfl⟩
    · have h := sg_ifn hc h
      refine sg_lload_n (pn := 37) (i := 3) dX11_dry_36 rfl rfl 2 rfl ?_
      refine sg_iload_n (pn := 38) (i := 2) dX11_dry_37 rfl rfl 1 rfl ?_
      refine sg_i2l (pn := 39) dX11_dry_38 rfl ?_
      refine sg_lmul (pn := 40) dX11_dry_39 rfl ?_
      refine sg_ldc2 (pn := 43) dX11_dry_40 rfl kl_X11_299 ?_
      refine sg_ldiv (pn := 44) dX11_dry_43 rfl (by decide +kernel) ?_
      obtain ⟨v3_1, e_v3_1, h⟩ := sg_letE h
      refine sg_topl e_v3_1 ?_
      refine sg_lstore_n (pn := 45) (i := 3) (lv' := [(1, .int v1), (2, .int v2), (3, .long v3_1), (5, .int v5)]) dX11_dry_44 rfl rfl (Nat.le_of_ble_eq_true rfl) [1, 2, 0, 3] rfl ?_
      refine sg_iinc (pn := 48) (i := 5) (lv' := [(1, .int v1), (2, .int v2), (3, .long v3_1), (5, .int (v5 + (1 : Int32)))]) dX11_dry_45 rfl 3 rfl (ii_1 _) (Nat.le_of_ble_eq_true rfl) [1, 2, 3, 0] rfl ?_
      refine sg_goto (tgt := 30) dX11_dry_48 (by decide) ?_
      exact ih _ _ _ _ _ _ h
set_option maxRecDepth 4000 in
theorem gC_dry_ok {l : Launch} {D : va_G} {cI cZ : ClassId} {ad : Nat → Nat} {n : Nat} {a1 : Int32} {a2 : Int32} {z : sg_M} {r : Int32} (h : gC_dry n a1 a2 z = some r) : sg_Met (eC l D cI cZ ad) yX11_dry cX11_dry 6 (some .int) 1 [.ref (ad 0), .int a1, .int a2] z (sg_is (some (.int r)) z) := by
  refine sg_enter (lv0 := [(0, .ref (ad 0)), (1, .int a1), (2, .int a2)]) pn_X11 (Nat.le_of_ble_eq_true rfl) rfl ?_
  unfold gC_dry at h
  refine sg_iload_n (pn := 1) (i := 1) dX11_dry_0 rfl rfl 1 rfl ?_
  refine sg_if_lt (pn := 4) (tgt := 20) dX11_dry_1 rfl (by decide) (fun hc => ?_) (fun hc => ?_)
  · have h := sg_ifp hc h
    refine sg_ldc (pn := 22) dX11_dry_20 rfl kc_X11_99 ?_
    obtain rfl := Option.some.inj h
    exact sg_iret dX11_dry_22 rfl ⟨rfl, rfl⟩
  · have h := sg_ifn hc h
    refine sg_iload_n (pn := 5) (i := 1) dX11_dry_4 rfl rfl 1 rfl ?_
    refine sg_bipush (pn := 7) dX11_dry_5 rfl ib_60 ?_
    refine sg_icmp_gt (pn := 10) (tgt := 20) dX11_dry_7 rfl (by decide) (fun hc => ?_) (fun hc => ?_)
    · have h := sg_ifp hc h
      refine sg_ldc (pn := 22) dX11_dry_20 rfl kc_X11_99 ?_
      obtain rfl := Option.some.inj h
      exact sg_iret dX11_dry_22 rfl ⟨rfl, rfl⟩
    · have h := sg_ifn hc h
      refine sg_iload_n (pn := 11) (i := 2) dX11_dry_10 rfl rfl 2 rfl ?_
      refine sg_if_lt (pn := 14) (tgt := 20) dX11_dry_11 rfl (by decide) (fun hc => ?_) (fun hc => ?_)
      · have h := sg_ifp hc h
        refine sg_ldc (pn := 22) dX11_dry_20 rfl kc_X11_99 ?_
        obtain rfl := Option.some.inj h
        exact sg_iret dX11_dry_22 rfl ⟨rfl, rfl⟩
      · have h := sg_ifn hc h
        refine sg_iload_n (pn := 15) (i := 2) dX11_dry_14 rfl rfl 2 rfl ?_
        refine sg_bipush (pn := 17) dX11_dry_15 rfl ib_100 ?_
        refine sg_icmp_le (pn := 20) (tgt := 23) dX11_dry_17 rfl (by decide) (fun hc => ?_) (fun hc => ?_)
        · have h := sg_ifp hc h
          refine sg_ldc2 (pn := 26) dX11_dry_23 rfl kl_X11_297 ?_
          refine sg_lstore_n (pn := 27) (i := 3) (lv' := [(0, .ref (ad 0)), (1, .int a1), (2, .int a2), (3, .long (1000000000 : Int64))]) dX11_dry_26 rfl rfl (Nat.le_of_ble_eq_true rfl) [1, 2, 3, 0] rfl ?_
          refine sg_iconst (pn := 28) dX11_dry_27 rfl ic_0 ?_
          refine sg_istore (pn := 30) (i := 5) (lv' := [(0, .ref (ad 0)), (1, .int a1), (2, .int a2), (3, .long (1000000000 : Int64)), (5, .int (0 : Int32))]) dX11_dry_28 rfl (Nat.le_of_ble_eq_true rfl) [1, 2, 3, 4, 0] rfl ?_
          refine sg_sub [1, 2, 3, 4] rfl ?_
          exact gC_dry_L_ok n _ _ _ _ _ _ h
        · have h := sg_ifn hc h
          refine sg_ldc (pn := 22) dX11_dry_20 rfl kc_X11_99 ?_
          obtain rfl := Option.some.inj h
          exact sg_iret dX11_dry_22 rfl ⟨rfl, rfl⟩
set_option maxRecDepth 4000 in
theorem gC_Entries_isFull_30_ok {l : Launch} {D : va_G} {cI cZ : ClassId} {ad : Nat → Nat} {z : sg_M} {r : Int32} (h : gC_Entries_isFull_30 z = r) : sg_Met (eC l D cI cZ ad) yX0_isFull cX0_isFull 1 (some .boolean) 1 [.ref (ad 30)] z (sg_is (some (.int r)) z) := by
  refine sg_enter (lv0 := [(0, .ref (ad 30))]) pn_X0 (Nat.le_of_ble_eq_true rfl) rfl ?_
  unfold gC_Entries_isFull_30 at h
  refine sg_aload_n (pn := 1) (i := 0) dX0_isFull_0 rfl rfl 0 rfl ?_
  refine gfC_30_0 (pn := 4) dX0_isFull_1 rfl lf_X0_22 ?_
  refine sg_aload_n (pn := 5) (i := 0) dX0_isFull_4 rfl rfl 0 rfl ?_
  refine gfC_30_1 (pn := 8) dX0_isFull_5 rfl lf_X0_13 ?_
  refine anC_31 (pn := 9) dX0_isFull_8 rfl ?_
  refine sg_icmp_lt (pn := 12) (tgt := 16) dX0_isFull_9 rfl (by decide) (fun hc => ?_) (fun hc => ?_)
  · have h := sg_ifp hc h
    refine sg_iconst (pn := 17) dX0_isFull_16 rfl ic_0 ?_
    subst h
    exact sg_zret dX0_isFull_17 rfl rfl ⟨rfl, rfl⟩
  · have h := sg_ifn hc h
    refine sg_iconst (pn := 13) dX0_isFull_12 rfl ic_1 ?_
    refine sg_goto (tgt := 17) dX0_isFull_13 (by decide) ?_
    subst h
    exact sg_zret dX0_isFull_17 rfl rfl ⟨rfl, rfl⟩
set_option maxRecDepth 4000 in
theorem gC_Entries_append_30_ok {l : Launch} {D : va_G} {cI cZ : ClassId} {ad : Nat → Nat} {a1 : Int32} {a2 : Int32} {z : sg_M} {r : sg_M} (h : gC_Entries_append_30 a1 a2 z = some r) : sg_Met (eC l D cI cZ ad) yX0_append cX0_append 3 none 2 [.ref (ad 30), .int a1, .int a2] z (sg_is none r) := by
  refine sg_enter (lv0 := [(0, .ref (ad 30)), (1, .int a1), (2, .int a2)]) pn_X0 (Nat.le_of_ble_eq_true rfl) rfl ?_
  unfold gC_Entries_append_30 at h
  refine sg_aload_n (pn := 1) (i := 0) dX0_append_0 rfl rfl 0 rfl ?_
  refine sg_callVi (pn := 4) (rest := []) 30 dX0_append_1 rfl kb_X0_26 kv_X0_isFull (by exact rfl) rfl (Nat.le_of_ble_eq_true rfl) (gC_Entries_isFull_30_ok rfl) rfl rfl (Nat.le_of_ble_eq_true rfl) ?_
  refine sg_if_ne (pn := 7) (tgt := 37) dX0_append_4 rfl (by decide) (fun hc => ?_) (fun hc => ?_)
  · have h := sg_ifn hc h
    obtain rfl := Option.some.inj h
    exact sg_vret dX0_append_37 rfl ⟨rfl, rfl⟩
  · have h := sg_ifp hc h
    refine sg_aload_n (pn := 8) (i := 0) dX0_append_7 rfl rfl 0 rfl ?_
    refine gfC_30_1 (pn := 11) dX0_append_8 rfl lf_X0_13 ?_
    refine sg_aload_n (pn := 12) (i := 0) dX0_append_11 rfl rfl 0 rfl ?_
    refine gfC_30_0 (pn := 15) dX0_append_12 rfl lf_X0_22 ?_
    refine sg_iload_n (pn := 16) (i := 1) dX0_append_15 rfl rfl 1 rfl ?_
    obtain ⟨hg, h⟩ := sg_guard h
    refine asC_31 (pn := 17) dX0_append_16 rfl (sg_in_vp hg) ?_
    obtain ⟨z1, e_z1, h⟩ := sg_letE h
    refine sg_zE e_z1 ?_
    refine sg_aload_n (pn := 18) (i := 0) dX0_append_17 rfl rfl 0 rfl ?_
    refine gfC_30_2 (pn := 21) dX0_append_18 rfl lf_X0_19 ?_
    refine sg_aload_n (pn := 22) (i := 0) dX0_append_21 rfl rfl 0 rfl ?_
    refine gfC_30_0 (pn := 25) dX0_append_22 rfl lf_X0_22 ?_
    refine sg_iload_n (pn := 26) (i := 2) dX0_append_25 rfl rfl 2 rfl ?_
    obtain ⟨hg, h⟩ := sg_guard h
    refine asC_32 (pn := 27) dX0_append_26 rfl (sg_in_vp hg) ?_
    obtain ⟨z2, e_z2, h⟩ := sg_letE h
    refine sg_zE e_z2 ?_
    refine sg_aload_n (pn := 28) (i := 0) dX0_append_27 rfl rfl 0 rfl ?_
    refine sg_dup (pn := 29) dX0_append_28 rfl rfl ?_
    refine gfC_30_0 (pn := 32) dX0_append_29 rfl lf_X0_22 ?_
    refine sg_iconst (pn := 33) dX0_append_32 rfl ic_1 ?_
    refine sg_iadd (pn := 34) dX0_append_33 rfl ?_
    refine pfC_30_0 (pn := 37) dX0_append_34 rfl lf_X0_22 ?_
    obtain ⟨z3, e_z3, h⟩ := sg_letE h
    refine sg_zE e_z3 ?_
    obtain rfl := Option.some.inj h
    exact sg_vret dX0_append_37 rfl ⟨rfl, rfl⟩
