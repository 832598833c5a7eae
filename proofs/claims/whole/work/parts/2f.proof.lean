set_option maxRecDepth 4000 in
theorem gC_hear_ok {l : Launch} {D : va_G} {cI cZ : ClassId} {ad : Nat → Nat} {a1 : Int32} {a2 : Int32} {z : sg_M} {r : Int32 × sg_M} (h : gC_hear a1 a2 z = some r) : sg_Met (eC l D cI cZ ad) yX11_hear cX11_hear 3 (some .int) 3 [.ref (ad 0), .int a1, .int a2] z (sg_is (some (.int r.1)) r.2) := by
  refine sg_enter (lv0 := [(0, .ref (ad 0)), (1, .int a1), (2, .int a2)]) pn_X11 (Nat.le_of_ble_eq_true rfl) rfl ?_
  unfold gC_hear at h
  refine sg_aload_n (pn := 1) (i := 0) dX11_hear_0 rfl rfl 0 rfl ?_
  refine gfC_0_1 (pn := 4) dX11_hear_1 rfl lf_X11_19 ?_
  refine sg_iload_n (pn := 5) (i := 1) dX11_hear_4 rfl rfl 1 rfl ?_
  refine sg_callVi (pn := 8) (rest := []) 9 dX11_hear_5 rfl kb_X11_188 kv_X6_hasCart (by exact rfl) rfl (Nat.le_of_ble_eq_true rfl) (gC_Road_hasCart_ok rfl) rfl rfl (Nat.le_of_ble_eq_true rfl) ?_
  refine sg_if_eq (pn := 11) (tgt := 27) dX11_hear_8 rfl (by decide) (fun hc => ?_) (fun hc => ?_)
  · have h := sg_ifp hc h
    refine sg_ldc (pn := 29) dX11_hear_27 rfl kc_X11_171 ?_
    obtain rfl := Option.some.inj h
    exact sg_iret dX11_hear_29 rfl ⟨rfl, rfl⟩
  · have h := sg_ifn hc h
    refine sg_iload_n (pn := 12) (i := 2) dX11_hear_11 rfl rfl 2 rfl ?_
    refine sg_iconst (pn := 13) dX11_hear_12 rfl ic_m1 ?_
    refine sg_icmp_eq (pn := 16) (tgt := 30) dX11_hear_13 rfl (by decide) (fun hc => ?_) (fun hc => ?_)
    · have h := sg_ifp hc h
      refine sg_aload_n (pn := 31) (i := 0) dX11_hear_30 rfl rfl 0 rfl ?_
      refine gfC_0_7 (pn := 34) dX11_hear_31 rfl lf_X11_69 ?_
      refine sg_callVi (pn := 37) (rest := []) 30 dX11_hear_34 rfl kb_X11_301 kv_X0_isFull (by exact rfl) rfl (Nat.le_of_ble_eq_true rfl) (gC_Entries_isFull_30_ok rfl) rfl rfl (Nat.le_of_ble_eq_true rfl) ?_
      refine sg_if_eq (pn := 40) (tgt := 43) dX11_hear_37 rfl (by decide) (fun hc => ?_) (fun hc => ?_)
      · have h := sg_ifp hc h
        refine sg_aload_n (pn := 44) (i := 0) dX11_hear_43 rfl rfl 0 rfl ?_
        refine gfC_0_7 (pn := 47) dX11_hear_44 rfl lf_X11_69 ?_
        refine sg_iload_n (pn := 48) (i := 1) dX11_hear_47 rfl rfl 1 rfl ?_
        refine sg_iload_n (pn := 49) (i := 2) dX11_hear_48 rfl rfl 2 rfl ?_
        obtain ⟨r1, h_r1, h⟩ := sg_bind h
        refine sg_callVv (pn := 52) (rest := []) 30 dX11_hear_49 rfl kb_X11_305 kv_X0_append (by exact rfl) rfl (Nat.le_of_ble_eq_true rfl) (gC_Entries_append_30_ok h_r1) rfl rfl (Nat.le_of_ble_eq_true rfl) ?_
        refine sg_aload_n (pn := 53) (i := 0) dX11_hear_52 rfl rfl 0 rfl ?_
        refine gfC_0_7 (pn := 56) dX11_hear_53 rfl lf_X11_69 ?_
        refine gfC_30_0 (pn := 59) dX11_hear_56 rfl lf_X11_118 ?_
        obtain rfl := Option.some.inj h
        exact sg_iret dX11_hear_59 rfl ⟨rfl, rfl⟩
      · have h := sg_ifn hc h
        refine sg_ldc (pn := 42) dX11_hear_40 rfl kc_X11_104 ?_
        obtain rfl := Option.some.inj h
        exact sg_iret dX11_hear_42 rfl ⟨rfl, rfl⟩
    · have h := sg_ifn hc h
      refine sg_aload_n (pn := 17) (i := 0) dX11_hear_16 rfl rfl 0 rfl ?_
      refine gfC_0_1 (pn := 20) dX11_hear_17 rfl lf_X11_19 ?_
      refine sg_iload_n (pn := 21) (i := 2) dX11_hear_20 rfl rfl 2 rfl ?_
      refine sg_callVi (pn := 24) (rest := []) 9 dX11_hear_21 rfl kb_X11_167 kv_X6_hasCell (by exact rfl) rfl (Nat.le_of_ble_eq_true rfl) (gC_Road_hasCell_ok rfl) rfl rfl (Nat.le_of_ble_eq_true rfl) ?_
      refine sg_if_ne (pn := 27) (tgt := 30) dX11_hear_24 rfl (by decide) (fun hc => ?_) (fun hc => ?_)
      · have h := sg_ifn hc h
        refine sg_aload_n (pn := 31) (i := 0) dX11_hear_30 rfl rfl 0 rfl ?_
        refine gfC_0_7 (pn := 34) dX11_hear_31 rfl lf_X11_69 ?_
        refine sg_callVi (pn := 37) (rest := []) 30 dX11_hear_34 rfl kb_X11_301 kv_X0_isFull (by exact rfl) rfl (Nat.le_of_ble_eq_true rfl) (gC_Entries_isFull_30_ok rfl) rfl rfl (Nat.le_of_ble_eq_true rfl) ?_
        refine sg_if_eq (pn := 40) (tgt := 43) dX11_hear_37 rfl (by decide) (fun hc => ?_) (fun hc => ?_)
        · have h := sg_ifp hc h
          refine sg_aload_n (pn := 44) (i := 0) dX11_hear_43 rfl rfl 0 rfl ?_
          refine gfC_0_7 (pn := 47) dX11_hear_44 rfl lf_X11_69 ?_
          refine sg_iload_n (pn := 48) (i := 1) dX11_hear_47 rfl rfl 1 rfl ?_
          refine sg_iload_n (pn := 49) (i := 2) dX11_hear_48 rfl rfl 2 rfl ?_
          obtain ⟨r2, h_r2, h⟩ := sg_bind h
          refine sg_callVv (pn := 52) (rest := []) 30 dX11_hear_49 rfl kb_X11_305 kv_X0_append (by exact rfl) rfl (Nat.le_of_ble_eq_true rfl) (gC_Entries_append_30_ok h_r2) rfl rfl (Nat.le_of_ble_eq_true rfl) ?_
          refine sg_aload_n (pn := 53) (i := 0) dX11_hear_52 rfl rfl 0 rfl ?_
          refine gfC_0_7 (pn := 56) dX11_hear_53 rfl lf_X11_69 ?_
          refine gfC_30_0 (pn := 59) dX11_hear_56 rfl lf_X11_118 ?_
          obtain rfl := Option.some.inj h
          exact sg_iret dX11_hear_59 rfl ⟨rfl, rfl⟩
        · have h := sg_ifn hc h
          refine sg_ldc (pn := 42) dX11_hear_40 rfl kc_X11_104 ?_
          obtain rfl := Option.some.inj h
          exact sg_iret dX11_hear_42 rfl ⟨rfl, rfl⟩
      · have h := sg_ifp hc h
        refine sg_ldc (pn := 29) dX11_hear_27 rfl kc_X11_171 ?_
        obtain rfl := Option.some.inj h
        exact sg_iret dX11_hear_29 rfl ⟨rfl, rfl⟩
set_option maxRecDepth 4000 in
theorem gC_Span_clear_39_ok {l : Launch} {D : va_G} {cI cZ : ClassId} {ad : Nat → Nat} {z : sg_M} {r : sg_M} (h : gC_Span_clear_39 z = some r) : sg_Met (eC l D cI cZ ad) yX7_clear cX7_clear 1 none 1 [.ref (ad 39)] z (sg_is none r) := by
  refine sg_enter (lv0 := [(0, .ref (ad 39))]) pn_X7 (Nat.le_of_ble_eq_true rfl) rfl ?_
  unfold gC_Span_clear_39 at h
  refine sg_aload_n (pn := 1) (i := 0) dX7_clear_0 rfl rfl 0 rfl ?_
  refine sg_iconst (pn := 2) dX7_clear_1 rfl ic_0 ?_
  refine pfC_39_0 (pn := 5) dX7_clear_2 rfl lf_X7_9 ?_
  obtain ⟨z1, e_z1, h⟩ := sg_letE h
  refine sg_zE e_z1 ?_
  refine sg_aload_n (pn := 6) (i := 0) dX7_clear_5 rfl rfl 0 rfl ?_
  refine sg_iconst (pn := 7) dX7_clear_6 rfl ic_m1 ?_
  refine pfC_39_1 (pn := 10) dX7_clear_7 rfl lf_X7_15 ?_
  obtain ⟨z2, e_z2, h⟩ := sg_letE h
  refine sg_zE e_z2 ?_
  refine sg_aload_n (pn := 11) (i := 0) dX7_clear_10 rfl rfl 0 rfl ?_
  refine sg_iconst (pn := 12) dX7_clear_11 rfl ic_m1 ?_
  refine pfC_39_2 (pn := 15) dX7_clear_12 rfl lf_X7_18 ?_
  obtain ⟨z3, e_z3, h⟩ := sg_letE h
  refine sg_zE e_z3 ?_
  obtain rfl := Option.some.inj h
  exact sg_vret dX7_clear_15 rfl ⟨rfl, rfl⟩
set_option maxRecDepth 4000 in
theorem gC_Guesses_isAsHeard_L_ok {l : Launch} {D : va_G} {cI cZ : ClassId} {ad : Nat → Nat} : ∀ (n : Nat) (v1 : Int32) (v2 : Int32) (z : sg_M) (r : Int32), gC_Guesses_isAsHeard_L n v1 v2 z = some r → sg_G (eC l D cI cZ ad) yX1_isAsHeard cX1_isAsHeard 4 (some .boolean) 4 2 [(0, .ref (ad 36)), (1, .int v1), (2, .int v2)] [] z (sg_is (some (.int r)) z) := by
  intro n
  induction n with
  | zero => intro v1 v2 z r h; cases h
  | succ n ih =>
    intro v1 v2 z r h
    unfold gC_Guesses_isAsHeard_L at h
    refine sg_iload_n (pn := 3) (i := 2) dX1_isAsHeard_2 rfl rfl 2 rfl ?_
    refine sg_aload_n (pn := 4) (i := 0) dX1_isAsHeard_3 rfl rfl 0 rfl ?_
    refine gfC_36_3 (pn := 7) dX1_isAsHeard_4 rfl lf_X1_38 ?_
    refine gfC_30_0 (pn := 10) dX1_isAsHeard_7 rfl lf_X1_42 ?_
    refine sg_icmp_ge (pn := 13) (tgt := 72) dX1_isAsHeard_10 rfl (by decide) (fun hc => ?_) (fun hc => ?_)
    · have h := sg_ifp hc h
      refine sg_iconst (pn := 73) dX1_isAsHeard_72 rfl ic_1 ?_
      obtain rfl := Option.some.inj h
      exact sg_zret dX1_isAsHeard_73 rfl rfl ⟨rfl, rfl⟩
    · have h := sg_ifn hc h
      refine sg_aload_n (pn := 14) (i := 0) dX1_isAsHeard_13 rfl rfl 0 rfl ?_
      refine gfC_36_3 (pn := 17) dX1_isAsHeard_14 rfl lf_X1_38 ?_
      refine gfC_30_1 (pn := 20) dX1_isAsHeard_17 rfl lf_X1_48 ?_
      refine sg_iload_n (pn := 21) (i := 2) dX1_isAsHeard_20 rfl rfl 2 rfl ?_
      obtain ⟨hg, h⟩ := sg_guard h
      refine alC_31 (pn := 22) dX1_isAsHeard_21 rfl (sg_in_vp hg) ?_
      obtain ⟨v3_1, e_v3_1, h⟩ := sg_letE h
      refine sg_topi e_v3_1 ?_
      refine sg_istore_n (pn := 23) (i := 3) (lv' := [(0, .ref (ad 36)), (1, .int v1), (2, .int v2), (3, .int v3_1)]) dX1_isAsHeard_22 rfl rfl (Nat.le_of_ble_eq_true rfl) [1, 2, 3, 0] rfl ?_
      refine sg_aload_n (pn := 24) (i := 0) dX1_isAsHeard_23 rfl rfl 0 rfl ?_
      refine gfC_36_0 (pn := 27) dX1_isAsHeard_24 rfl lf_X1_26 ?_
      refine sg_iload_n (pn := 28) (i := 3) dX1_isAsHeard_27 rfl rfl 3 rfl ?_
      refine sg_callVi (pn := 31) (rest := []) 9 dX1_isAsHeard_28 rfl kb_X1_51 kv_X6_hasCart (by exact rfl) rfl (Nat.le_of_ble_eq_true rfl) (gC_Road_hasCart_ok rfl) rfl rfl (Nat.le_of_ble_eq_true rfl) ?_
      refine sg_if_eq (pn := 34) (tgt := 66) dX1_isAsHeard_31 rfl (by decide) (fun hc => ?_) (fun hc => ?_)
      · have h := sg_ifp hc h
        refine sg_iinc (pn := 69) (i := 2) (lv' := [(0, .ref (ad 36)), (1, .int v1), (2, .int (v2 + (1 : Int32))), (3, .int v3_1)]) dX1_isAsHeard_66 rfl 2 rfl (ii_1 _) (Nat.le_of_ble_eq_true rfl) [1, 2, 0, 3] rfl ?_
        refine sg_goto (tgt := 2) dX1_isAsHeard_69 (by decide) ?_
        refine sg_sub [0, 1, 2] rfl ?_
        exact ih _ _ _ _ h
      · have h := sg_ifn hc h
        refine sg_aload_n (pn := 35) (i := 0) dX1_isAsHeard_34 rfl rfl 0 rfl ?_
        refine gfC_36_2 (pn := 38) dX1_isAsHeard_35 rfl lf_X1_34 ?_
        refine sg_iload_n (pn := 39) (i := 3) dX1_isAsHeard_38 rfl rfl 3 rfl ?_
        refine sg_iload_n (pn := 40) (i := 1) dX1_isAsHeard_39 rfl rfl 1 rfl ?_
        refine sg_aload_n (pn := 41) (i := 0) dX1_isAsHeard_40 rfl rfl 0 rfl ?_
        refine gfC_36_1 (pn := 44) dX1_isAsHeard_41 rfl lf_X1_30 ?_
        refine gfC_15_6 (pn := 47) dX1_isAsHeard_44 rfl lf_X1_57 ?_
        refine sg_iload_n (pn := 48) (i := 3) dX1_isAsHeard_47 rfl rfl 3 rfl ?_
        obtain ⟨hg, h⟩ := sg_guard h
        refine alC_20 (pn := 49) dX1_isAsHeard_48 rfl (sg_in_vp hg) ?_
        obtain ⟨r2, h_r2, h⟩ := sg_bind h
        refine sg_callVi (pn := 52) (rest := []) 23 dX1_isAsHeard_49 rfl kb_X1_62 kv_X2_stopOf (by exact rfl) rfl (Nat.le_of_ble_eq_true rfl) (gC_Kingdom_stopOf_ok h_r2) rfl rfl (Nat.le_of_ble_eq_true rfl) ?_
        refine sg_aload_n (pn := 53) (i := 0) dX1_isAsHeard_52 rfl rfl 0 rfl ?_
        refine gfC_36_3 (pn := 56) dX1_isAsHeard_53 rfl lf_X1_38 ?_
        refine gfC_30_2 (pn := 59) dX1_isAsHeard_56 rfl lf_X1_68 ?_
        refine sg_iload_n (pn := 60) (i := 2) dX1_isAsHeard_59 rfl rfl 2 rfl ?_
        obtain ⟨hg, h⟩ := sg_guard h
        refine alC_32 (pn := 61) dX1_isAsHeard_60 rfl (sg_in_vp hg) ?_
        refine sg_icmp_eq (pn := 64) (tgt := 66) dX1_isAsHeard_61 rfl (by decide) (fun hc => ?_) (fun hc => ?_)
        · have h := sg_ifp hc h
          refine sg_iinc (pn := 69) (i := 2) (lv' := [(0, .ref (ad 36)), (1, .int v1), (2, .int (v2 + (1 : Int32))), (3, .int v3_1)]) dX1_isAsHeard_66 rfl 2 rfl (ii_1 _) (Nat.le_of_ble_eq_true rfl) [1, 2, 0, 3] rfl ?_
          refine sg_goto (tgt := 2) dX1_isAsHeard_69 (by decide) ?_
          refine sg_sub [0, 1, 2] rfl ?_
          exact ih _ _ _ _ h
        · have h := sg_ifn hc h
          refine sg_iconst (pn := 65) dX1_isAsHeard_64 rfl ic_0 ?_
          obtain rfl := Option.some.inj h
          exact sg_zret dX1_isAsHeard_65 rfl rfl ⟨rfl, rfl⟩
set_option maxRecDepth 4000 in
theorem gC_Guesses_isAsHeard_ok {l : Launch} {D : va_G} {cI cZ : ClassId} {ad : Nat → Nat} {n : Nat} {a1 : Int32} {z : sg_M} {r : Int32} (h : gC_Guesses_isAsHeard n a1 z = some r) : sg_Met (eC l D cI cZ ad) yX1_isAsHeard cX1_isAsHeard 4 (some .boolean) 4 [.ref (ad 36), .int a1] z (sg_is (some (.int r)) z) := by
  refine sg_enter (lv0 := [(0, .ref (ad 36)), (1, .int a1)]) pn_X1 (Nat.le_of_ble_eq_true rfl) rfl ?_
  unfold gC_Guesses_isAsHeard at h
  refine sg_iconst (pn := 1) dX1_isAsHeard_0 rfl ic_0 ?_
  refine sg_istore_n (pn := 2) (i := 2) (lv' := [(0, .ref (ad 36)), (1, .int a1), (2, .int (0 : Int32))]) dX1_isAsHeard_1 rfl rfl (Nat.le_of_ble_eq_true rfl) [1, 2, 0] rfl ?_
  exact gC_Guesses_isAsHeard_L_ok n _ _ _ _ h
set_option maxRecDepth 4000 in
theorem gC_Span_put_39_ok {l : Launch} {D : va_G} {cI cZ : ClassId} {ad : Nat → Nat} {a1 : Int32} {z : sg_M} {r : sg_M} (h : gC_Span_put_39 a1 z = some r) : sg_Met (eC l D cI cZ ad) yX7_put cX7_put 2 none 1 [.ref (ad 39), .int a1] z (sg_is none r) := by
  refine sg_enter (lv0 := [(0, .ref (ad 39)), (1, .int a1)]) pn_X7 (Nat.le_of_ble_eq_true rfl) rfl ?_
  unfold gC_Span_put_39 at h
  refine sg_aload_n (pn := 1) (i := 0) dX7_put_0 rfl rfl 0 rfl ?_
  refine gfC_39_0 (pn := 4) dX7_put_1 rfl lf_X7_9 ?_
  obtain ⟨t2, e_t2, h2⟩ := sg_letJ h
  have hm_t2 : sg_G (eC l D cI cZ ad) yX7_put cX7_put 2 none 1 12 [(0, .ref (ad 39)), (1, .int a1)] [] t2 (sg_is none r) := by
    have h := h2
    refine sg_aload_n (pn := 13) (i := 0) dX7_put_12 rfl rfl 0 rfl ?_
    refine sg_iload_n (pn := 14) (i := 1) dX7_put_13 rfl rfl 1 rfl ?_
    refine pfC_39_2 (pn := 17) dX7_put_14 rfl lf_X7_18 ?_
    obtain ⟨z3, e_z3, h⟩ := sg_letE h
    refine sg_zE e_z3 ?_
    refine sg_aload_n (pn := 18) (i := 0) dX7_put_17 rfl rfl 0 rfl ?_
    refine sg_dup (pn := 19) dX7_put_18 rfl rfl ?_
    refine gfC_39_0 (pn := 22) dX7_put_19 rfl lf_X7_9 ?_
    refine sg_iconst (pn := 23) dX7_put_22 rfl ic_1 ?_
    refine sg_iadd (pn := 24) dX7_put_23 rfl ?_
    refine pfC_39_0 (pn := 27) dX7_put_24 rfl lf_X7_9 ?_
    obtain ⟨z4, e_z4, h⟩ := sg_letE h
    refine sg_zE e_z4 ?_
    obtain rfl := Option.some.inj h
    exact sg_vret dX7_put_27 rfl ⟨rfl, rfl⟩
  have h := e_t2
  refine sg_if_ne (pn := 7) (tgt := 12) dX7_put_4 rfl (by decide) (fun hc => ?_) (fun hc => ?_)
  · have h := sg_ifn hc h
    subst h
    exact hm_t2
  · have h := sg_ifp hc h
    refine sg_aload_n (pn := 8) (i := 0) dX7_put_7 rfl rfl 0 rfl ?_
    refine sg_iload_n (pn := 9) (i := 1) dX7_put_8 rfl rfl 1 rfl ?_
    refine pfC_39_1 (pn := 12) dX7_put_9 rfl lf_X7_15 ?_
    obtain ⟨z1, e_z1, h⟩ := sg_letE h
    refine sg_zE e_z1 ?_
    subst h
    exact hm_t2
set_option maxRecDepth 4000 in
theorem gC_Guesses_fittingRains_L_ok {l : Launch} {D : va_G} {cI cZ : ClassId} {ad : Nat → Nat} : ∀ (n : Nat) (v1 : Int32) (z : sg_M) (r : sg_M), gC_Guesses_fittingRains_L n v1 z = some r → sg_G (eC l D cI cZ ad) yX1_fittingRains cX1_fittingRains 2 (some (.object "StuckTowns$Span")) 5 9 [(0, .ref (ad 36)), (1, .int v1)] [] z (sg_is (some (.ref (ad 39))) r) := by
  intro n
  induction n with
  | zero => intro v1 z r h; cases h
  | succ n ih =>
    intro v1 z r h
    unfold gC_Guesses_fittingRains_L at h
    refine sg_iload_n (pn := 10) (i := 1) dX1_fittingRains_9 rfl rfl 1 rfl ?_
    refine sg_bipush (pn := 12) dX1_fittingRains_10 rfl ib_60 ?_
    refine sg_icmp_gt (pn := 15) (tgt := 49) dX1_fittingRains_12 rfl (by decide) (fun hc => ?_) (fun hc => ?_)
    · have h := sg_ifp hc h
      refine sg_aload_n (pn := 50) (i := 0) dX1_fittingRains_49 rfl rfl 0 rfl ?_
      refine gfC_36_6 (pn := 53) dX1_fittingRains_50 rfl lf_X1_22 ?_
      obtain rfl := Option.some.inj h
      exact sg_aret dX1_fittingRains_53 rfl ⟨rfl, rfl⟩
    · have h := sg_ifn hc h
      refine sg_aload_n (pn := 16) (i := 0) dX1_fittingRains_15 rfl rfl 0 rfl ?_
      refine gfC_36_4 (pn := 19) dX1_fittingRains_16 rfl lf_X1_9 ?_
      refine sg_iload_n (pn := 20) (i := 1) dX1_fittingRains_19 rfl rfl 1 rfl ?_
      refine sg_aload_n (pn := 21) (i := 0) dX1_fittingRains_20 rfl rfl 0 rfl ?_
      refine sg_iload_n (pn := 22) (i := 1) dX1_fittingRains_21 rfl rfl 1 rfl ?_
      obtain ⟨r2, h_r2, h⟩ := sg_bind h
      refine sg_callVi (pn := 25) (rest := [.int v1, .ref (ad 37)]) 36 dX1_fittingRains_22 rfl kb_X1_74 kv_X1_isAsHeard (by exact rfl) rfl (Nat.le_of_ble_eq_true rfl) (gC_Guesses_isAsHeard_ok h_r2) rfl rfl (Nat.le_of_ble_eq_true rfl) ?_
      obtain ⟨hg, h⟩ := sg_guard h
      refine asC_37 (pn := 26) dX1_fittingRains_25 rfl (sg_in_vp hg) ?_
      obtain ⟨z3, e_z3, h⟩ := sg_letE h
      refine sg_zE e_z3 ?_
      refine sg_aload_n (pn := 27) (i := 0) dX1_fittingRains_26 rfl rfl 0 rfl ?_
      refine gfC_36_4 (pn := 30) dX1_fittingRains_27 rfl lf_X1_9 ?_
      refine sg_iload_n (pn := 31) (i := 1) dX1_fittingRains_30 rfl rfl 1 rfl ?_
      obtain ⟨hg, h⟩ := sg_guard h
      refine alC_37 (pn := 32) dX1_fittingRains_31 rfl (sg_in_vp hg) ?_
      obtain ⟨t5, e_t5, h2⟩ := sg_bind h
      have hm_t5 : sg_G (eC l D cI cZ ad) yX1_fittingRains cX1_fittingRains 2 (some (.object "StuckTowns$Span")) 5 43 [(0, .ref (ad 36)), (1, .int v1)] [] t5 (sg_is (some (.ref (ad 39))) r) := by
        have h := h2
        refine sg_iinc (pn := 46) (i := 1) (lv' := [(0, .ref (ad 36)), (1, .int (v1 + (1 : Int32)))]) dX1_fittingRains_43 rfl 1 rfl (ii_1 _) (Nat.le_of_ble_eq_true rfl) [1, 0] rfl ?_
        refine sg_goto (tgt := 9) dX1_fittingRains_46 (by decide) ?_
        exact ih _ _ _ h
      have h := e_t5
      refine sg_if_eq (pn := 35) (tgt := 43) dX1_fittingRains_32 rfl (by decide) (fun hc => ?_) (fun hc => ?_)
      · have h := sg_ifp hc h
        obtain rfl := Option.some.inj h
        exact hm_t5
      · have h := sg_ifn hc h
        refine sg_aload_n (pn := 36) (i := 0) dX1_fittingRains_35 rfl rfl 0 rfl ?_
        refine gfC_36_6 (pn := 39) dX1_fittingRains_36 rfl lf_X1_22 ?_
        refine sg_iload_n (pn := 40) (i := 1) dX1_fittingRains_39 rfl rfl 1 rfl ?_
        obtain ⟨r4, h_r4, h⟩ := sg_bind h
        refine sg_callVv (pn := 43) (rest := []) 39 dX1_fittingRains_40 rfl kb_X1_77 kv_X7_put (by exact rfl) rfl (Nat.le_of_ble_eq_true rfl) (gC_Span_put_39_ok h_r4) rfl rfl (Nat.le_of_ble_eq_true rfl) ?_
        obtain rfl := Option.some.inj h
        exact hm_t5
set_option maxRecDepth 4000 in
theorem gC_Guesses_fittingRains_ok {l : Launch} {D : va_G} {cI cZ : ClassId} {ad : Nat → Nat} {n : Nat} {z : sg_M} {r : sg_M} (h : gC_Guesses_fittingRains n z = some r) : sg_Met (eC l D cI cZ ad) yX1_fittingRains cX1_fittingRains 2 (some (.object "StuckTowns$Span")) 5 [.ref (ad 36)] z (sg_is (some (.ref (ad 39))) r) := by
  refine sg_enter (lv0 := [(0, .ref (ad 36))]) pn_X1 (Nat.le_of_ble_eq_true rfl) rfl ?_
  unfold gC_Guesses_fittingRains at h
  refine sg_aload_n (pn := 1) (i := 0) dX1_fittingRains_0 rfl rfl 0 rfl ?_
  refine gfC_36_6 (pn := 4) dX1_fittingRains_1 rfl lf_X1_22 ?_
  obtain ⟨r1, h_r1, h⟩ := sg_bind h
  refine sg_callVv (pn := 7) (rest := []) 39 dX1_fittingRains_4 rfl kb_X1_71 kv_X7_clear (by exact rfl) rfl (Nat.le_of_ble_eq_true rfl) (gC_Span_clear_39_ok h_r1) rfl rfl (Nat.le_of_ble_eq_true rfl) ?_
  refine sg_iconst (pn := 8) dX1_fittingRains_7 rfl ic_0 ?_
  refine sg_istore_n (pn := 9) (i := 1) (lv' := [(0, .ref (ad 36)), (1, .int (0 : Int32))]) dX1_fittingRains_8 rfl rfl (Nat.le_of_ble_eq_true rfl) [1, 0] rfl ?_
  exact gC_Guesses_fittingRains_L_ok n _ _ _ h
set_option maxRecDepth 4000 in
theorem gC_Span_answer_39_ok {l : Launch} {D : va_G} {cI cZ : ClassId} {ad : Nat → Nat} {a1 : Int32} {z : sg_M} {r : Int32} (h : gC_Span_answer_39 a1 z = r) : sg_Met (eC l D cI cZ ad) yX7_answer cX7_answer 2 (some .int) 1 [.ref (ad 39), .int a1] z (sg_is (some (.int r)) z) := by
  refine sg_enter (lv0 := [(0, .ref (ad 39)), (1, .int a1)]) pn_X7 (Nat.le_of_ble_eq_true rfl) rfl ?_
  unfold gC_Span_answer_39 at h
  refine sg_iload_n (pn := 1) (i := 1) dX7_answer_0 rfl rfl 1 rfl ?_
  refine sg_if_ne (pn := 4) (tgt := 9) dX7_answer_1 rfl (by decide) (fun hc => ?_) (fun hc => ?_)
  · have h := sg_ifn hc h
    refine sg_iload_n (pn := 10) (i := 1) dX7_answer_9 rfl rfl 1 rfl ?_
    refine sg_iconst (pn := 11) dX7_answer_10 rfl ic_1 ?_
    refine sg_icmp_ne (pn := 14) (tgt := 21) dX7_answer_11 rfl (by decide) (fun hc => ?_) (fun hc => ?_)
    · have h := sg_ifn hc h
      refine sg_aload_n (pn := 22) (i := 0) dX7_answer_21 rfl rfl 0 rfl ?_
      refine gfC_39_2 (pn := 25) dX7_answer_22 rfl lf_X7_18 ?_
      subst h
      exact sg_iret dX7_answer_25 rfl ⟨rfl, rfl⟩
    · have h := sg_ifp hc h
      refine sg_aload_n (pn := 15) (i := 0) dX7_answer_14 rfl rfl 0 rfl ?_
      refine gfC_39_1 (pn := 18) dX7_answer_15 rfl lf_X7_15 ?_
      refine sg_goto (tgt := 25) dX7_answer_18 (by decide) ?_
      subst h
      exact sg_iret dX7_answer_25 rfl ⟨rfl, rfl⟩
  · have h := sg_ifp hc h
    refine sg_aload_n (pn := 5) (i := 0) dX7_answer_4 rfl rfl 0 rfl ?_
    refine gfC_39_0 (pn := 8) dX7_answer_5 rfl lf_X7_9 ?_
    subst h
    exact sg_iret dX7_answer_8 rfl ⟨rfl, rfl⟩
set_option maxRecDepth 4000 in
theorem gC_rains_ok {l : Launch} {D : va_G} {cI cZ : ClassId} {ad : Nat → Nat} {n : Nat} {a1 : Int32} {z : sg_M} {r : Int32 × sg_M} (h : gC_rains n a1 z = some r) : sg_Met (eC l D cI cZ ad) yX11_rains cX11_rains 2 (some .int) 6 [.ref (ad 0), .int a1] z (sg_is (some (.int r.1)) r.2) := by
  refine sg_enter (lv0 := [(0, .ref (ad 0)), (1, .int a1)]) pn_X11 (Nat.le_of_ble_eq_true rfl) rfl ?_
  unfold gC_rains at h
  refine sg_iload_n (pn := 1) (i := 1) dX11_rains_0 rfl rfl 1 rfl ?_
  refine sg_if_lt (pn := 4) (tgt := 9) dX11_rains_1 rfl (by decide) (fun hc => ?_) (fun hc => ?_)
  · have h := sg_ifp hc h
    refine sg_ldc (pn := 11) dX11_rains_9 rfl kc_X11_99 ?_
    obtain rfl := Option.some.inj h
    exact sg_iret dX11_rains_11 rfl ⟨rfl, rfl⟩
  · have h := sg_ifn hc h
    refine sg_iload_n (pn := 5) (i := 1) dX11_rains_4 rfl rfl 1 rfl ?_
    refine sg_iconst (pn := 6) dX11_rains_5 rfl ic_2 ?_
    refine sg_icmp_le (pn := 9) (tgt := 12) dX11_rains_6 rfl (by decide) (fun hc => ?_) (fun hc => ?_)
    · have h := sg_ifp hc h
      refine sg_aload_n (pn := 13) (i := 0) dX11_rains_12 rfl rfl 0 rfl ?_
      refine gfC_0_9 (pn := 16) dX11_rains_13 rfl lf_X11_81 ?_
      obtain ⟨r1, h_r1, h⟩ := sg_bind h
      refine sg_callVa (pn := 19) (rest := []) 36 dX11_rains_16 rfl kb_X11_307 kv_X1_fittingRains (by exact rfl) rfl (Nat.le_of_ble_eq_true rfl) (gC_Guesses_fittingRains_ok h_r1) rfl rfl (Nat.le_of_ble_eq_true rfl) ?_
      refine sg_iload_n (pn := 20) (i := 1) dX11_rains_19 rfl rfl 1 rfl ?_
      refine sg_callVi (pn := 23) (rest := []) 39 dX11_rains_20 rfl kb_X11_263 kv_X7_answer (by exact rfl) rfl (Nat.le_of_ble_eq_true rfl) (gC_Span_answer_39_ok rfl) rfl rfl (Nat.le_of_ble_eq_true rfl) ?_
      obtain rfl := Option.some.inj h
      exact sg_iret dX11_rains_23 rfl ⟨rfl, rfl⟩
    · have h := sg_ifn hc h
      refine sg_ldc (pn := 11) dX11_rains_9 rfl kc_X11_99 ?_
      obtain rfl := Option.some.inj h
      exact sg_iret dX11_rains_11 rfl ⟨rfl, rfl⟩
set_option maxRecDepth 4000 in
theorem gC_Arrays_fill_38_L_ok {l : Launch} {D : va_G} {cI cZ : ClassId} {ad : Nat → Nat} : ∀ (n : Nat) (v1 : Int32) (v2 : Int32) (v3 : Int32) (z : sg_M) (r : sg_M), gC_Arrays_fill_38_L n v1 v2 v3 z = some r → sg_G (eC l D cI cZ ad) yJ7_fill_53178 cJ7_fill_53178 4 none 1 5 [(0, .ref (ad 38)), (1, .int v1), (2, .int v2), (3, .int v3)] [] z (sg_is none r) := by
  intro n
  induction n with
  | zero => intro v1 v2 v3 z r h; cases h
  | succ n ih =>
    intro v1 v2 v3 z r h
    unfold gC_Arrays_fill_38_L at h
    refine sg_iload_n (pn := 6) (i := 2) dJ7_fill_53178_5 rfl rfl 2 rfl ?_
    refine sg_iload_n (pn := 7) (i := 3) dJ7_fill_53178_6 rfl rfl 3 rfl ?_
    refine sg_icmp_ge (pn := 10) (tgt := 20) dJ7_fill_53178_7 rfl (by decide) (fun hc => ?_) (fun hc => ?_)
    · have h := sg_ifp hc h
      obtain rfl := Option.some.inj h
      exact sg_vret dJ7_fill_53178_20 rfl ⟨rfl, rfl⟩
    · have h := sg_ifn hc h
      refine sg_aload_n (pn := 11) (i := 0) dJ7_fill_53178_10 rfl rfl 0 rfl ?_
      refine sg_iload_n (pn := 12) (i := 2) dJ7_fill_53178_11 rfl rfl 2 rfl ?_
      refine sg_iload_n (pn := 13) (i := 1) dJ7_fill_53178_12 rfl rfl 1 rfl ?_
      obtain ⟨hg, h⟩ := sg_guard h
      refine asC_38 (pn := 14) dJ7_fill_53178_13 rfl (sg_in_vp hg) ?_
      obtain ⟨z1, e_z1, h⟩ := sg_letE h
      refine sg_zE e_z1 ?_
      refine sg_iinc (pn := 17) (i := 2) (lv' := [(0, .ref (ad 38)), (1, .int v1), (2, .int (v2 + (1 : Int32))), (3, .int v3)]) dJ7_fill_53178_14 rfl 2 rfl (ii_1 _) (Nat.le_of_ble_eq_true rfl) [1, 2, 0, 3] rfl ?_
      refine sg_goto (tgt := 5) dJ7_fill_53178_17 (by decide) ?_
      exact ih _ _ _ _ _ h
set_option maxRecDepth 4000 in
theorem gC_Arrays_fill_38_ok {l : Launch} {D : va_G} {cI cZ : ClassId} {ad : Nat → Nat} {n : Nat} {a1 : Int32} {z : sg_M} {r : sg_M} (h : gC_Arrays_fill_38 n a1 z = some r) : sg_Met (eC l D cI cZ ad) yJ7_fill_53178 cJ7_fill_53178 4 none 1 [.ref (ad 38), .int a1] z (sg_is none r) := by
  refine sg_enter (lv0 := [(0, .ref (ad 38)), (1, .int a1)]) pn_J7 (Nat.le_of_ble_eq_true rfl) rfl ?_
  unfold gC_Arrays_fill_38 at h
  refine sg_iconst (pn := 1) dJ7_fill_53178_0 rfl ic_0 ?_
  refine sg_istore_n (pn := 2) (i := 2) (lv' := [(0, .ref (ad 38)), (1, .int a1), (2, .int (0 : Int32))]) dJ7_fill_53178_1 rfl rfl (Nat.le_of_ble_eq_true rfl) [1, 2, 0] rfl ?_
  refine sg_aload_n (pn := 3) (i := 0) dJ7_fill_53178_2 rfl rfl 0 rfl ?_
  refine anC_38 (pn := 4) dJ7_fill_53178_3 rfl ?_
  refine sg_istore_n (pn := 5) (i := 3) (lv' := [(0, .ref (ad 38)), (1, .int a1), (2, .int (0 : Int32)), (3, .int (21 : Int32))]) dJ7_fill_53178_4 rfl rfl (Nat.le_of_ble_eq_true rfl) [1, 2, 3, 0] rfl ?_
  exact gC_Arrays_fill_38_L_ok n _ _ _ _ _ h
set_option maxRecDepth 4000 in
theorem gC_Guesses_greatestPart_L_ok {l : Launch} {D : va_G} {cI cZ : ClassId} {ad : Nat → Nat} : ∀ (n : Nat) (v1 : Int32) (v2 : Int32) (v3 : Int32) (z : sg_M) (r : Int32 × sg_M), gC_Guesses_greatestPart_L n v1 v2 v3 z = some r → sg_G (eC l D cI cZ ad) yX1_greatestPart cX1_greatestPart 5 (some .int) 4 12 [(0, .ref (ad 36)), (1, .int v1), (2, .int v2), (3, .int v3)] [] z (sg_is (some (.int r.1)) r.2) := by
  intro n
  induction n with
  | zero => intro v1 v2 v3 z r h; cases h
  | succ n ih =>
    intro v1 v2 v3 z r h
    unfold gC_Guesses_greatestPart_L at h
    refine sg_iload_n (pn := 13) (i := 3) dX1_greatestPart_12 rfl rfl 3 rfl ?_
    refine sg_bipush (pn := 15) dX1_greatestPart_13 rfl ib_60 ?_
    refine sg_icmp_gt (pn := 18) (tgt := 78) dX1_greatestPart_15 rfl (by decide) (fun hc => ?_) (fun hc => ?_)
    · have h := sg_ifp hc h
      refine sg_iload_n (pn := 79) (i := 2) dX1_greatestPart_78 rfl rfl 2 rfl ?_
      obtain rfl := Option.some.inj h
      exact sg_iret dX1_greatestPart_79 rfl ⟨rfl, rfl⟩
    · have h := sg_ifn hc h
      refine sg_aload_n (pn := 19) (i := 0) dX1_greatestPart_18 rfl rfl 0 rfl ?_
      refine gfC_36_4 (pn := 22) dX1_greatestPart_19 rfl lf_X1_9 ?_
      refine sg_iload_n (pn := 23) (i := 3) dX1_greatestPart_22 rfl rfl 3 rfl ?_
      obtain ⟨hg, h⟩ := sg_guard h
      refine alC_37 (pn := 24) dX1_greatestPart_23 rfl (sg_in_vp hg) ?_
      obtain ⟨t6, e_t6, h2⟩ := sg_bind h
      have hm_t6 : sg_G (eC l D cI cZ ad) yX1_greatestPart cX1_greatestPart 5 (some .int) 4 72 [(0, .ref (ad 36)), (1, .int v1), (2, .int t6.1), (3, .int v3)] [] t6.2 (sg_is (some (.int r.1)) r.2) := by
        have h := h2
        refine sg_iinc (pn := 75) (i := 3) (lv' := [(0, .ref (ad 36)), (1, .int v1), (2, .int t6.1), (3, .int (v3 + (1 : Int32)))]) dX1_greatestPart_72 rfl 3 rfl (ii_1 _) (Nat.le_of_ble_eq_true rfl) [1, 2, 3, 0] rfl ?_
        refine sg_goto (tgt := 12) dX1_greatestPart_75 (by decide) ?_
        exact ih _ _ _ _ _ h
      have h := e_t6
      refine sg_if_eq (pn := 27) (tgt := 72) dX1_greatestPart_24 rfl (by decide) (fun hc => ?_) (fun hc => ?_)
      · have h := sg_ifp hc h
        obtain rfl := Option.some.inj h
        exact hm_t6
      · have h := sg_ifn hc h
        refine sg_aload_n (pn := 28) (i := 0) dX1_greatestPart_27 rfl rfl 0 rfl ?_
        refine gfC_36_2 (pn := 31) dX1_greatestPart_28 rfl lf_X1_34 ?_
        refine sg_iload_n (pn := 32) (i := 1) dX1_greatestPart_31 rfl rfl 1 rfl ?_
        refine sg_iload_n (pn := 33) (i := 3) dX1_greatestPart_32 rfl rfl 3 rfl ?_
        refine sg_aload_n (pn := 34) (i := 0) dX1_greatestPart_33 rfl rfl 0 rfl ?_
        refine gfC_36_1 (pn := 37) dX1_greatestPart_34 rfl lf_X1_30 ?_
        refine gfC_15_6 (pn := 40) dX1_greatestPart_37 rfl lf_X1_57 ?_
        refine sg_iload_n (pn := 41) (i := 1) dX1_greatestPart_40 rfl rfl 1 rfl ?_
        obtain ⟨hg, h⟩ := sg_guard h
        refine alC_20 (pn := 42) dX1_greatestPart_41 rfl (sg_in_vp hg) ?_
        obtain ⟨r2, h_r2, h⟩ := sg_bind h
        refine sg_callVi (pn := 45) (rest := []) 23 dX1_greatestPart_42 rfl kb_X1_62 kv_X2_stopOf (by exact rfl) rfl (Nat.le_of_ble_eq_true rfl) (gC_Kingdom_stopOf_ok h_r2) rfl rfl (Nat.le_of_ble_eq_true rfl) ?_
        refine sg_iconst (pn := 46) dX1_greatestPart_45 rfl ic_1 ?_
        refine sg_iadd (pn := 47) dX1_greatestPart_46 rfl ?_
        obtain ⟨v4_3, e_v4_3, h⟩ := sg_letE h
        refine sg_topi e_v4_3 ?_
        refine sg_istore (pn := 49) (i := 4) (lv' := [(0, .ref (ad 36)), (1, .int v1), (2, .int v2), (3, .int v3), (4, .int v4_3)]) dX1_greatestPart_47 rfl (Nat.le_of_ble_eq_true rfl) [1, 2, 3, 4, 0] rfl ?_
        refine sg_aload_n (pn := 50) (i := 0) dX1_greatestPart_49 rfl rfl 0 rfl ?_
        refine gfC_36_5 (pn := 53) dX1_greatestPart_50 rfl lf_X1_15 ?_
        refine sg_iload (pn := 55) (i := 4) dX1_greatestPart_53 rfl 4 rfl ?_
        refine sg_dup2 (pn := 56) dX1_greatestPart_55 rfl rfl rfl ?_
        obtain ⟨hg, h⟩ := sg_guard h
        refine alC_38 (pn := 57) dX1_greatestPart_56 rfl (sg_in_vp hg) ?_
        refine sg_iconst (pn := 58) dX1_greatestPart_57 rfl ic_1 ?_
        refine sg_iadd (pn := 59) dX1_greatestPart_58 rfl ?_
        obtain ⟨hg, h⟩ := sg_guard h
        refine asC_38 (pn := 60) dX1_greatestPart_59 rfl (sg_in_vp hg) ?_
        obtain ⟨z4, e_z4, h⟩ := sg_letE h
        refine sg_zE e_z4 ?_
        refine sg_iload_n (pn := 61) (i := 2) dX1_greatestPart_60 rfl rfl 2 rfl ?_
        refine sg_aload_n (pn := 62) (i := 0) dX1_greatestPart_61 rfl rfl 0 rfl ?_
        refine gfC_36_5 (pn := 65) dX1_greatestPart_62 rfl lf_X1_15 ?_
        refine sg_iload (pn := 67) (i := 4) dX1_greatestPart_65 rfl 4 rfl ?_
        obtain ⟨hg, h⟩ := sg_guard h
        refine alC_38 (pn := 68) dX1_greatestPart_67 rfl (sg_in_vp hg) ?_
        refine sg_mmax (pn := 71) dX1_greatestPart_68 rfl lm_X1_101 sg_mw_max (Nat.le_of_ble_eq_true rfl) (Nat.le_of_ble_eq_true rfl) ?_
        obtain ⟨v2_5, e_v2_5, h⟩ := sg_letE h
        refine sg_topi e_v2_5 ?_
        refine sg_istore_n (pn := 72) (i := 2) (lv' := [(0, .ref (ad 36)), (1, .int v1), (2, .int v2_5), (3, .int v3), (4, .int v4_3)]) dX1_greatestPart_71 rfl rfl (Nat.le_of_ble_eq_true rfl) [1, 2, 0, 3, 4] rfl ?_
        obtain rfl := Option.some.inj h
        refine sg_sub [0, 1, 2, 3] rfl ?_
        exact hm_t6
set_option maxRecDepth 4000 in
theorem gC_Guesses_greatestPart_ok {l : Launch} {D : va_G} {cI cZ : ClassId} {ad : Nat → Nat} {n : Nat} {a1 : Int32} {z : sg_M} {r : Int32 × sg_M} (h : gC_Guesses_greatestPart n a1 z = some r) : sg_Met (eC l D cI cZ ad) yX1_greatestPart cX1_greatestPart 5 (some .int) 4 [.ref (ad 36), .int a1] z (sg_is (some (.int r.1)) r.2) := by
  refine sg_enter (lv0 := [(0, .ref (ad 36)), (1, .int a1)]) pn_X1 (Nat.le_of_ble_eq_true rfl) rfl ?_
  unfold gC_Guesses_greatestPart at h
  refine sg_aload_n (pn := 1) (i := 0) dX1_greatestPart_0 rfl rfl 0 rfl ?_
  refine gfC_36_5 (pn := 4) dX1_greatestPart_1 rfl lf_X1_15 ?_
  refine sg_iconst (pn := 5) dX1_greatestPart_4 rfl ic_0 ?_
  obtain ⟨r1, h_r1, h⟩ := sg_bind h
  refine sg_callSv (pn := 8) (rest := []) dX1_greatestPart_5 rfl kb_X1_95 ks_J7_fill_53178 (Nat.le_of_ble_eq_true rfl) (gC_Arrays_fill_38_ok h_r1) rfl rfl (Nat.le_of_ble_eq_true rfl) ?_
  refine sg_iconst (pn := 9) dX1_greatestPart_8 rfl ic_0 ?_
  refine sg_istore_n (pn := 10) (i := 2) (lv' := [(0, .ref (ad 36)), (1, .int a1), (2, .int (0 : Int32))]) dX1_greatestPart_9 rfl rfl (Nat.le_of_ble_eq_true rfl) [1, 2, 0] rfl ?_
  refine sg_iconst (pn := 11) dX1_greatestPart_10 rfl ic_0 ?_
  refine sg_istore_n (pn := 12) (i := 3) (lv' := [(0, .ref (ad 36)), (1, .int a1), (2, .int (0 : Int32)), (3, .int (0 : Int32))]) dX1_greatestPart_11 rfl rfl (Nat.le_of_ble_eq_true rfl) [1, 2, 3, 0] rfl ?_
  exact gC_Guesses_greatestPart_L_ok n _ _ _ _ _ h
set_option maxRecDepth 4000 in
theorem gC_Guesses_bestToSend_L_ok {l : Launch} {D : va_G} {cI cZ : ClassId} {ad : Nat → Nat} : ∀ (n : Nat) (v1 : Int32) (v2 : Int32) (v3 : Int32) (z : sg_M) (r : Int32 × sg_M), gC_Guesses_bestToSend_L n v1 v2 v3 z = some r → sg_G (eC l D cI cZ ad) yX1_bestToSend cX1_bestToSend 5 (some .int) 6 13 [(0, .ref (ad 36)), (1, .int v1), (2, .int v2), (3, .int v3)] [] z (sg_is (some (.int r.1)) r.2) := by
  intro n
  induction n with
  | zero => intro v1 v2 v3 z r h; cases h
  | succ n ih =>
    intro v1 v2 v3 z r h
    unfold gC_Guesses_bestToSend_L at h
    refine sg_iload_n (pn := 14) (i := 3) dX1_bestToSend_13 rfl rfl 3 rfl ?_
    refine sg_aload_n (pn := 15) (i := 0) dX1_bestToSend_14 rfl rfl 0 rfl ?_
    refine gfC_36_0 (pn := 18) dX1_bestToSend_15 rfl lf_X1_26 ?_
    refine gfC_9_2 (pn := 21) dX1_bestToSend_18 rfl lf_X1_89 ?_
    refine sg_icmp_ge (pn := 24) (tgt := 48) dX1_bestToSend_21 rfl (by decide) (fun hc => ?_) (fun hc => ?_)
    · have h := sg_ifp hc h
      refine sg_iload_n (pn := 49) (i := 2) dX1_bestToSend_48 rfl rfl 2 rfl ?_
      obtain rfl := Option.some.inj h
      exact sg_iret dX1_bestToSend_49 rfl ⟨rfl, rfl⟩
    · have h := sg_ifn hc h
      refine sg_aload_n (pn := 25) (i := 0) dX1_bestToSend_24 rfl rfl 0 rfl ?_
      refine sg_iload_n (pn := 26) (i := 3) dX1_bestToSend_25 rfl rfl 3 rfl ?_
      obtain ⟨r3, h_r3, h⟩ := sg_bind h
      refine sg_callVi (pn := 29) (rest := []) 36 dX1_bestToSend_26 rfl kb_X1_92 kv_X1_greatestPart (by exact rfl) rfl (Nat.le_of_ble_eq_true rfl) (gC_Guesses_greatestPart_ok h_r3) rfl rfl (Nat.le_of_ble_eq_true rfl) ?_
      refine sg_istore (pn := 31) (i := 4) (lv' := [(0, .ref (ad 36)), (1, .int v1), (2, .int v2), (3, .int v3), (4, .int r3.1)]) dX1_bestToSend_29 rfl (Nat.le_of_ble_eq_true rfl) [1, 2, 3, 4, 0] rfl ?_
      refine sg_iload (pn := 33) (i := 4) dX1_bestToSend_31 rfl 4 rfl ?_
      refine sg_iload_n (pn := 34) (i := 1) dX1_bestToSend_33 rfl rfl 1 rfl ?_
      obtain ⟨t4, e_t4, h2⟩ := sg_letJ h
      have hm_t4 : sg_G (eC l D cI cZ ad) yX1_bestToSend cX1_bestToSend 5 (some .int) 6 42 [(0, .ref (ad 36)), (1, .int t4.1), (2, .int t4.2), (3, .int v3)] [] r3.2 (sg_is (some (.int r.1)) r.2) := by
        have h := h2
        refine sg_iinc (pn := 45) (i := 3) (lv' := [(0, .ref (ad 36)), (1, .int t4.1), (2, .int t4.2), (3, .int (v3 + (1 : Int32)))]) dX1_bestToSend_42 rfl 3 rfl (ii_1 _) (Nat.le_of_ble_eq_true rfl) [1, 2, 3, 0] rfl ?_
        refine sg_goto (tgt := 13) dX1_bestToSend_45 (by decide) ?_
        exact ih _ _ _ _ _ h
      have h := e_t4
      refine sg_icmp_ge (pn := 37) (tgt := 42) dX1_bestToSend_34 rfl (by decide) (fun hc => ?_) (fun hc => ?_)
      · have h := sg_ifp hc h
        subst h
        refine sg_sub [0, 1, 2, 3] rfl ?_
        exact hm_t4
      · have h := sg_ifn hc h
        refine sg_iload_n (pn := 38) (i := 3) dX1_bestToSend_37 rfl rfl 3 rfl ?_
        refine sg_istore_n (pn := 39) (i := 2) (lv' := [(0, .ref (ad 36)), (1, .int v1), (2, .int v3), (3, .int v3), (4, .int r3.1)]) dX1_bestToSend_38 rfl rfl (Nat.le_of_ble_eq_true rfl) [1, 2, 0, 3, 4] rfl ?_
        refine sg_iload (pn := 41) (i := 4) dX1_bestToSend_39 rfl 4 rfl ?_
        refine sg_istore_n (pn := 42) (i := 1) (lv' := [(0, .ref (ad 36)), (1, .int r3.1), (2, .int v3), (3, .int v3), (4, .int r3.1)]) dX1_bestToSend_41 rfl rfl (Nat.le_of_ble_eq_true rfl) [1, 0, 2, 3, 4] rfl ?_
        subst h
        refine sg_sub [0, 1, 2, 3] rfl ?_
        exact hm_t4
set_option maxRecDepth 4000 in
theorem gC_Guesses_bestToSend_ok {l : Launch} {D : va_G} {cI cZ : ClassId} {ad : Nat → Nat} {n : Nat} {z : sg_M} {r : Int32 × sg_M} (h : gC_Guesses_bestToSend n z = some r) : sg_Met (eC l D cI cZ ad) yX1_bestToSend cX1_bestToSend 5 (some .int) 6 [.ref (ad 36)] z (sg_is (some (.int r.1)) r.2) := by
  refine sg_enter (lv0 := [(0, .ref (ad 36))]) pn_X1 (Nat.le_of_ble_eq_true rfl) rfl ?_
  unfold gC_Guesses_bestToSend at h
  refine sg_aload_n (pn := 1) (i := 0) dX1_bestToSend_0 rfl rfl 0 rfl ?_
  obtain ⟨r1, h_r1, h⟩ := sg_bind h
  refine sg_callVa (pn := 4) (rest := []) 36 dX1_bestToSend_1 rfl kb_X1_81 kv_X1_fittingRains (by exact rfl) rfl (Nat.le_of_ble_eq_true rfl) (gC_Guesses_fittingRains_ok h_r1) rfl rfl (Nat.le_of_ble_eq_true rfl) ?_
  refine sg_iconst (pn := 5) dX1_bestToSend_4 rfl ic_0 ?_
  refine sg_callVi (pn := 8) (rest := []) 39 dX1_bestToSend_5 rfl kb_X1_85 kv_X7_answer (by exact rfl) rfl (Nat.le_of_ble_eq_true rfl) (gC_Span_answer_39_ok rfl) rfl rfl (Nat.le_of_ble_eq_true rfl) ?_
  obtain ⟨v1_2, e_v1_2, h⟩ := sg_letE h
  refine sg_topi e_v1_2 ?_
  refine sg_istore_n (pn := 9) (i := 1) (lv' := [(0, .ref (ad 36)), (1, .int v1_2)]) dX1_bestToSend_8 rfl rfl (Nat.le_of_ble_eq_true rfl) [1, 0] rfl ?_
  refine sg_iconst (pn := 10) dX1_bestToSend_9 rfl ic_m1 ?_
  refine sg_istore_n (pn := 11) (i := 2) (lv' := [(0, .ref (ad 36)), (1, .int v1_2), (2, .int (-1 : Int32))]) dX1_bestToSend_10 rfl rfl (Nat.le_of_ble_eq_true rfl) [1, 2, 0] rfl ?_
  refine sg_iconst (pn := 12) dX1_bestToSend_11 rfl ic_0 ?_
  refine sg_istore_n (pn := 13) (i := 3) (lv' := [(0, .ref (ad 36)), (1, .int v1_2), (2, .int (-1 : Int32)), (3, .int (0 : Int32))]) dX1_bestToSend_12 rfl rfl (Nat.le_of_ble_eq_true rfl) [1, 2, 3, 0] rfl ?_
  exact gC_Guesses_bestToSend_L_ok n _ _ _ _ _ h
set_option maxRecDepth 4000 in
theorem gC_send_ok {l : Launch} {D : va_G} {cI cZ : ClassId} {ad : Nat → Nat} {n : Nat} {z : sg_M} {r : Int32 × sg_M} (h : gC_send n z = some r) : sg_Met (eC l D cI cZ ad) yX11_send cX11_send 1 (some .int) 7 [.ref (ad 0)] z (sg_is (some (.int r.1)) r.2) := by
  refine sg_enter (lv0 := [(0, .ref (ad 0))]) pn_X11 (Nat.le_of_ble_eq_true rfl) rfl ?_
  unfold gC_send at h
  refine sg_aload_n (pn := 1) (i := 0) dX11_send_0 rfl rfl 0 rfl ?_
  refine gfC_0_9 (pn := 4) dX11_send_1 rfl lf_X11_81 ?_
  obtain ⟨r1, h_r1, h⟩ := sg_bind h
  refine sg_callVi (pn := 7) (rest := []) 36 dX11_send_4 rfl kb_X11_311 kv_X1_bestToSend (by exact rfl) rfl (Nat.le_of_ble_eq_true rfl) (gC_Guesses_bestToSend_ok h_r1) rfl rfl (Nat.le_of_ble_eq_true rfl) ?_
  obtain rfl := Option.some.inj h
  exact sg_iret dX11_send_7 rfl ⟨rfl, rfl⟩
set_option maxRecDepth 4000 in
theorem gC_Entries_isFull_33_ok {l : Launch} {D : va_G} {cI cZ : ClassId} {ad : Nat → Nat} {z : sg_M} {r : Int32} (h : gC_Entries_isFull_33 z = r) : sg_Met (eC l D cI cZ ad) yX0_isFull cX0_isFull 1 (some .boolean) 1 [.ref (ad 33)] z (sg_is (some (.int r)) z) := by
  refine sg_enter (lv0 := [(0, .ref (ad 33))]) pn_X0 (Nat.le_of_ble_eq_true rfl) rfl ?_
  unfold gC_Entries_isFull_33 at h
  refine sg_aload_n (pn := 1) (i := 0) dX0_isFull_0 rfl rfl 0 rfl ?_
  refine gfC_33_0 (pn := 4) dX0_isFull_1 rfl lf_X0_22 ?_
  refine sg_aload_n (pn := 5) (i := 0) dX0_isFull_4 rfl rfl 0 rfl ?_
  refine gfC_33_1 (pn := 8) dX0_isFull_5 rfl lf_X0_13 ?_
  refine anC_34 (pn := 9) dX0_isFull_8 rfl ?_
  refine sg_icmp_lt (pn := 12) (tgt := 16) dX0_isFull_9 rfl (by decide) (fun hc => ?_) (fun hc => ?_)
  · have h := sg_ifp hc h
    refine sg_iconst (pn := 17) dX0_isFull_16 rfl ic_0 ?_
    subst h
    exact sg_zret dX0_isFull_17 rfl rfl ⟨rfl, rfl⟩
  · have h := sg_ifn hc h
    refine sg_iconst (pn := 13) dX0_isFull_12 rfl ic_1 ?_
    refine sg_goto (tgt := 17) dX0_isFull_13 (by decide) ?_
    subst h
    exact sg_zret dX0_isFull_17 rfl rfl ⟨rfl, rfl⟩
set_option maxRecDepth 4000 in
theorem gC_Entries_append_33_ok {l : Launch} {D : va_G} {cI cZ : ClassId} {ad : Nat → Nat} {a1 : Int32} {a2 : Int32} {z : sg_M} {r : sg_M} (h : gC_Entries_append_33 a1 a2 z = some r) : sg_Met (eC l D cI cZ ad) yX0_append cX0_append 3 none 2 [.ref (ad 33), .int a1, .int a2] z (sg_is none r) := by
  refine sg_enter (lv0 := [(0, .ref (ad 33)), (1, .int a1), (2, .int a2)]) pn_X0 (Nat.le_of_ble_eq_true rfl) rfl ?_
  unfold gC_Entries_append_33 at h
  refine sg_aload_n (pn := 1) (i := 0) dX0_append_0 rfl rfl 0 rfl ?_
  refine sg_callVi (pn := 4) (rest := []) 33 dX0_append_1 rfl kb_X0_26 kv_X0_isFull (by exact rfl) rfl (Nat.le_of_ble_eq_true rfl) (gC_Entries_isFull_33_ok rfl) rfl rfl (Nat.le_of_ble_eq_true rfl) ?_
  refine sg_if_ne (pn := 7) (tgt := 37) dX0_append_4 rfl (by decide) (fun hc => ?_) (fun hc => ?_)
  · have h := sg_ifn hc h
    obtain rfl := Option.some.inj h
    exact sg_vret dX0_append_37 rfl ⟨rfl, rfl⟩
  · have h := sg_ifp hc h
    refine sg_aload_n (pn := 8) (i := 0) dX0_append_7 rfl rfl 0 rfl ?_
    refine gfC_33_1 (pn := 11) dX0_append_8 rfl lf_X0_13 ?_
    refine sg_aload_n (pn := 12) (i := 0) dX0_append_11 rfl rfl 0 rfl ?_
    refine gfC_33_0 (pn := 15) dX0_append_12 rfl lf_X0_22 ?_
    refine sg_iload_n (pn := 16) (i := 1) dX0_append_15 rfl rfl 1 rfl ?_
    obtain ⟨hg, h⟩ := sg_guard h
    refine asC_34 (pn := 17) dX0_append_16 rfl (sg_in_vp hg) ?_
    obtain ⟨z1, e_z1, h⟩ := sg_letE h
    refine sg_zE e_z1 ?_
    refine sg_aload_n (pn := 18) (i := 0) dX0_append_17 rfl rfl 0 rfl ?_
    refine gfC_33_2 (pn := 21) dX0_append_18 rfl lf_X0_19 ?_
    refine sg_aload_n (pn := 22) (i := 0) dX0_append_21 rfl rfl 0 rfl ?_
    refine gfC_33_0 (pn := 25) dX0_append_22 rfl lf_X0_22 ?_
    refine sg_iload_n (pn := 26) (i := 2) dX0_append_25 rfl rfl 2 rfl ?_
    obtain ⟨hg, h⟩ := sg_guard h
    refine asC_35 (pn := 27) dX0_append_26 rfl (sg_in_vp hg) ?_
    obtain ⟨z2, e_z2, h⟩ := sg_letE h
    refine sg_zE e_z2 ?_
    refine sg_aload_n (pn := 28) (i := 0) dX0_append_27 rfl rfl 0 rfl ?_
    refine sg_dup (pn := 29) dX0_append_28 rfl rfl ?_
    refine gfC_33_0 (pn := 32) dX0_append_29 rfl lf_X0_22 ?_
    refine sg_iconst (pn := 33) dX0_append_32 rfl ic_1 ?_
    refine sg_iadd (pn := 34) dX0_append_33 rfl ?_
    refine pfC_33_0 (pn := 37) dX0_append_34 rfl lf_X0_22 ?_
    obtain ⟨z3, e_z3, h⟩ := sg_letE h
    refine sg_zE e_z3 ?_
    obtain rfl := Option.some.inj h
    exact sg_vret dX0_append_37 rfl ⟨rfl, rfl⟩
set_option maxRecDepth 4000 in
theorem gC_write_ok {l : Launch} {D : va_G} {cI cZ : ClassId} {ad : Nat → Nat} {a1 : Int32} {a2 : Int32} {z : sg_M} {r : Int32 × sg_M} (h : gC_write a1 a2 z = some r) : sg_Met (eC l D cI cZ ad) yX11_write cX11_write 3 (some .int) 3 [.ref (ad 0), .int a1, .int a2] z (sg_is (some (.int r.1)) r.2) := by
  refine sg_enter (lv0 := [(0, .ref (ad 0)), (1, .int a1), (2, .int a2)]) pn_X11 (Nat.le_of_ble_eq_true rfl) rfl ?_
  unfold gC_write at h
  refine sg_aload_n (pn := 1) (i := 0) dX11_write_0 rfl rfl 0 rfl ?_
  refine gfC_0_1 (pn := 4) dX11_write_1 rfl lf_X11_19 ?_
  refine sg_iload_n (pn := 5) (i := 1) dX11_write_4 rfl rfl 1 rfl ?_
  refine sg_callVi (pn := 8) (rest := []) 9 dX11_write_5 rfl kb_X11_167 kv_X6_hasCell (by exact rfl) rfl (Nat.le_of_ble_eq_true rfl) (gC_Road_hasCell_ok rfl) rfl rfl (Nat.le_of_ble_eq_true rfl) ?_
  refine sg_if_ne (pn := 11) (tgt := 14) dX11_write_8 rfl (by decide) (fun hc => ?_) (fun hc => ?_)
  · have h := sg_ifn hc h
    refine sg_iload_n (pn := 15) (i := 2) dX11_write_14 rfl rfl 2 rfl ?_
    refine sg_iconst (pn := 16) dX11_write_15 rfl ic_m1 ?_
    refine sg_icmp_lt (pn := 19) (tgt := 26) dX11_write_16 rfl (by decide) (fun hc => ?_) (fun hc => ?_)
    · have h := sg_ifp hc h
      refine sg_ldc (pn := 28) dX11_write_26 rfl kc_X11_99 ?_
      obtain rfl := Option.some.inj h
      exact sg_iret dX11_write_28 rfl ⟨rfl, rfl⟩
    · have h := sg_ifn hc h
      refine sg_iload_n (pn := 20) (i := 2) dX11_write_19 rfl rfl 2 rfl ?_
      refine sg_sipush (pn := 23) dX11_write_20 rfl is_9999 ?_
      refine sg_icmp_le (pn := 26) (tgt := 29) dX11_write_23 rfl (by decide) (fun hc => ?_) (fun hc => ?_)
      · have h := sg_ifp hc h
        refine sg_aload_n (pn := 30) (i := 0) dX11_write_29 rfl rfl 0 rfl ?_
        refine gfC_0_8 (pn := 33) dX11_write_30 rfl lf_X11_73 ?_
        refine sg_callVi (pn := 36) (rest := []) 33 dX11_write_33 rfl kb_X11_301 kv_X0_isFull (by exact rfl) rfl (Nat.le_of_ble_eq_true rfl) (gC_Entries_isFull_33_ok rfl) rfl rfl (Nat.le_of_ble_eq_true rfl) ?_
        refine sg_if_eq (pn := 39) (tgt := 42) dX11_write_36 rfl (by decide) (fun hc => ?_) (fun hc => ?_)
        · have h := sg_ifp hc h
          refine sg_aload_n (pn := 43) (i := 0) dX11_write_42 rfl rfl 0 rfl ?_
          refine gfC_0_8 (pn := 46) dX11_write_43 rfl lf_X11_73 ?_
          refine sg_iload_n (pn := 47) (i := 1) dX11_write_46 rfl rfl 1 rfl ?_
          refine sg_iload_n (pn := 48) (i := 2) dX11_write_47 rfl rfl 2 rfl ?_
          obtain ⟨r1, h_r1, h⟩ := sg_bind h
          refine sg_callVv (pn := 51) (rest := []) 33 dX11_write_48 rfl kb_X11_305 kv_X0_append (by exact rfl) rfl (Nat.le_of_ble_eq_true rfl) (gC_Entries_append_33_ok h_r1) rfl rfl (Nat.le_of_ble_eq_true rfl) ?_
          refine sg_aload_n (pn := 52) (i := 0) dX11_write_51 rfl rfl 0 rfl ?_
          refine gfC_0_8 (pn := 55) dX11_write_52 rfl lf_X11_73 ?_
          refine gfC_33_0 (pn := 58) dX11_write_55 rfl lf_X11_118 ?_
          obtain rfl := Option.some.inj h
          exact sg_iret dX11_write_58 rfl ⟨rfl, rfl⟩
        · have h := sg_ifn hc h
          refine sg_ldc (pn := 41) dX11_write_39 rfl kc_X11_104 ?_
          obtain rfl := Option.some.inj h
          exact sg_iret dX11_write_41 rfl ⟨rfl, rfl⟩
      · have h := sg_ifn hc h
        refine sg_ldc (pn := 28) dX11_write_26 rfl kc_X11_99 ?_
        obtain rfl := Option.some.inj h
        exact sg_iret dX11_write_28 rfl ⟨rfl, rfl⟩
  · have h := sg_ifp hc h
    refine sg_ldc (pn := 13) dX11_write_11 rfl kc_X11_171 ?_
    obtain rfl := Option.some.inj h
    exact sg_iret dX11_write_13 rfl ⟨rfl, rfl⟩
set_option maxRecDepth 4000 in
theorem gC_tear_ok {l : Launch} {D : va_G} {cI cZ : ClassId} {ad : Nat → Nat} {z : sg_M} {r : Int32 × sg_M} (h : gC_tear z = some r) : sg_Met (eC l D cI cZ ad) yX11_tear cX11_tear 2 (some .int) 1 [.ref (ad 0)] z (sg_is (some (.int r.1)) r.2) := by
  refine sg_enter (lv0 := [(0, .ref (ad 0))]) pn_X11 (Nat.le_of_ble_eq_true rfl) rfl ?_
  unfold gC_tear at h
  refine sg_aload_n (pn := 1) (i := 0) dX11_tear_0 rfl rfl 0 rfl ?_
  refine gfC_0_7 (pn := 4) dX11_tear_1 rfl lf_X11_69 ?_
  refine gfC_30_0 (pn := 7) dX11_tear_4 rfl lf_X11_118 ?_
  refine sg_aload_n (pn := 8) (i := 0) dX11_tear_7 rfl rfl 0 rfl ?_
  refine gfC_0_8 (pn := 11) dX11_tear_8 rfl lf_X11_73 ?_
  refine gfC_33_0 (pn := 14) dX11_tear_11 rfl lf_X11_118 ?_
  refine sg_iadd (pn := 15) dX11_tear_14 rfl ?_
  obtain ⟨v1_1, e_v1_1, h⟩ := sg_letE h
  refine sg_topi e_v1_1 ?_
  refine sg_istore_n (pn := 16) (i := 1) (lv' := [(0, .ref (ad 0)), (1, .int v1_1)]) dX11_tear_15 rfl rfl (Nat.le_of_ble_eq_true rfl) [1, 0] rfl ?_
  refine sg_aload_n (pn := 17) (i := 0) dX11_tear_16 rfl rfl 0 rfl ?_
  refine gfC_0_7 (pn := 20) dX11_tear_17 rfl lf_X11_69 ?_
  refine sg_iconst (pn := 21) dX11_tear_20 rfl ic_0 ?_
  refine pfC_30_0 (pn := 24) dX11_tear_21 rfl lf_X11_118 ?_
  obtain ⟨z2, e_z2, h⟩ := sg_letE h
  refine sg_zE e_z2 ?_
  refine sg_aload_n (pn := 25) (i := 0) dX11_tear_24 rfl rfl 0 rfl ?_
  refine gfC_0_8 (pn := 28) dX11_tear_25 rfl lf_X11_73 ?_
  refine sg_iconst (pn := 29) dX11_tear_28 rfl ic_0 ?_
  refine pfC_33_0 (pn := 32) dX11_tear_29 rfl lf_X11_118 ?_
  obtain ⟨z3, e_z3, h⟩ := sg_letE h
  refine sg_zE e_z3 ?_
  refine sg_iload_n (pn := 33) (i := 1) dX11_tear_32 rfl rfl 1 rfl ?_
  obtain rfl := Option.some.inj h
  exact sg_iret dX11_tear_33 rfl ⟨rfl, rfl⟩
set_option maxRecDepth 4000 in
theorem gC_judge_L_ok {l : Launch} {D : va_G} {cI cZ : ClassId} {ad : Nat → Nat} : ∀ (n : Nat) (v1 : Int32) (z : sg_M) (r : Int32), gC_judge_L n v1 z = some r → sg_G (eC l D cI cZ ad) yX11_judge cX11_judge 3 (some .int) 3 2 [(0, .ref (ad 0)), (1, .int v1)] [] z (sg_is (some (.int r)) z) := by
  intro n
  induction n with
  | zero => intro v1 z r h; cases h
  | succ n ih =>
    intro v1 z r h
    unfold gC_judge_L at h
    refine sg_iload_n (pn := 3) (i := 1) dX11_judge_2 rfl rfl 1 rfl ?_
    refine sg_aload_n (pn := 4) (i := 0) dX11_judge_3 rfl rfl 0 rfl ?_
    refine gfC_0_8 (pn := 7) dX11_judge_4 rfl lf_X11_73 ?_
    refine gfC_33_0 (pn := 10) dX11_judge_7 rfl lf_X11_118 ?_
    refine sg_icmp_ge (pn := 13) (tgt := 62) dX11_judge_10 rfl (by decide) (fun hc => ?_) (fun hc => ?_)
    · have h := sg_ifp hc h
      refine sg_iconst (pn := 63) dX11_judge_62 rfl ic_m1 ?_
      obtain rfl := Option.some.inj h
      exact sg_iret dX11_judge_63 rfl ⟨rfl, rfl⟩
    · have h := sg_ifn hc h
      refine sg_aload_n (pn := 14) (i := 0) dX11_judge_13 rfl rfl 0 rfl ?_
      refine gfC_0_8 (pn := 17) dX11_judge_14 rfl lf_X11_73 ?_
      refine gfC_33_1 (pn := 20) dX11_judge_17 rfl lf_X11_314 ?_
      refine sg_iload_n (pn := 21) (i := 1) dX11_judge_20 rfl rfl 1 rfl ?_
      obtain ⟨hg, h⟩ := sg_guard h
      refine alC_34 (pn := 22) dX11_judge_21 rfl (sg_in_vp hg) ?_
      obtain ⟨v2_1, e_v2_1, h⟩ := sg_letE h
      refine sg_topi e_v2_1 ?_
      refine sg_istore_n (pn := 23) (i := 2) (lv' := [(0, .ref (ad 0)), (1, .int v1), (2, .int v2_1)]) dX11_judge_22 rfl rfl (Nat.le_of_ble_eq_true rfl) [1, 2, 0] rfl ?_
      refine sg_aload_n (pn := 24) (i := 0) dX11_judge_23 rfl rfl 0 rfl ?_
      refine gfC_0_1 (pn := 27) dX11_judge_24 rfl lf_X11_19 ?_
      refine sg_iload_n (pn := 28) (i := 2) dX11_judge_27 rfl rfl 2 rfl ?_
      refine sg_callVi (pn := 31) (rest := []) 9 dX11_judge_28 rfl kb_X11_167 kv_X6_hasCell (by exact rfl) rfl (Nat.le_of_ble_eq_true rfl) (gC_Road_hasCell_ok rfl) rfl rfl (Nat.le_of_ble_eq_true rfl) ?_
      refine sg_if_eq (pn := 34) (tgt := 56) dX11_judge_31 rfl (by decide) (fun hc => ?_) (fun hc => ?_)
      · have h := sg_ifp hc h
        refine sg_iinc (pn := 59) (i := 1) (lv' := [(0, .ref (ad 0)), (1, .int (v1 + (1 : Int32))), (2, .int v2_1)]) dX11_judge_56 rfl 1 rfl (ii_1 _) (Nat.le_of_ble_eq_true rfl) [1, 0, 2] rfl ?_
        refine sg_goto (tgt := 2) dX11_judge_59 (by decide) ?_
        refine sg_sub [0, 1] rfl ?_
        exact ih _ _ _ h
      · have h := sg_ifn hc h
        refine sg_aload_n (pn := 35) (i := 0) dX11_judge_34 rfl rfl 0 rfl ?_
        refine gfC_0_2 (pn := 38) dX11_judge_35 rfl lf_X11_26 ?_
        refine sg_iload_n (pn := 39) (i := 2) dX11_judge_38 rfl rfl 2 rfl ?_
        obtain ⟨r2, h_r2, h⟩ := sg_bind h
        refine sg_callVi (pn := 42) (rest := []) 15 dX11_judge_39 rfl kb_X11_185 kv_X8_folkAt (by exact rfl) rfl (Nat.le_of_ble_eq_true rfl) (gC_State_folkAt_ok h_r2) rfl rfl (Nat.le_of_ble_eq_true rfl) ?_
        refine sg_aload_n (pn := 43) (i := 0) dX11_judge_42 rfl rfl 0 rfl ?_
        refine gfC_0_8 (pn := 46) dX11_judge_43 rfl lf_X11_73 ?_
        refine gfC_33_2 (pn := 49) dX11_judge_46 rfl lf_X11_317 ?_
        refine sg_iload_n (pn := 50) (i := 1) dX11_judge_49 rfl rfl 1 rfl ?_
        obtain ⟨hg, h⟩ := sg_guard h
        refine alC_35 (pn := 51) dX11_judge_50 rfl (sg_in_vp hg) ?_
        refine sg_icmp_eq (pn := 54) (tgt := 56) dX11_judge_51 rfl (by decide) (fun hc => ?_) (fun hc => ?_)
        · have h := sg_ifp hc h
          refine sg_iinc (pn := 59) (i := 1) (lv' := [(0, .ref (ad 0)), (1, .int (v1 + (1 : Int32))), (2, .int v2_1)]) dX11_judge_56 rfl 1 rfl (ii_1 _) (Nat.le_of_ble_eq_true rfl) [1, 0, 2] rfl ?_
          refine sg_goto (tgt := 2) dX11_judge_59 (by decide) ?_
          refine sg_sub [0, 1] rfl ?_
          exact ih _ _ _ h
        · have h := sg_ifn hc h
          refine sg_iload_n (pn := 55) (i := 1) dX11_judge_54 rfl rfl 1 rfl ?_
          obtain rfl := Option.some.inj h
          exact sg_iret dX11_judge_55 rfl ⟨rfl, rfl⟩
set_option maxRecDepth 4000 in
theorem gC_judge_ok {l : Launch} {D : va_G} {cI cZ : ClassId} {ad : Nat → Nat} {n : Nat} {z : sg_M} {r : Int32} (h : gC_judge n z = some r) : sg_Met (eC l D cI cZ ad) yX11_judge cX11_judge 3 (some .int) 3 [.ref (ad 0)] z (sg_is (some (.int r)) z) := by
  refine sg_enter (lv0 := [(0, .ref (ad 0))]) pn_X11 (Nat.le_of_ble_eq_true rfl) rfl ?_
  unfold gC_judge at h
  refine sg_iconst (pn := 1) dX11_judge_0 rfl ic_0 ?_
  refine sg_istore_n (pn := 2) (i := 1) (lv' := [(0, .ref (ad 0)), (1, .int (0 : Int32))]) dX11_judge_1 rfl rfl (Nat.le_of_ble_eq_true rfl) [1, 0] rfl ?_
  exact gC_judge_L_ok n _ _ _ h
set_option maxRecDepth 4000 in
theorem gC_seed_ok {l : Launch} {D : va_G} {cI cZ : ClassId} {ad : Nat → Nat} {a1 : Int32} {z : sg_M} {r : Int32 × sg_M} (h : gC_seed a1 z = some r) : sg_Met (eC l D cI cZ ad) yX11_seed cX11_seed 3 (some .int) 1 [.ref (ad 0), .int a1] z (sg_is (some (.int r.1)) r.2) := by
  refine sg_enter (lv0 := [(0, .ref (ad 0)), (1, .int a1)]) pn_X11 (Nat.le_of_ble_eq_true rfl) rfl ?_
  unfold gC_seed at h
  refine sg_iload_n (pn := 1) (i := 1) dX11_seed_0 rfl rfl 1 rfl ?_
  refine sg_if_ge (pn := 4) (tgt := 7) dX11_seed_1 rfl (by decide) (fun hc => ?_) (fun hc => ?_)
  · have h := sg_ifp hc h
    refine sg_aload_n (pn := 8) (i := 0) dX11_seed_7 rfl rfl 0 rfl ?_
    refine gfC_0_11 (pn := 11) dX11_seed_8 rfl lf_X11_320 ?_
    obtain ⟨v2_1, e_v2_1, h⟩ := sg_letE h
    refine sg_topi e_v2_1 ?_
    refine sg_istore_n (pn := 12) (i := 2) (lv' := [(0, .ref (ad 0)), (1, .int a1), (2, .int v2_1)]) dX11_seed_11 rfl rfl (Nat.le_of_ble_eq_true rfl) [1, 2, 0] rfl ?_
    refine sg_aload_n (pn := 13) (i := 0) dX11_seed_12 rfl rfl 0 rfl ?_
    refine sg_iload_n (pn := 14) (i := 1) dX11_seed_13 rfl rfl 1 rfl ?_
    refine pfC_0_11 (pn := 17) dX11_seed_14 rfl lf_X11_320 ?_
    obtain ⟨z2, e_z2, h⟩ := sg_letE h
    refine sg_zE e_z2 ?_
    refine sg_iload_n (pn := 18) (i := 2) dX11_seed_17 rfl rfl 2 rfl ?_
    obtain rfl := Option.some.inj h
    exact sg_iret dX11_seed_18 rfl ⟨rfl, rfl⟩
  · have h := sg_ifn hc h
    refine sg_ldc (pn := 6) dX11_seed_4 rfl kc_X11_99 ?_
    obtain rfl := Option.some.inj h
    exact sg_iret dX11_seed_6 rfl ⟨rfl, rfl⟩
set_option maxRecDepth 4000 in
theorem gC_Memory_hasRoomFor_ok {l : Launch} {D : va_G} {cI cZ : ClassId} {ad : Nat → Nat} {a1 : Int32} {z : sg_M} {r : Int32} (h : gC_Memory_hasRoomFor a1 = r) : sg_Met (eC l D cI cZ ad) yX3_hasRoomFor cX3_hasRoomFor 2 (some .boolean) 1 [.ref (ad 40), .int a1] z (sg_is (some (.int r)) z) := by
  refine sg_enter (lv0 := [(0, .ref (ad 40)), (1, .int a1)]) pn_X3 (Nat.le_of_ble_eq_true rfl) rfl ?_
  unfold gC_Memory_hasRoomFor at h
  refine sg_iload_n (pn := 1) (i := 1) dX3_hasRoomFor_0 rfl rfl 1 rfl ?_
  refine sg_if_lt (pn := 4) (tgt := 13) dX3_hasRoomFor_1 rfl (by decide) (fun hc => ?_) (fun hc => ?_)
  · have h := sg_ifp hc h
    refine sg_iconst (pn := 14) dX3_hasRoomFor_13 rfl ic_0 ?_
    subst h
    exact sg_zret dX3_hasRoomFor_14 rfl rfl ⟨rfl, rfl⟩
  · have h := sg_ifn hc h
    refine sg_iload_n (pn := 5) (i := 1) dX3_hasRoomFor_4 rfl rfl 1 rfl ?_
    refine sg_iconst (pn := 6) dX3_hasRoomFor_5 rfl ic_2 ?_
    refine sg_icmp_ge (pn := 9) (tgt := 13) dX3_hasRoomFor_6 rfl (by decide) (fun hc => ?_) (fun hc => ?_)
    · have h := sg_ifp hc h
      refine sg_iconst (pn := 14) dX3_hasRoomFor_13 rfl ic_0 ?_
      subst h
      exact sg_zret dX3_hasRoomFor_14 rfl rfl ⟨rfl, rfl⟩
    · have h := sg_ifn hc h
      refine sg_iconst (pn := 10) dX3_hasRoomFor_9 rfl ic_1 ?_
      refine sg_goto (tgt := 14) dX3_hasRoomFor_10 (by decide) ?_
      subst h
      exact sg_zret dX3_hasRoomFor_14 rfl rfl ⟨rfl, rfl⟩
set_option maxRecDepth 4000 in
theorem gC_Memory_keepImage_ok {l : Launch} {D : va_G} {cI cZ : ClassId} {ad : Nat → Nat} {a1 : Int32} {a3 : Int32} {z : sg_M} {r : sg_M} (h : gC_Memory_keepImage a1 a3 z = some r) : sg_Met (eC l D cI cZ ad) yX3_keepImage cX3_keepImage 4 none 2 [.ref (ad 40), .int a1, .ref (ad 15), .int a3] z (sg_is none r) := by
  refine sg_enter (lv0 := [(0, .ref (ad 40)), (1, .int a1), (2, .ref (ad 15)), (3, .int a3)]) pn_X3 (Nat.le_of_ble_eq_true rfl) rfl ?_
  unfold gC_Memory_keepImage at h
  refine sg_aload_n (pn := 1) (i := 0) dX3_keepImage_0 rfl rfl 0 rfl ?_
  refine sg_iload_n (pn := 2) (i := 1) dX3_keepImage_1 rfl rfl 1 rfl ?_
  refine sg_callVi (pn := 5) (rest := []) 40 dX3_keepImage_2 rfl kb_X3_52 kv_X3_hasRoomFor (by exact rfl) rfl (Nat.le_of_ble_eq_true rfl) (gC_Memory_hasRoomFor_ok rfl) rfl rfl (Nat.le_of_ble_eq_true rfl) ?_
  refine sg_if_eq (pn := 8) (tgt := 37) dX3_keepImage_5 rfl (by decide) (fun hc => ?_) (fun hc => ?_)
  · have h := sg_ifp hc h
    obtain rfl := Option.some.inj h
    exact sg_vret dX3_keepImage_37 rfl ⟨rfl, rfl⟩
  · have h := sg_ifn hc h
    refine sg_aload_n (pn := 9) (i := 2) dX3_keepImage_8 rfl rfl 2 rfl ?_
    refine sg_aload_n (pn := 10) (i := 0) dX3_keepImage_9 rfl rfl 0 rfl ?_
    refine gfC_40_2 (pn := 13) dX3_keepImage_10 rfl lf_X3_9 ?_
    refine sg_bipush (pn := 15) dX3_keepImage_13 rfl ib_16 ?_
    refine sg_iload_n (pn := 16) (i := 1) dX3_keepImage_15 rfl rfl 1 rfl ?_
    refine sg_iadd (pn := 17) dX3_keepImage_16 rfl ?_
    refine sg_bipush (pn := 19) dX3_keepImage_17 rfl ib_106 ?_
    refine sg_imul (pn := 20) dX3_keepImage_19 rfl ?_
    obtain ⟨r1, h_r1, h⟩ := sg_bind h
    refine sg_callVv (pn := 23) (rest := []) 15 dX3_keepImage_20 rfl kb_X3_35 kv_X8_copyTo (by exact rfl) rfl (Nat.le_of_ble_eq_true rfl) (gC_State_copyTo_ok h_r1) rfl rfl (Nat.le_of_ble_eq_true rfl) ?_
    refine sg_aload_n (pn := 24) (i := 0) dX3_keepImage_23 rfl rfl 0 rfl ?_
    refine gfC_40_4 (pn := 27) dX3_keepImage_24 rfl lf_X3_19 ?_
    refine sg_iload_n (pn := 28) (i := 1) dX3_keepImage_27 rfl rfl 1 rfl ?_
    refine sg_iload_n (pn := 29) (i := 3) dX3_keepImage_28 rfl rfl 3 rfl ?_
    obtain ⟨hg, h⟩ := sg_guard h
    refine asC_43 (pn := 30) dX3_keepImage_29 rfl (sg_in_vp hg) ?_
    obtain ⟨z2, e_z2, h⟩ := sg_letE h
    refine sg_zE e_z2 ?_
    refine sg_aload_n (pn := 31) (i := 0) dX3_keepImage_30 rfl rfl 0 rfl ?_
    refine gfC_40_3 (pn := 34) dX3_keepImage_31 rfl lf_X3_15 ?_
    refine sg_iload_n (pn := 35) (i := 1) dX3_keepImage_34 rfl rfl 1 rfl ?_
    refine sg_iconst (pn := 36) dX3_keepImage_35 rfl ic_1 ?_
    obtain ⟨hg, h⟩ := sg_guard h
    refine asC_42 (pn := 37) dX3_keepImage_36 rfl (sg_in_vp hg) ?_
    obtain ⟨z3, e_z3, h⟩ := sg_letE h
    refine sg_zE e_z3 ?_
    obtain rfl := Option.some.inj h
    exact sg_vret dX3_keepImage_37 rfl ⟨rfl, rfl⟩
set_option maxRecDepth 4000 in
theorem gC_keep_ok {l : Launch} {D : va_G} {cI cZ : ClassId} {ad : Nat → Nat} {a1 : Int32} {z : sg_M} {r : Int32 × sg_M} (h : gC_keep a1 z = some r) : sg_Met (eC l D cI cZ ad) yX11_keep cX11_keep 2 (some .int) 3 [.ref (ad 0), .int a1] z (sg_is (some (.int r.1)) r.2) := by
  refine sg_enter (lv0 := [(0, .ref (ad 0)), (1, .int a1)]) pn_X11 (Nat.le_of_ble_eq_true rfl) rfl ?_
  unfold gC_keep at h
  refine sg_aload_n (pn := 1) (i := 0) dX11_keep_0 rfl rfl 0 rfl ?_
  refine gfC_0_10 (pn := 4) dX11_keep_1 rfl lf_X11_88 ?_
  refine sg_iload_n (pn := 5) (i := 1) dX11_keep_4 rfl rfl 1 rfl ?_
  refine sg_callVi (pn := 8) (rest := []) 40 dX11_keep_5 rfl kb_X11_323 kv_X3_hasRoomFor (by exact rfl) rfl (Nat.le_of_ble_eq_true rfl) (gC_Memory_hasRoomFor_ok rfl) rfl rfl (Nat.le_of_ble_eq_true rfl) ?_
  refine sg_if_ne (pn := 11) (tgt := 14) dX11_keep_8 rfl (by decide) (fun hc => ?_) (fun hc => ?_)
  · have h := sg_ifn hc h
    refine sg_aload_n (pn := 15) (i := 0) dX11_keep_14 rfl rfl 0 rfl ?_
    refine gfC_0_10 (pn := 18) dX11_keep_15 rfl lf_X11_88 ?_
    refine sg_iload_n (pn := 19) (i := 1) dX11_keep_18 rfl rfl 1 rfl ?_
    refine sg_aload_n (pn := 20) (i := 0) dX11_keep_19 rfl rfl 0 rfl ?_
    refine gfC_0_2 (pn := 23) dX11_keep_20 rfl lf_X11_26 ?_
    refine sg_aload_n (pn := 24) (i := 0) dX11_keep_23 rfl rfl 0 rfl ?_
    refine gfC_0_11 (pn := 27) dX11_keep_24 rfl lf_X11_320 ?_
    obtain ⟨r1, h_r1, h⟩ := sg_bind h
    refine sg_callVv (pn := 30) (rest := []) 40 dX11_keep_27 rfl kb_X11_326 kv_X3_keepImage (by exact rfl) rfl (Nat.le_of_ble_eq_true rfl) (gC_Memory_keepImage_ok h_r1) rfl rfl (Nat.le_of_ble_eq_true rfl) ?_
    refine sg_aload_n (pn := 31) (i := 0) dX11_keep_30 rfl rfl 0 rfl ?_
    refine gfC_0_10 (pn := 34) dX11_keep_31 rfl lf_X11_88 ?_
    refine sg_iconst (pn := 35) dX11_keep_34 rfl ic_0 ?_
    refine pfC_40_0 (pn := 38) dX11_keep_35 rfl lf_X11_164 ?_
    obtain ⟨z2, e_z2, h⟩ := sg_letE h
    refine sg_zE e_z2 ?_
    refine sg_iconst (pn := 39) dX11_keep_38 rfl ic_1 ?_
    obtain rfl := Option.some.inj h
    exact sg_iret dX11_keep_39 rfl ⟨rfl, rfl⟩
  · have h := sg_ifp hc h
    refine sg_ldc (pn := 13) dX11_keep_11 rfl kc_X11_171 ?_
    obtain rfl := Option.some.inj h
    exact sg_iret dX11_keep_13 rfl ⟨rfl, rfl⟩
set_option maxRecDepth 4000 in
theorem gC_Memory_hasKept_ok {l : Launch} {D : va_G} {cI cZ : ClassId} {ad : Nat → Nat} {a1 : Int32} {z : sg_M} {r : Int32} (h : gC_Memory_hasKept a1 z = some r) : sg_Met (eC l D cI cZ ad) yX3_hasKept cX3_hasKept 2 (some .boolean) 2 [.ref (ad 40), .int a1] z (sg_is (some (.int r)) z) := by
  refine sg_enter (lv0 := [(0, .ref (ad 40)), (1, .int a1)]) pn_X3 (Nat.le_of_ble_eq_true rfl) rfl ?_
  unfold gC_Memory_hasKept at h
  refine sg_aload_n (pn := 1) (i := 0) dX3_hasKept_0 rfl rfl 0 rfl ?_
  refine sg_iload_n (pn := 2) (i := 1) dX3_hasKept_1 rfl rfl 1 rfl ?_
  refine sg_callVi (pn := 5) (rest := []) 40 dX3_hasKept_2 rfl kb_X3_52 kv_X3_hasRoomFor (by exact rfl) rfl (Nat.le_of_ble_eq_true rfl) (gC_Memory_hasRoomFor_ok rfl) rfl rfl (Nat.le_of_ble_eq_true rfl) ?_
  refine sg_if_eq (pn := 8) (tgt := 21) dX3_hasKept_5 rfl (by decide) (fun hc => ?_) (fun hc => ?_)
  · have h := sg_ifp hc h
    refine sg_iconst (pn := 22) dX3_hasKept_21 rfl ic_0 ?_
    obtain rfl := Option.some.inj h
    exact sg_zret dX3_hasKept_22 rfl rfl ⟨rfl, rfl⟩
  · have h := sg_ifn hc h
    refine sg_aload_n (pn := 9) (i := 0) dX3_hasKept_8 rfl rfl 0 rfl ?_
    refine gfC_40_3 (pn := 12) dX3_hasKept_9 rfl lf_X3_15 ?_
    refine sg_iload_n (pn := 13) (i := 1) dX3_hasKept_12 rfl rfl 1 rfl ?_
    obtain ⟨hg, h⟩ := sg_guard h
    refine alC_42 (pn := 14) dX3_hasKept_13 rfl (sg_in_vp hg) ?_
    refine sg_if_eq (pn := 17) (tgt := 21) dX3_hasKept_14 rfl (by decide) (fun hc => ?_) (fun hc => ?_)
    · have h := sg_ifp hc h
      refine sg_iconst (pn := 22) dX3_hasKept_21 rfl ic_0 ?_
      obtain rfl := Option.some.inj h
      exact sg_zret dX3_hasKept_22 rfl rfl ⟨rfl, rfl⟩
    · have h := sg_ifn hc h
      refine sg_iconst (pn := 18) dX3_hasKept_17 rfl ic_1 ?_
      refine sg_goto (tgt := 22) dX3_hasKept_18 (by decide) ?_
      obtain rfl := Option.some.inj h
      exact sg_zret dX3_hasKept_22 rfl rfl ⟨rfl, rfl⟩
set_option maxRecDepth 4000 in
theorem gC_Memory_fetchImage_ok {l : Launch} {D : va_G} {cI cZ : ClassId} {ad : Nat → Nat} {a1 : Int32} {z : sg_M} {r : sg_M} (h : gC_Memory_fetchImage a1 z = some r) : sg_Met (eC l D cI cZ ad) yX3_fetchImage cX3_fetchImage 3 none 3 [.ref (ad 40), .int a1, .ref (ad 15)] z (sg_is none r) := by
  refine sg_enter (lv0 := [(0, .ref (ad 40)), (1, .int a1), (2, .ref (ad 15))]) pn_X3 (Nat.le_of_ble_eq_true rfl) rfl ?_
  unfold gC_Memory_fetchImage at h
  refine sg_aload_n (pn := 1) (i := 0) dX3_fetchImage_0 rfl rfl 0 rfl ?_
  refine sg_iload_n (pn := 2) (i := 1) dX3_fetchImage_1 rfl rfl 1 rfl ?_
  obtain ⟨r1, h_r1, h⟩ := sg_bind h
  refine sg_callVi (pn := 5) (rest := []) 40 dX3_fetchImage_2 rfl kb_X3_56 kv_X3_hasKept (by exact rfl) rfl (Nat.le_of_ble_eq_true rfl) (gC_Memory_hasKept_ok h_r1) rfl rfl (Nat.le_of_ble_eq_true rfl) ?_
  refine sg_if_eq (pn := 8) (tgt := 23) dX3_fetchImage_5 rfl (by decide) (fun hc => ?_) (fun hc => ?_)
  · have h := sg_ifp hc h
    obtain rfl := Option.some.inj h
    exact sg_vret dX3_fetchImage_23 rfl ⟨rfl, rfl⟩
  · have h := sg_ifn hc h
    refine sg_aload_n (pn := 9) (i := 2) dX3_fetchImage_8 rfl rfl 2 rfl ?_
    refine sg_aload_n (pn := 10) (i := 0) dX3_fetchImage_9 rfl rfl 0 rfl ?_
    refine gfC_40_2 (pn := 13) dX3_fetchImage_10 rfl lf_X3_9 ?_
    refine sg_bipush (pn := 15) dX3_fetchImage_13 rfl ib_16 ?_
    refine sg_iload_n (pn := 16) (i := 1) dX3_fetchImage_15 rfl rfl 1 rfl ?_
    refine sg_iadd (pn := 17) dX3_fetchImage_16 rfl ?_
    refine sg_bipush (pn := 19) dX3_fetchImage_17 rfl ib_106 ?_
    refine sg_imul (pn := 20) dX3_fetchImage_19 rfl ?_
    obtain ⟨r2, h_r2, h⟩ := sg_bind h
    refine sg_callVv (pn := 23) (rest := []) 15 dX3_fetchImage_20 rfl kb_X3_49 kv_X8_copyFrom (by exact rfl) rfl (Nat.le_of_ble_eq_true rfl) (gC_State_copyFrom_ok h_r2) rfl rfl (Nat.le_of_ble_eq_true rfl) ?_
    obtain rfl := Option.some.inj h
    exact sg_vret dX3_fetchImage_23 rfl ⟨rfl, rfl⟩
set_option maxRecDepth 4000 in
theorem gC_Memory_seedOfImage_ok {l : Launch} {D : va_G} {cI cZ : ClassId} {ad : Nat → Nat} {a1 : Int32} {z : sg_M} {r : Int32} (h : gC_Memory_seedOfImage a1 z = some r) : sg_Met (eC l D cI cZ ad) yX3_seedOfImage cX3_seedOfImage 2 (some .int) 3 [.ref (ad 40), .int a1] z (sg_is (some (.int r)) z) := by
  refine sg_enter (lv0 := [(0, .ref (ad 40)), (1, .int a1)]) pn_X3 (Nat.le_of_ble_eq_true rfl) rfl ?_
  unfold gC_Memory_seedOfImage at h
  refine sg_aload_n (pn := 1) (i := 0) dX3_seedOfImage_0 rfl rfl 0 rfl ?_
  refine sg_iload_n (pn := 2) (i := 1) dX3_seedOfImage_1 rfl rfl 1 rfl ?_
  obtain ⟨r1, h_r1, h⟩ := sg_bind h
  refine sg_callVi (pn := 5) (rest := []) 40 dX3_seedOfImage_2 rfl kb_X3_56 kv_X3_hasKept (by exact rfl) rfl (Nat.le_of_ble_eq_true rfl) (gC_Memory_hasKept_ok h_r1) rfl rfl (Nat.le_of_ble_eq_true rfl) ?_
  refine sg_if_eq (pn := 8) (tgt := 17) dX3_seedOfImage_5 rfl (by decide) (fun hc => ?_) (fun hc => ?_)
  · have h := sg_ifp hc h
    refine sg_iconst (pn := 18) dX3_seedOfImage_17 rfl ic_0 ?_
    obtain rfl := Option.some.inj h
    exact sg_iret dX3_seedOfImage_18 rfl ⟨rfl, rfl⟩
  · have h := sg_ifn hc h
    refine sg_aload_n (pn := 9) (i := 0) dX3_seedOfImage_8 rfl rfl 0 rfl ?_
    refine gfC_40_4 (pn := 12) dX3_seedOfImage_9 rfl lf_X3_19 ?_
    refine sg_iload_n (pn := 13) (i := 1) dX3_seedOfImage_12 rfl rfl 1 rfl ?_
    obtain ⟨hg, h⟩ := sg_guard h
    refine alC_43 (pn := 14) dX3_seedOfImage_13 rfl (sg_in_vp hg) ?_
    refine sg_goto (tgt := 18) dX3_seedOfImage_14 (by decide) ?_
    obtain rfl := Option.some.inj h
    exact sg_iret dX3_seedOfImage_18 rfl ⟨rfl, rfl⟩
set_option maxRecDepth 4000 in
theorem gC_goBack_ok {l : Launch} {D : va_G} {cI cZ : ClassId} {ad : Nat → Nat} {a1 : Int32} {z : sg_M} {r : Int32 × sg_M} (h : gC_goBack a1 z = some r) : sg_Met (eC l D cI cZ ad) yX11_goBack cX11_goBack 2 (some .int) 4 [.ref (ad 0), .int a1] z (sg_is (some (.int r.1)) r.2) := by
  refine sg_enter (lv0 := [(0, .ref (ad 0)), (1, .int a1)]) pn_X11 (Nat.le_of_ble_eq_true rfl) rfl ?_
  unfold gC_goBack at h
  refine sg_aload_n (pn := 1) (i := 0) dX11_goBack_0 rfl rfl 0 rfl ?_
  refine gfC_0_10 (pn := 4) dX11_goBack_1 rfl lf_X11_88 ?_
  refine sg_iload_n (pn := 5) (i := 1) dX11_goBack_4 rfl rfl 1 rfl ?_
  refine sg_callVi (pn := 8) (rest := []) 40 dX11_goBack_5 rfl kb_X11_323 kv_X3_hasRoomFor (by exact rfl) rfl (Nat.le_of_ble_eq_true rfl) (gC_Memory_hasRoomFor_ok rfl) rfl rfl (Nat.le_of_ble_eq_true rfl) ?_
  refine sg_if_ne (pn := 11) (tgt := 14) dX11_goBack_8 rfl (by decide) (fun hc => ?_) (fun hc => ?_)
  · have h := sg_ifn hc h
    refine sg_aload_n (pn := 15) (i := 0) dX11_goBack_14 rfl rfl 0 rfl ?_
    refine gfC_0_10 (pn := 18) dX11_goBack_15 rfl lf_X11_88 ?_
    refine sg_iload_n (pn := 19) (i := 1) dX11_goBack_18 rfl rfl 1 rfl ?_
    obtain ⟨r1, h_r1, h⟩ := sg_bind h
    refine sg_callVi (pn := 22) (rest := []) 40 dX11_goBack_19 rfl kb_X11_330 kv_X3_hasKept (by exact rfl) rfl (Nat.le_of_ble_eq_true rfl) (gC_Memory_hasKept_ok h_r1) rfl rfl (Nat.le_of_ble_eq_true rfl) ?_
    refine sg_if_ne (pn := 25) (tgt := 28) dX11_goBack_22 rfl (by decide) (fun hc => ?_) (fun hc => ?_)
    · have h := sg_ifn hc h
      refine sg_aload_n (pn := 29) (i := 0) dX11_goBack_28 rfl rfl 0 rfl ?_
      refine gfC_0_10 (pn := 32) dX11_goBack_29 rfl lf_X11_88 ?_
      refine sg_iload_n (pn := 33) (i := 1) dX11_goBack_32 rfl rfl 1 rfl ?_
      refine sg_aload_n (pn := 34) (i := 0) dX11_goBack_33 rfl rfl 0 rfl ?_
      refine gfC_0_2 (pn := 37) dX11_goBack_34 rfl lf_X11_26 ?_
      obtain ⟨r2, h_r2, h⟩ := sg_bind h
      refine sg_callVv (pn := 40) (rest := []) 40 dX11_goBack_37 rfl kb_X11_333 kv_X3_fetchImage (by exact rfl) rfl (Nat.le_of_ble_eq_true rfl) (gC_Memory_fetchImage_ok h_r2) rfl rfl (Nat.le_of_ble_eq_true rfl) ?_
      refine sg_aload_n (pn := 41) (i := 0) dX11_goBack_40 rfl rfl 0 rfl ?_
      refine sg_aload_n (pn := 42) (i := 0) dX11_goBack_41 rfl rfl 0 rfl ?_
      refine gfC_0_10 (pn := 45) dX11_goBack_42 rfl lf_X11_88 ?_
      refine sg_iload_n (pn := 46) (i := 1) dX11_goBack_45 rfl rfl 1 rfl ?_
      obtain ⟨r3, h_r3, h⟩ := sg_bind h
      refine sg_callVi (pn := 49) (rest := [.ref (ad 0)]) 40 dX11_goBack_46 rfl kb_X11_337 kv_X3_seedOfImage (by exact rfl) rfl (Nat.le_of_ble_eq_true rfl) (gC_Memory_seedOfImage_ok h_r3) rfl rfl (Nat.le_of_ble_eq_true rfl) ?_
      refine pfC_0_11 (pn := 52) dX11_goBack_49 rfl lf_X11_320 ?_
      obtain ⟨z4, e_z4, h⟩ := sg_letE h
      refine sg_zE e_z4 ?_
      refine sg_aload_n (pn := 53) (i := 0) dX11_goBack_52 rfl rfl 0 rfl ?_
      refine gfC_0_10 (pn := 56) dX11_goBack_53 rfl lf_X11_88 ?_
      refine sg_iconst (pn := 57) dX11_goBack_56 rfl ic_0 ?_
      refine pfC_40_0 (pn := 60) dX11_goBack_57 rfl lf_X11_164 ?_
      obtain ⟨z5, e_z5, h⟩ := sg_letE h
      refine sg_zE e_z5 ?_
      refine sg_iconst (pn := 61) dX11_goBack_60 rfl ic_1 ?_
      obtain rfl := Option.some.inj h
      exact sg_iret dX11_goBack_61 rfl ⟨rfl, rfl⟩
    · have h := sg_ifp hc h
      refine sg_ldc (pn := 27) dX11_goBack_25 rfl kc_X11_216 ?_
      obtain rfl := Option.some.inj h
      exact sg_iret dX11_goBack_27 rfl ⟨rfl, rfl⟩
  · have h := sg_ifp hc h
    refine sg_ldc (pn := 13) dX11_goBack_11 rfl kc_X11_171 ?_
    obtain rfl := Option.some.inj h
    exact sg_iret dX11_goBack_13 rfl ⟨rfl, rfl⟩
set_option maxRecDepth 4000 in
theorem gM_in_ok {l : Launch} {D : va_G} {cI cZ : ClassId} {ad : Nat → Nat} {a0 : Int64} {a2 : Int64} {a4 : Int64} {z : sg_M} {r : Int32} (h : gM_in a0 a2 a4 = r) : sg_Met (eM l D cI cZ ad) yX12_in cX12_in 6 (some .boolean) 1 [.long a0, .long a2, .long a4] z (sg_is (some (.int r)) z) := by
  refine sg_enter (lv0 := [(0, .long a0), (2, .long a2), (4, .long a4)]) pn_X12 (Nat.le_of_ble_eq_true rfl) rfl ?_
  unfold gM_in at h
  refine sg_lload_n (pn := 1) (i := 0) dX12_in_0 rfl rfl 0 rfl ?_
  refine sg_lload_n (pn := 2) (i := 2) dX12_in_1 rfl rfl 1 rfl ?_
  refine sg_lcmp (pn := 3) dX12_in_2 rfl ?_
  refine sg_if_lt (pn := 6) (tgt := 17) dX12_in_3 rfl (by decide) (fun hc => ?_) (fun hc => ?_)
  · have h := sg_ifp hc h
    refine sg_iconst (pn := 18) dX12_in_17 rfl ic_0 ?_
    subst h
    exact sg_zret dX12_in_18 rfl rfl ⟨rfl, rfl⟩
  · have h := sg_ifn hc h
    refine sg_lload_n (pn := 7) (i := 0) dX12_in_6 rfl rfl 0 rfl ?_
    refine sg_lload (pn := 9) (i := 4) dX12_in_7 rfl 2 rfl ?_
    refine sg_lcmp (pn := 10) dX12_in_9 rfl ?_
    refine sg_if_gt (pn := 13) (tgt := 17) dX12_in_10 rfl (by decide) (fun hc => ?_) (fun hc => ?_)
    · have h := sg_ifp hc h
      refine sg_iconst (pn := 18) dX12_in_17 rfl ic_0 ?_
      subst h
      exact sg_zret dX12_in_18 rfl rfl ⟨rfl, rfl⟩
    · have h := sg_ifn hc h
      refine sg_iconst (pn := 14) dX12_in_13 rfl ic_1 ?_
      refine sg_goto (tgt := 18) dX12_in_14 (by decide) ?_
      subst h
      exact sg_zret dX12_in_18 rfl rfl ⟨rfl, rfl⟩
set_option maxRecDepth 4000 in
theorem gM_feed_ok {l : Launch} {D : va_G} {cI cZ : ClassId} {ad : Nat → Nat} {a1 : Int32} {z : sg_M} {r : Int32 × sg_M} (h : gM_feed a1 z = some r) : sg_Met (eM l D cI cZ ad) yX12_feed cX12_feed 2 (some .int) 2 [.ref (ad 0), .int a1] z (sg_is (some (.int r.1)) r.2) := by
  refine sg_enter (lv0 := [(0, .ref (ad 0)), (1, .int a1)]) pn_X12 (Nat.le_of_ble_eq_true rfl) rfl ?_
  unfold gM_feed at h
  refine sg_iload_n (pn := 1) (i := 1) dX12_feed_0 rfl rfl 1 rfl ?_
  refine sg_i2l (pn := 2) dX12_feed_1 rfl ?_
  refine sg_lconst (pn := 3) dX12_feed_2 rfl lc_0 ?_
  refine sg_ldc2 (pn := 6) dX12_feed_3 rfl kl_X12_88 ?_
  refine sg_callSi (pn := 9) (rest := []) dX12_feed_6 rfl kb_X12_81 ks_X12_in (Nat.le_of_ble_eq_true rfl) (gM_in_ok rfl) rfl rfl (Nat.le_of_ble_eq_true rfl) ?_
  refine sg_if_ne (pn := 12) (tgt := 15) dX12_feed_9 rfl (by decide) (fun hc => ?_) (fun hc => ?_)
  · have h := sg_ifn hc h
    refine sg_aload_n (pn := 16) (i := 0) dX12_feed_15 rfl rfl 0 rfl ?_
    refine gfM_0_11 (pn := 19) dX12_feed_16 rfl lf_X12_91 ?_
    refine sg_sipush (pn := 22) dX12_feed_19 rfl is_240 ?_
    refine sg_icmp_ne (pn := 25) (tgt := 28) dX12_feed_22 rfl (by decide) (fun hc => ?_) (fun hc => ?_)
    · have h := sg_ifn hc h
      refine sg_aload_n (pn := 29) (i := 0) dX12_feed_28 rfl rfl 0 rfl ?_
      refine gfM_0_10 (pn := 32) dX12_feed_29 rfl lf_X12_28 ?_
      refine sg_aload_n (pn := 33) (i := 0) dX12_feed_32 rfl rfl 0 rfl ?_
      refine gfM_0_11 (pn := 36) dX12_feed_33 rfl lf_X12_91 ?_
      refine sg_iload_n (pn := 37) (i := 1) dX12_feed_36 rfl rfl 1 rfl ?_
      obtain ⟨hg, h⟩ := sg_guard h
      refine asM_7 (pn := 38) dX12_feed_37 rfl (sg_in_vp hg) ?_
      obtain ⟨z1, e_z1, h⟩ := sg_letE h
      refine sg_zE e_z1 ?_
      refine sg_aload_n (pn := 39) (i := 0) dX12_feed_38 rfl rfl 0 rfl ?_
      refine sg_dup (pn := 40) dX12_feed_39 rfl rfl ?_
      refine gfM_0_11 (pn := 43) dX12_feed_40 rfl lf_X12_91 ?_
      refine sg_iconst (pn := 44) dX12_feed_43 rfl ic_1 ?_
      refine sg_iadd (pn := 45) dX12_feed_44 rfl ?_
      refine pfM_0_11 (pn := 48) dX12_feed_45 rfl lf_X12_91 ?_
      obtain ⟨z2, e_z2, h⟩ := sg_letE h
      refine sg_zE e_z2 ?_
      refine sg_aload_n (pn := 49) (i := 0) dX12_feed_48 rfl rfl 0 rfl ?_
      refine gfM_0_11 (pn := 52) dX12_feed_49 rfl lf_X12_91 ?_
      obtain rfl := Option.some.inj h
      exact sg_iret dX12_feed_52 rfl ⟨rfl, rfl⟩
    · have h := sg_ifp hc h
      refine sg_ldc (pn := 27) dX12_feed_25 rfl kc_X12_94 ?_
      obtain rfl := Option.some.inj h
      exact sg_iret dX12_feed_27 rfl ⟨rfl, rfl⟩
  · have h := sg_ifp hc h
    refine sg_ldc (pn := 14) dX12_feed_12 rfl kc_X12_90 ?_
    obtain rfl := Option.some.inj h
    exact sg_iret dX12_feed_14 rfl ⟨rfl, rfl⟩
set_option maxRecDepth 4000 in
theorem gM_here_L_ok {l : Launch} {D : va_G} {cI cZ : ClassId} {ad : Nat → Nat} : ∀ (n : Nat)  (z : sg_M) (r : Int32 × sg_M), gM_here_L n  z = some r → sg_G (eM l D cI cZ ad) yX12_here cX12_here 1 (some .int) 1 0 [(0, .ref (ad 0))] [] z (sg_is (some (.int r.1)) r.2) := by
  intro n
  induction n with
  | zero => intro  z r h; cases h
  | succ n ih =>
    intro  z r h
    unfold gM_here_L at h
    refine sg_aload_n (pn := 1) (i := 0) dX12_here_0 rfl rfl 0 rfl ?_
    refine gfM_0_13 (pn := 4) dX12_here_1 rfl lf_X12_95 ?_
    refine sg_aload_n (pn := 5) (i := 0) dX12_here_4 rfl rfl 0 rfl ?_
    refine gfM_0_11 (pn := 8) dX12_here_5 rfl lf_X12_91 ?_
    refine sg_icmp_ge (pn := 11) (tgt := 38) dX12_here_8 rfl (by decide) (fun hc => ?_) (fun hc => ?_)
    · have h := sg_ifp hc h
      refine sg_aload_n (pn := 39) (i := 0) dX12_here_38 rfl rfl 0 rfl ?_
      refine gfM_0_13 (pn := 42) dX12_here_39 rfl lf_X12_95 ?_
      refine sg_aload_n (pn := 43) (i := 0) dX12_here_42 rfl rfl 0 rfl ?_
      refine gfM_0_11 (pn := 46) dX12_here_43 rfl lf_X12_91 ?_
      refine sg_icmp_ge (pn := 49) (tgt := 61) dX12_here_46 rfl (by decide) (fun hc => ?_) (fun hc => ?_)
      · have h := sg_ifp hc h
        refine sg_iconst (pn := 62) dX12_here_61 rfl ic_m1 ?_
        obtain rfl := Option.some.inj h
        exact sg_iret dX12_here_62 rfl ⟨rfl, rfl⟩
      · have h := sg_ifn hc h
        refine sg_aload_n (pn := 50) (i := 0) dX12_here_49 rfl rfl 0 rfl ?_
        refine gfM_0_10 (pn := 53) dX12_here_50 rfl lf_X12_28 ?_
        refine sg_aload_n (pn := 54) (i := 0) dX12_here_53 rfl rfl 0 rfl ?_
        refine gfM_0_13 (pn := 57) dX12_here_54 rfl lf_X12_95 ?_
        obtain ⟨hg, h⟩ := sg_guard h
        refine alM_7 (pn := 58) dX12_here_57 rfl (sg_in_vp hg) ?_
        refine sg_goto (tgt := 62) dX12_here_58 (by decide) ?_
        obtain rfl := Option.some.inj h
        exact sg_iret dX12_here_62 rfl ⟨rfl, rfl⟩
    · have h := sg_ifn hc h
      refine sg_aload_n (pn := 12) (i := 0) dX12_here_11 rfl rfl 0 rfl ?_
      refine gfM_0_10 (pn := 15) dX12_here_12 rfl lf_X12_28 ?_
      refine sg_aload_n (pn := 16) (i := 0) dX12_here_15 rfl rfl 0 rfl ?_
      refine gfM_0_13 (pn := 19) dX12_here_16 rfl lf_X12_95 ?_
      obtain ⟨hg, h⟩ := sg_guard h
      refine alM_7 (pn := 20) dX12_here_19 rfl (sg_in_vp hg) ?_
      refine sg_bipush (pn := 22) dX12_here_20 rfl ib_32 ?_
      refine sg_icmp_ne (pn := 25) (tgt := 38) dX12_here_22 rfl (by decide) (fun hc => ?_) (fun hc => ?_)
      · have h := sg_ifn hc h
        refine sg_aload_n (pn := 39) (i := 0) dX12_here_38 rfl rfl 0 rfl ?_
        refine gfM_0_13 (pn := 42) dX12_here_39 rfl lf_X12_95 ?_
        refine sg_aload_n (pn := 43) (i := 0) dX12_here_42 rfl rfl 0 rfl ?_
        refine gfM_0_11 (pn := 46) dX12_here_43 rfl lf_X12_91 ?_
        refine sg_icmp_ge (pn := 49) (tgt := 61) dX12_here_46 rfl (by decide) (fun hc => ?_) (fun hc => ?_)
        · have h := sg_ifp hc h
          refine sg_iconst (pn := 62) dX12_here_61 rfl ic_m1 ?_
          obtain rfl := Option.some.inj h
          exact sg_iret dX12_here_62 rfl ⟨rfl, rfl⟩
        · have h := sg_ifn hc h
          refine sg_aload_n (pn := 50) (i := 0) dX12_here_49 rfl rfl 0 rfl ?_
          refine gfM_0_10 (pn := 53) dX12_here_50 rfl lf_X12_28 ?_
          refine sg_aload_n (pn := 54) (i := 0) dX12_here_53 rfl rfl 0 rfl ?_
          refine gfM_0_13 (pn := 57) dX12_here_54 rfl lf_X12_95 ?_
          obtain ⟨hg, h⟩ := sg_guard h
          refine alM_7 (pn := 58) dX12_here_57 rfl (sg_in_vp hg) ?_
          refine sg_goto (tgt := 62) dX12_here_58 (by decide) ?_
          obtain rfl := Option.some.inj h
          exact sg_iret dX12_here_62 rfl ⟨rfl, rfl⟩
      · have h := sg_ifp hc h
        refine sg_aload_n (pn := 26) (i := 0) dX12_here_25 rfl rfl 0 rfl ?_
        refine sg_dup (pn := 27) dX12_here_26 rfl rfl ?_
        refine gfM_0_13 (pn := 30) dX12_here_27 rfl lf_X12_95 ?_
        refine sg_iconst (pn := 31) dX12_here_30 rfl ic_1 ?_
        refine sg_iadd (pn := 32) dX12_here_31 rfl ?_
        refine pfM_0_13 (pn := 35) dX12_here_32 rfl lf_X12_95 ?_
        obtain ⟨z1, e_z1, h⟩ := sg_letE h
        refine sg_zE e_z1 ?_
        refine sg_goto (tgt := 0) dX12_here_35 (by decide) ?_
        exact ih _ _ h
set_option maxRecDepth 4000 in
theorem gM_here_ok {l : Launch} {D : va_G} {cI cZ : ClassId} {ad : Nat → Nat} {n : Nat} {z : sg_M} {r : Int32 × sg_M} (h : gM_here n z = some r) : sg_Met (eM l D cI cZ ad) yX12_here cX12_here 1 (some .int) 1 [.ref (ad 0)] z (sg_is (some (.int r.1)) r.2) := by
  refine sg_enter (lv0 := [(0, .ref (ad 0))]) pn_X12 (Nat.le_of_ble_eq_true rfl) rfl ?_
  unfold gM_here at h
  exact gM_here_L_ok n _ _ h
set_option maxRecDepth 4000 in
theorem gM_fails_ok {l : Launch} {D : va_G} {cI cZ : ClassId} {ad : Nat → Nat} {a1 : Int32} {a2 : Int32} {z : sg_M} {r : Int32 × sg_M} (h : gM_fails a1 a2 z = some r) : sg_Met (eM l D cI cZ ad) yX12_fails cX12_fails 3 (some .int) 1 [.ref (ad 0), .int a1, .int a2] z (sg_is (some (.int r.1)) r.2) := by
  refine sg_enter (lv0 := [(0, .ref (ad 0)), (1, .int a1), (2, .int a2)]) pn_X12 (Nat.le_of_ble_eq_true rfl) rfl ?_
  unfold gM_fails at h
  refine sg_aload_n (pn := 1) (i := 0) dX12_fails_0 rfl rfl 0 rfl ?_
  refine sg_iload_n (pn := 2) (i := 2) dX12_fails_1 rfl rfl 2 rfl ?_
  refine pfM_0_12 (pn := 5) dX12_fails_2 rfl lf_X12_31 ?_
  obtain ⟨z1, e_z1, h⟩ := sg_letE h
  refine sg_zE e_z1 ?_
  refine sg_iload_n (pn := 6) (i := 1) dX12_fails_5 rfl rfl 1 rfl ?_
  obtain rfl := Option.some.inj h
  exact sg_iret dX12_fails_6 rfl ⟨rfl, rfl⟩
