set_option maxRecDepth 4000 in
theorem gC_Reader_append_ok {l : Launch} {D : va_G} {cI cZ : ClassId} {ad : Nat → Nat} {a1 : Int32} {z : sg_M} {r : sg_M} (h : gC_Reader_append a1 z = some r) : sg_Met (eC l D cI cZ ad) yX5_append cX5_append 2 none 1 [.ref (ad 1), .int a1] z (sg_is none r) := by
  refine sg_enter (lv0 := [(0, .ref (ad 1)), (1, .int a1)]) pn_X5 (Nat.le_of_ble_eq_true rfl) rfl ?_
  unfold gC_Reader_append at h
  refine sg_aload_n (pn := 1) (i := 0) dX5_append_0 rfl rfl 0 rfl ?_
  refine gfC_1_1 (pn := 4) dX5_append_1 rfl lf_X5_26 ?_
  refine sg_sipush (pn := 7) dX5_append_4 rfl is_240 ?_
  refine sg_icmp_ge (pn := 10) (tgt := 30) dX5_append_7 rfl (by decide) (fun hc => ?_) (fun hc => ?_)
  · have h := sg_ifp hc h
    obtain rfl := Option.some.inj h
    exact sg_vret dX5_append_30 rfl ⟨rfl, rfl⟩
  · have h := sg_ifn hc h
    refine sg_aload_n (pn := 11) (i := 0) dX5_append_10 rfl rfl 0 rfl ?_
    refine gfC_1_3 (pn := 14) dX5_append_11 rfl lf_X5_22 ?_
    refine sg_aload_n (pn := 15) (i := 0) dX5_append_14 rfl rfl 0 rfl ?_
    refine gfC_1_1 (pn := 18) dX5_append_15 rfl lf_X5_26 ?_
    refine sg_iload_n (pn := 19) (i := 1) dX5_append_18 rfl rfl 1 rfl ?_
    obtain ⟨hg, h⟩ := sg_guard h
    refine asC_8 (pn := 20) dX5_append_19 rfl (sg_in_vp hg) ?_
    obtain ⟨z1, e_z1, h⟩ := sg_letE h
    refine sg_zE e_z1 ?_
    refine sg_aload_n (pn := 21) (i := 0) dX5_append_20 rfl rfl 0 rfl ?_
    refine sg_dup (pn := 22) dX5_append_21 rfl rfl ?_
    refine gfC_1_1 (pn := 25) dX5_append_22 rfl lf_X5_26 ?_
    refine sg_iconst (pn := 26) dX5_append_25 rfl ic_1 ?_
    refine sg_iadd (pn := 27) dX5_append_26 rfl ?_
    refine pfC_1_1 (pn := 30) dX5_append_27 rfl lf_X5_26 ?_
    obtain ⟨z2, e_z2, h⟩ := sg_letE h
    refine sg_zE e_z2 ?_
    obtain rfl := Option.some.inj h
    exact sg_vret dX5_append_30 rfl ⟨rfl, rfl⟩
set_option maxRecDepth 4000 in
theorem gC_feed_ok {l : Launch} {D : va_G} {cI cZ : ClassId} {ad : Nat → Nat} {a1 : Int32} {z : sg_M} {r : Int32 × sg_M} (h : gC_feed a1 z = some r) : sg_Met (eC l D cI cZ ad) yX11_feed cX11_feed 2 (some .int) 2 [.ref (ad 0), .int a1] z (sg_is (some (.int r.1)) r.2) := by
  refine sg_enter (lv0 := [(0, .ref (ad 0)), (1, .int a1)]) pn_X11 (Nat.le_of_ble_eq_true rfl) rfl ?_
  unfold gC_feed at h
  refine sg_iload_n (pn := 1) (i := 1) dX11_feed_0 rfl rfl 1 rfl ?_
  refine sg_if_lt (pn := 4) (tgt := 11) dX11_feed_1 rfl (by decide) (fun hc => ?_) (fun hc => ?_)
  · have h := sg_ifp hc h
    refine sg_ldc (pn := 13) dX11_feed_11 rfl kc_X11_99 ?_
    obtain rfl := Option.some.inj h
    exact sg_iret dX11_feed_13 rfl ⟨rfl, rfl⟩
  · have h := sg_ifn hc h
    refine sg_iload_n (pn := 5) (i := 1) dX11_feed_4 rfl rfl 1 rfl ?_
    refine sg_sipush (pn := 8) dX11_feed_5 rfl is_255 ?_
    refine sg_icmp_le (pn := 11) (tgt := 14) dX11_feed_8 rfl (by decide) (fun hc => ?_) (fun hc => ?_)
    · have h := sg_ifp hc h
      refine sg_aload_n (pn := 15) (i := 0) dX11_feed_14 rfl rfl 0 rfl ?_
      refine gfC_0_0 (pn := 18) dX11_feed_15 rfl lf_X11_12 ?_
      refine gfC_1_1 (pn := 21) dX11_feed_18 rfl lf_X11_100 ?_
      refine sg_sipush (pn := 24) dX11_feed_21 rfl is_240 ?_
      refine sg_icmp_lt (pn := 27) (tgt := 30) dX11_feed_24 rfl (by decide) (fun hc => ?_) (fun hc => ?_)
      · have h := sg_ifp hc h
        refine sg_aload_n (pn := 31) (i := 0) dX11_feed_30 rfl rfl 0 rfl ?_
        refine gfC_0_0 (pn := 34) dX11_feed_31 rfl lf_X11_12 ?_
        refine sg_iload_n (pn := 35) (i := 1) dX11_feed_34 rfl rfl 1 rfl ?_
        obtain ⟨r1, h_r1, h⟩ := sg_bind h
        refine sg_callVv (pn := 38) (rest := []) 1 dX11_feed_35 rfl kb_X11_105 kv_X5_append (by exact rfl) rfl (Nat.le_of_ble_eq_true rfl) (gC_Reader_append_ok h_r1) rfl rfl (Nat.le_of_ble_eq_true rfl) ?_
        refine sg_aload_n (pn := 39) (i := 0) dX11_feed_38 rfl rfl 0 rfl ?_
        refine gfC_0_0 (pn := 42) dX11_feed_39 rfl lf_X11_12 ?_
        refine gfC_1_1 (pn := 45) dX11_feed_42 rfl lf_X11_100 ?_
        obtain rfl := Option.some.inj h
        exact sg_iret dX11_feed_45 rfl ⟨rfl, rfl⟩
      · have h := sg_ifn hc h
        refine sg_ldc (pn := 29) dX11_feed_27 rfl kc_X11_104 ?_
        obtain rfl := Option.some.inj h
        exact sg_iret dX11_feed_29 rfl ⟨rfl, rfl⟩
    · have h := sg_ifn hc h
      refine sg_ldc (pn := 13) dX11_feed_11 rfl kc_X11_99 ?_
      obtain rfl := Option.some.inj h
      exact sg_iret dX11_feed_13 rfl ⟨rfl, rfl⟩
set_option maxRecDepth 4000 in
theorem gC_Road_clear_2_ok {l : Launch} {D : va_G} {cI cZ : ClassId} {ad : Nat → Nat} {z : sg_M} {r : sg_M} (h : gC_Road_clear_2 z = some r) : sg_Met (eC l D cI cZ ad) yX6_clear cX6_clear 1 none 1 [.ref (ad 2)] z (sg_is none r) := by
  refine sg_enter (lv0 := [(0, .ref (ad 2))]) pn_X6 (Nat.le_of_ble_eq_true rfl) rfl ?_
  unfold gC_Road_clear_2 at h
  refine sg_aload_n (pn := 1) (i := 0) dX6_clear_0 rfl rfl 0 rfl ?_
  refine sg_iconst (pn := 2) dX6_clear_1 rfl ic_0 ?_
  refine pfC_2_0 (pn := 5) dX6_clear_2 rfl lf_X6_27 ?_
  obtain ⟨z1, e_z1, h⟩ := sg_letE h
  refine sg_zE e_z1 ?_
  refine sg_aload_n (pn := 6) (i := 0) dX6_clear_5 rfl rfl 0 rfl ?_
  refine sg_iconst (pn := 7) dX6_clear_6 rfl ic_0 ?_
  refine pfC_2_2 (pn := 10) dX6_clear_7 rfl lf_X6_31 ?_
  obtain ⟨z2, e_z2, h⟩ := sg_letE h
  refine sg_zE e_z2 ?_
  refine sg_aload_n (pn := 11) (i := 0) dX6_clear_10 rfl rfl 0 rfl ?_
  refine sg_iconst (pn := 12) dX6_clear_11 rfl ic_1 ?_
  refine pfC_2_1 (pn := 15) dX6_clear_12 rfl lf_X6_34 ?_
  obtain ⟨z3, e_z3, h⟩ := sg_letE h
  refine sg_zE e_z3 ?_
  refine sg_aload_n (pn := 16) (i := 0) dX6_clear_15 rfl rfl 0 rfl ?_
  refine gfC_2_4 (pn := 19) dX6_clear_16 rfl lf_X6_15 ?_
  refine sg_iconst (pn := 20) dX6_clear_19 rfl ic_0 ?_
  refine sg_iconst (pn := 21) dX6_clear_20 rfl ic_5 ?_
  refine asC_4 (pn := 22) dX6_clear_21 rfl (sg_in_vp (by decide +kernel)) ?_
  obtain ⟨z4, e_z4, h⟩ := sg_letE h
  refine sg_zE e_z4 ?_
  obtain rfl := Option.some.inj h
  exact sg_vret dX6_clear_22 rfl ⟨rfl, rfl⟩
set_option maxRecDepth 4000 in
theorem gC_Reader_nextLetter_L_ok {l : Launch} {D : va_G} {cI cZ : ClassId} {ad : Nat → Nat} : ∀ (n : Nat)  (z : sg_M) (r : Int32 × sg_M), gC_Reader_nextLetter_L n  z = some r → sg_G (eC l D cI cZ ad) yX5_nextLetter cX5_nextLetter 1 (some .int) 1 0 [(0, .ref (ad 1))] [] z (sg_is (some (.int r.1)) r.2) := by
  intro n
  induction n with
  | zero => intro  z r h; cases h
  | succ n ih =>
    intro  z r h
    unfold gC_Reader_nextLetter_L at h
    refine sg_aload_n (pn := 1) (i := 0) dX5_nextLetter_0 rfl rfl 0 rfl ?_
    refine gfC_1_5 (pn := 4) dX5_nextLetter_1 rfl lf_X5_35 ?_
    refine sg_aload_n (pn := 5) (i := 0) dX5_nextLetter_4 rfl rfl 0 rfl ?_
    refine gfC_1_1 (pn := 8) dX5_nextLetter_5 rfl lf_X5_26 ?_
    refine sg_icmp_ge (pn := 11) (tgt := 38) dX5_nextLetter_8 rfl (by decide) (fun hc => ?_) (fun hc => ?_)
    · have h := sg_ifp hc h
      refine sg_aload_n (pn := 39) (i := 0) dX5_nextLetter_38 rfl rfl 0 rfl ?_
      refine gfC_1_5 (pn := 42) dX5_nextLetter_39 rfl lf_X5_35 ?_
      refine sg_aload_n (pn := 43) (i := 0) dX5_nextLetter_42 rfl rfl 0 rfl ?_
      refine gfC_1_1 (pn := 46) dX5_nextLetter_43 rfl lf_X5_26 ?_
      refine sg_icmp_ge (pn := 49) (tgt := 61) dX5_nextLetter_46 rfl (by decide) (fun hc => ?_) (fun hc => ?_)
      · have h := sg_ifp hc h
        refine sg_iconst (pn := 62) dX5_nextLetter_61 rfl ic_m1 ?_
        obtain rfl := Option.some.inj h
        exact sg_iret dX5_nextLetter_62 rfl ⟨rfl, rfl⟩
      · have h := sg_ifn hc h
        refine sg_aload_n (pn := 50) (i := 0) dX5_nextLetter_49 rfl rfl 0 rfl ?_
        refine gfC_1_3 (pn := 53) dX5_nextLetter_50 rfl lf_X5_22 ?_
        refine sg_aload_n (pn := 54) (i := 0) dX5_nextLetter_53 rfl rfl 0 rfl ?_
        refine gfC_1_5 (pn := 57) dX5_nextLetter_54 rfl lf_X5_35 ?_
        obtain ⟨hg, h⟩ := sg_guard h
        refine alC_8 (pn := 58) dX5_nextLetter_57 rfl (sg_in_vp hg) ?_
        refine sg_goto (tgt := 62) dX5_nextLetter_58 (by decide) ?_
        obtain rfl := Option.some.inj h
        exact sg_iret dX5_nextLetter_62 rfl ⟨rfl, rfl⟩
    · have h := sg_ifn hc h
      refine sg_aload_n (pn := 12) (i := 0) dX5_nextLetter_11 rfl rfl 0 rfl ?_
      refine gfC_1_3 (pn := 15) dX5_nextLetter_12 rfl lf_X5_22 ?_
      refine sg_aload_n (pn := 16) (i := 0) dX5_nextLetter_15 rfl rfl 0 rfl ?_
      refine gfC_1_5 (pn := 19) dX5_nextLetter_16 rfl lf_X5_35 ?_
      obtain ⟨hg, h⟩ := sg_guard h
      refine alC_8 (pn := 20) dX5_nextLetter_19 rfl (sg_in_vp hg) ?_
      refine sg_bipush (pn := 22) dX5_nextLetter_20 rfl ib_32 ?_
      refine sg_icmp_ne (pn := 25) (tgt := 38) dX5_nextLetter_22 rfl (by decide) (fun hc => ?_) (fun hc => ?_)
      · have h := sg_ifn hc h
        refine sg_aload_n (pn := 39) (i := 0) dX5_nextLetter_38 rfl rfl 0 rfl ?_
        refine gfC_1_5 (pn := 42) dX5_nextLetter_39 rfl lf_X5_35 ?_
        refine sg_aload_n (pn := 43) (i := 0) dX5_nextLetter_42 rfl rfl 0 rfl ?_
        refine gfC_1_1 (pn := 46) dX5_nextLetter_43 rfl lf_X5_26 ?_
        refine sg_icmp_ge (pn := 49) (tgt := 61) dX5_nextLetter_46 rfl (by decide) (fun hc => ?_) (fun hc => ?_)
        · have h := sg_ifp hc h
          refine sg_iconst (pn := 62) dX5_nextLetter_61 rfl ic_m1 ?_
          obtain rfl := Option.some.inj h
          exact sg_iret dX5_nextLetter_62 rfl ⟨rfl, rfl⟩
        · have h := sg_ifn hc h
          refine sg_aload_n (pn := 50) (i := 0) dX5_nextLetter_49 rfl rfl 0 rfl ?_
          refine gfC_1_3 (pn := 53) dX5_nextLetter_50 rfl lf_X5_22 ?_
          refine sg_aload_n (pn := 54) (i := 0) dX5_nextLetter_53 rfl rfl 0 rfl ?_
          refine gfC_1_5 (pn := 57) dX5_nextLetter_54 rfl lf_X5_35 ?_
          obtain ⟨hg, h⟩ := sg_guard h
          refine alC_8 (pn := 58) dX5_nextLetter_57 rfl (sg_in_vp hg) ?_
          refine sg_goto (tgt := 62) dX5_nextLetter_58 (by decide) ?_
          obtain rfl := Option.some.inj h
          exact sg_iret dX5_nextLetter_62 rfl ⟨rfl, rfl⟩
      · have h := sg_ifp hc h
        refine sg_aload_n (pn := 26) (i := 0) dX5_nextLetter_25 rfl rfl 0 rfl ?_
        refine sg_dup (pn := 27) dX5_nextLetter_26 rfl rfl ?_
        refine gfC_1_5 (pn := 30) dX5_nextLetter_27 rfl lf_X5_35 ?_
        refine sg_iconst (pn := 31) dX5_nextLetter_30 rfl ic_1 ?_
        refine sg_iadd (pn := 32) dX5_nextLetter_31 rfl ?_
        refine pfC_1_5 (pn := 35) dX5_nextLetter_32 rfl lf_X5_35 ?_
        obtain ⟨z1, e_z1, h⟩ := sg_letE h
        refine sg_zE e_z1 ?_
        refine sg_goto (tgt := 0) dX5_nextLetter_35 (by decide) ?_
        exact ih _ _ h
set_option maxRecDepth 4000 in
theorem gC_Reader_nextLetter_ok {l : Launch} {D : va_G} {cI cZ : ClassId} {ad : Nat → Nat} {n : Nat} {z : sg_M} {r : Int32 × sg_M} (h : gC_Reader_nextLetter n z = some r) : sg_Met (eC l D cI cZ ad) yX5_nextLetter cX5_nextLetter 1 (some .int) 1 [.ref (ad 1)] z (sg_is (some (.int r.1)) r.2) := by
  refine sg_enter (lv0 := [(0, .ref (ad 1))]) pn_X5 (Nat.le_of_ble_eq_true rfl) rfl ?_
  unfold gC_Reader_nextLetter at h
  exact gC_Reader_nextLetter_L_ok n _ _ h
set_option maxRecDepth 4000 in
theorem gC_Reader_fail_ok {l : Launch} {D : va_G} {cI cZ : ClassId} {ad : Nat → Nat} {a1 : Int32} {a2 : Int32} {z : sg_M} {r : sg_M} (h : gC_Reader_fail a1 a2 z = some r) : sg_Met (eC l D cI cZ ad) yX5_fail cX5_fail 3 none 1 [.ref (ad 1), .int a1, .int a2] z (sg_is none r) := by
  refine sg_enter (lv0 := [(0, .ref (ad 1)), (1, .int a1), (2, .int a2)]) pn_X5 (Nat.le_of_ble_eq_true rfl) rfl ?_
  unfold gC_Reader_fail at h
  refine sg_aload_n (pn := 1) (i := 0) dX5_fail_0 rfl rfl 0 rfl ?_
  refine gfC_1_4 (pn := 4) dX5_fail_1 rfl lf_X5_32 ?_
  refine sg_if_ne (pn := 7) (tgt := 17) dX5_fail_4 rfl (by decide) (fun hc => ?_) (fun hc => ?_)
  · have h := sg_ifn hc h
    obtain rfl := Option.some.inj h
    exact sg_vret dX5_fail_17 rfl ⟨rfl, rfl⟩
  · have h := sg_ifp hc h
    refine sg_aload_n (pn := 8) (i := 0) dX5_fail_7 rfl rfl 0 rfl ?_
    refine sg_iload_n (pn := 9) (i := 1) dX5_fail_8 rfl rfl 1 rfl ?_
    refine pfC_1_4 (pn := 12) dX5_fail_9 rfl lf_X5_32 ?_
    obtain ⟨z1, e_z1, h⟩ := sg_letE h
    refine sg_zE e_z1 ?_
    refine sg_aload_n (pn := 13) (i := 0) dX5_fail_12 rfl rfl 0 rfl ?_
    refine sg_iload_n (pn := 14) (i := 2) dX5_fail_13 rfl rfl 2 rfl ?_
    refine pfC_1_2 (pn := 17) dX5_fail_14 rfl lf_X5_18 ?_
    obtain ⟨z2, e_z2, h⟩ := sg_letE h
    refine sg_zE e_z2 ?_
    obtain rfl := Option.some.inj h
    exact sg_vret dX5_fail_17 rfl ⟨rfl, rfl⟩
set_option maxRecDepth 4000 in
theorem gC_Reader_isOneTooMany_ok {l : Launch} {D : va_G} {cI cZ : ClassId} {ad : Nat → Nat} {a1 : Int32} {z : sg_M} {r : Int32} (h : gC_Reader_isOneTooMany a1 z = some r) : sg_Met (eC l D cI cZ ad) yX5_isOneTooMany cX5_isOneTooMany 2 (some .boolean) 1 [.ref (ad 1), .int a1] z (sg_is (some (.int r)) z) := by
  refine sg_enter (lv0 := [(0, .ref (ad 1)), (1, .int a1)]) pn_X5 (Nat.le_of_ble_eq_true rfl) rfl ?_
  unfold gC_Reader_isOneTooMany at h
  refine sg_iload_n (pn := 1) (i := 1) dX5_isOneTooMany_0 rfl rfl 1 rfl ?_
  refine sg_bipush (pn := 3) dX5_isOneTooMany_1 rfl ib_114 ?_
  refine sg_icmp_ne (pn := 6) (tgt := 22) dX5_isOneTooMany_3 rfl (by decide) (fun hc => ?_) (fun hc => ?_)
  · have h := sg_ifn hc h
    refine sg_iload_n (pn := 23) (i := 1) dX5_isOneTooMany_22 rfl rfl 1 rfl ?_
    refine sg_bipush (pn := 25) dX5_isOneTooMany_23 rfl ib_119 ?_
    refine sg_icmp_ne (pn := 28) (tgt := 35) dX5_isOneTooMany_25 rfl (by decide) (fun hc => ?_) (fun hc => ?_)
    · have h := sg_ifn hc h
      refine sg_aload_n (pn := 36) (i := 0) dX5_isOneTooMany_35 rfl rfl 0 rfl ?_
      refine gfC_1_0 (pn := 39) dX5_isOneTooMany_36 rfl lf_X5_12 ?_
      refine gfC_2_2 (pn := 42) dX5_isOneTooMany_39 rfl lf_X5_64 ?_
      refine sg_bipush (pn := 44) dX5_isOneTooMany_42 rfl ib_8 ?_
      refine sg_icmp_lt (pn := 47) (tgt := 51) dX5_isOneTooMany_44 rfl (by decide) (fun hc => ?_) (fun hc => ?_)
      · have h := sg_ifp hc h
        refine sg_iconst (pn := 52) dX5_isOneTooMany_51 rfl ic_0 ?_
        obtain rfl := Option.some.inj h
        exact sg_zret dX5_isOneTooMany_52 rfl rfl ⟨rfl, rfl⟩
      · have h := sg_ifn hc h
        refine sg_iconst (pn := 48) dX5_isOneTooMany_47 rfl ic_1 ?_
        refine sg_goto (tgt := 52) dX5_isOneTooMany_48 (by decide) ?_
        obtain rfl := Option.some.inj h
        exact sg_zret dX5_isOneTooMany_52 rfl rfl ⟨rfl, rfl⟩
    · have h := sg_ifp hc h
      refine sg_aload_n (pn := 29) (i := 0) dX5_isOneTooMany_28 rfl rfl 0 rfl ?_
      refine gfC_1_6 (pn := 32) dX5_isOneTooMany_29 rfl lf_X5_38 ?_
      refine sg_goto (tgt := 52) dX5_isOneTooMany_32 (by decide) ?_
      obtain ⟨hg, h⟩ := sg_guard h
      obtain rfl := Option.some.inj h
      exact sg_zret dX5_isOneTooMany_52 rfl (sg_bool_n hg) ⟨rfl, rfl⟩
  · have h := sg_ifp hc h
    refine sg_aload_n (pn := 7) (i := 0) dX5_isOneTooMany_6 rfl rfl 0 rfl ?_
    refine gfC_1_0 (pn := 10) dX5_isOneTooMany_7 rfl lf_X5_12 ?_
    refine gfC_2_0 (pn := 13) dX5_isOneTooMany_10 rfl lf_X5_49 ?_
    refine sg_if_le (pn := 16) (tgt := 20) dX5_isOneTooMany_13 rfl (by decide) (fun hc => ?_) (fun hc => ?_)
    · have h := sg_ifp hc h
      refine sg_iconst (pn := 21) dX5_isOneTooMany_20 rfl ic_0 ?_
      obtain rfl := Option.some.inj h
      exact sg_zret dX5_isOneTooMany_21 rfl rfl ⟨rfl, rfl⟩
    · have h := sg_ifn hc h
      refine sg_iconst (pn := 17) dX5_isOneTooMany_16 rfl ic_1 ?_
      refine sg_goto (tgt := 21) dX5_isOneTooMany_17 (by decide) ?_
      obtain rfl := Option.some.inj h
      exact sg_zret dX5_isOneTooMany_21 rfl rfl ⟨rfl, rfl⟩
set_option maxRecDepth 4000 in
theorem gC_Reader_isFigure_ok {l : Launch} {D : va_G} {cI cZ : ClassId} {ad : Nat → Nat} {a1 : Int32} {z : sg_M} {r : Int32} (h : gC_Reader_isFigure a1 = r) : sg_Met (eC l D cI cZ ad) yX5_isFigure cX5_isFigure 2 (some .boolean) 1 [.ref (ad 1), .int a1] z (sg_is (some (.int r)) z) := by
  refine sg_enter (lv0 := [(0, .ref (ad 1)), (1, .int a1)]) pn_X5 (Nat.le_of_ble_eq_true rfl) rfl ?_
  unfold gC_Reader_isFigure at h
  refine sg_iload_n (pn := 1) (i := 1) dX5_isFigure_0 rfl rfl 1 rfl ?_
  refine sg_bipush (pn := 3) dX5_isFigure_1 rfl ib_48 ?_
  refine sg_icmp_lt (pn := 6) (tgt := 16) dX5_isFigure_3 rfl (by decide) (fun hc => ?_) (fun hc => ?_)
  · have h := sg_ifp hc h
    refine sg_iconst (pn := 17) dX5_isFigure_16 rfl ic_0 ?_
    subst h
    exact sg_zret dX5_isFigure_17 rfl rfl ⟨rfl, rfl⟩
  · have h := sg_ifn hc h
    refine sg_iload_n (pn := 7) (i := 1) dX5_isFigure_6 rfl rfl 1 rfl ?_
    refine sg_bipush (pn := 9) dX5_isFigure_7 rfl ib_57 ?_
    refine sg_icmp_gt (pn := 12) (tgt := 16) dX5_isFigure_9 rfl (by decide) (fun hc => ?_) (fun hc => ?_)
    · have h := sg_ifp hc h
      refine sg_iconst (pn := 17) dX5_isFigure_16 rfl ic_0 ?_
      subst h
      exact sg_zret dX5_isFigure_17 rfl rfl ⟨rfl, rfl⟩
    · have h := sg_ifn hc h
      refine sg_iconst (pn := 13) dX5_isFigure_12 rfl ic_1 ?_
      refine sg_goto (tgt := 17) dX5_isFigure_13 (by decide) ?_
      subst h
      exact sg_zret dX5_isFigure_17 rfl rfl ⟨rfl, rfl⟩
set_option maxRecDepth 4000 in
theorem gC_Reader_readNumber_L_ok {l : Launch} {D : va_G} {cI cZ : ClassId} {ad : Nat → Nat} : ∀ (n : Nat) (v1 : Int32) (v2 : Int32) (v3 : Int32) (v4 : Int32) (z : sg_M) (r : Int32 × sg_M), gC_Reader_readNumber_L n v1 v2 v3 v4 z = some r → sg_G (eC l D cI cZ ad) yX5_readNumber cX5_readNumber 5 (some .int) 2 30 [(0, .ref (ad 1)), (1, .int v1), (2, .int v2), (3, .int v3), (4, .int v4)] [] z (sg_is (some (.int r.1)) r.2) := by
  intro n
  induction n with
  | zero => intro v1 v2 v3 v4 z r h; cases h
  | succ n ih =>
    intro v1 v2 v3 v4 z r h
    unfold gC_Reader_readNumber_L at h
    refine sg_aload_n (pn := 31) (i := 0) dX5_readNumber_30 rfl rfl 0 rfl ?_
    refine gfC_1_5 (pn := 34) dX5_readNumber_31 rfl lf_X5_35 ?_
    refine sg_aload_n (pn := 35) (i := 0) dX5_readNumber_34 rfl rfl 0 rfl ?_
    refine gfC_1_1 (pn := 38) dX5_readNumber_35 rfl lf_X5_26 ?_
    refine sg_icmp_ge (pn := 41) (tgt := 100) dX5_readNumber_38 rfl (by decide) (fun hc => ?_) (fun hc => ?_)
    · have h := sg_ifp hc h
      refine sg_aload_n (pn := 101) (i := 0) dX5_readNumber_100 rfl rfl 0 rfl ?_
      refine gfC_1_5 (pn := 104) dX5_readNumber_101 rfl lf_X5_35 ?_
      refine sg_iload_n (pn := 105) (i := 3) dX5_readNumber_104 rfl rfl 3 rfl ?_
      refine sg_isub (pn := 106) dX5_readNumber_105 rfl ?_
      refine sg_iconst (pn := 107) dX5_readNumber_106 rfl ic_3 ?_
      obtain ⟨t7, e_t7, h2⟩ := sg_bind h
      have hm_t7 : sg_G (eC l D cI cZ ad) yX5_readNumber cX5_readNumber 5 (some .int) 2 128 [(4, .int v4)] [] t7 (sg_is (some (.int r.1)) r.2) := by
        have h := h2
        refine sg_iload (pn := 130) (i := 4) dX5_readNumber_128 rfl 0 rfl ?_
        obtain rfl := Option.some.inj h
        exact sg_iret dX5_readNumber_130 rfl ⟨rfl, rfl⟩
      have h := e_t7
      refine sg_icmp_gt (pn := 110) (tgt := 122) dX5_readNumber_107 rfl (by decide) (fun hc => ?_) (fun hc => ?_)
      · have h := sg_ifp hc h
        refine sg_aload_n (pn := 123) (i := 0) dX5_readNumber_122 rfl rfl 0 rfl ?_
        refine sg_iconst (pn := 124) dX5_readNumber_123 rfl ic_2 ?_
        refine sg_iload_n (pn := 125) (i := 3) dX5_readNumber_124 rfl rfl 3 rfl ?_
        obtain ⟨r4, h_r4, h⟩ := sg_bind h
        refine sg_callVv (pn := 128) (rest := []) 1 dX5_readNumber_125 rfl kb_X5_52 kv_X5_fail (by exact rfl) rfl (Nat.le_of_ble_eq_true rfl) (gC_Reader_fail_ok h_r4) rfl rfl (Nat.le_of_ble_eq_true rfl) ?_
        obtain rfl := Option.some.inj h
        refine sg_sub [4] rfl ?_
        exact hm_t7
      · have h := sg_ifn hc h
        refine sg_iload (pn := 112) (i := 4) dX5_readNumber_110 rfl 4 rfl ?_
        refine sg_iload_n (pn := 113) (i := 1) dX5_readNumber_112 rfl rfl 1 rfl ?_
        refine sg_icmp_lt (pn := 116) (tgt := 122) dX5_readNumber_113 rfl (by decide) (fun hc => ?_) (fun hc => ?_)
        · have h := sg_ifp hc h
          refine sg_aload_n (pn := 123) (i := 0) dX5_readNumber_122 rfl rfl 0 rfl ?_
          refine sg_iconst (pn := 124) dX5_readNumber_123 rfl ic_2 ?_
          refine sg_iload_n (pn := 125) (i := 3) dX5_readNumber_124 rfl rfl 3 rfl ?_
          obtain ⟨r5, h_r5, h⟩ := sg_bind h
          refine sg_callVv (pn := 128) (rest := []) 1 dX5_readNumber_125 rfl kb_X5_52 kv_X5_fail (by exact rfl) rfl (Nat.le_of_ble_eq_true rfl) (gC_Reader_fail_ok h_r5) rfl rfl (Nat.le_of_ble_eq_true rfl) ?_
          obtain rfl := Option.some.inj h
          refine sg_sub [4] rfl ?_
          exact hm_t7
        · have h := sg_ifn hc h
          refine sg_iload (pn := 118) (i := 4) dX5_readNumber_116 rfl 4 rfl ?_
          refine sg_iload_n (pn := 119) (i := 2) dX5_readNumber_118 rfl rfl 2 rfl ?_
          refine sg_icmp_le (pn := 122) (tgt := 128) dX5_readNumber_119 rfl (by decide) (fun hc => ?_) (fun hc => ?_)
          · have h := sg_ifp hc h
            obtain rfl := Option.some.inj h
            refine sg_sub [4] rfl ?_
            exact hm_t7
          · have h := sg_ifn hc h
            refine sg_aload_n (pn := 123) (i := 0) dX5_readNumber_122 rfl rfl 0 rfl ?_
            refine sg_iconst (pn := 124) dX5_readNumber_123 rfl ic_2 ?_
            refine sg_iload_n (pn := 125) (i := 3) dX5_readNumber_124 rfl rfl 3 rfl ?_
            obtain ⟨r6, h_r6, h⟩ := sg_bind h
            refine sg_callVv (pn := 128) (rest := []) 1 dX5_readNumber_125 rfl kb_X5_52 kv_X5_fail (by exact rfl) rfl (Nat.le_of_ble_eq_true rfl) (gC_Reader_fail_ok h_r6) rfl rfl (Nat.le_of_ble_eq_true rfl) ?_
            obtain rfl := Option.some.inj h
            refine sg_sub [4] rfl ?_
            exact hm_t7
    · have h := sg_ifn hc h
      refine sg_aload_n (pn := 42) (i := 0) dX5_readNumber_41 rfl rfl 0 rfl ?_
      refine sg_aload_n (pn := 43) (i := 0) dX5_readNumber_42 rfl rfl 0 rfl ?_
      refine gfC_1_3 (pn := 46) dX5_readNumber_43 rfl lf_X5_22 ?_
      refine sg_aload_n (pn := 47) (i := 0) dX5_readNumber_46 rfl rfl 0 rfl ?_
      refine gfC_1_5 (pn := 50) dX5_readNumber_47 rfl lf_X5_35 ?_
      obtain ⟨hg, h⟩ := sg_guard h
      refine alC_8 (pn := 51) dX5_readNumber_50 rfl (sg_in_vp hg) ?_
      refine sg_callVi (pn := 54) (rest := []) 1 dX5_readNumber_51 rfl kb_X5_96 kv_X5_isFigure (by exact rfl) rfl (Nat.le_of_ble_eq_true rfl) (gC_Reader_isFigure_ok rfl) rfl rfl (Nat.le_of_ble_eq_true rfl) ?_
      refine sg_if_eq (pn := 57) (tgt := 100) dX5_readNumber_54 rfl (by decide) (fun hc => ?_) (fun hc => ?_)
      · have h := sg_ifp hc h
        refine sg_aload_n (pn := 101) (i := 0) dX5_readNumber_100 rfl rfl 0 rfl ?_
        refine gfC_1_5 (pn := 104) dX5_readNumber_101 rfl lf_X5_35 ?_
        refine sg_iload_n (pn := 105) (i := 3) dX5_readNumber_104 rfl rfl 3 rfl ?_
        refine sg_isub (pn := 106) dX5_readNumber_105 rfl ?_
        refine sg_iconst (pn := 107) dX5_readNumber_106 rfl ic_3 ?_
        obtain ⟨t11, e_t11, h2⟩ := sg_bind h
        have hm_t11 : sg_G (eC l D cI cZ ad) yX5_readNumber cX5_readNumber 5 (some .int) 2 128 [(4, .int v4)] [] t11 (sg_is (some (.int r.1)) r.2) := by
          have h := h2
          refine sg_iload (pn := 130) (i := 4) dX5_readNumber_128 rfl 0 rfl ?_
          obtain rfl := Option.some.inj h
          exact sg_iret dX5_readNumber_130 rfl ⟨rfl, rfl⟩
        have h := e_t11
        refine sg_icmp_gt (pn := 110) (tgt := 122) dX5_readNumber_107 rfl (by decide) (fun hc => ?_) (fun hc => ?_)
        · have h := sg_ifp hc h
          refine sg_aload_n (pn := 123) (i := 0) dX5_readNumber_122 rfl rfl 0 rfl ?_
          refine sg_iconst (pn := 124) dX5_readNumber_123 rfl ic_2 ?_
          refine sg_iload_n (pn := 125) (i := 3) dX5_readNumber_124 rfl rfl 3 rfl ?_
          obtain ⟨r8, h_r8, h⟩ := sg_bind h
          refine sg_callVv (pn := 128) (rest := []) 1 dX5_readNumber_125 rfl kb_X5_52 kv_X5_fail (by exact rfl) rfl (Nat.le_of_ble_eq_true rfl) (gC_Reader_fail_ok h_r8) rfl rfl (Nat.le_of_ble_eq_true rfl) ?_
          obtain rfl := Option.some.inj h
          refine sg_sub [4] rfl ?_
          exact hm_t11
        · have h := sg_ifn hc h
          refine sg_iload (pn := 112) (i := 4) dX5_readNumber_110 rfl 4 rfl ?_
          refine sg_iload_n (pn := 113) (i := 1) dX5_readNumber_112 rfl rfl 1 rfl ?_
          refine sg_icmp_lt (pn := 116) (tgt := 122) dX5_readNumber_113 rfl (by decide) (fun hc => ?_) (fun hc => ?_)
          · have h := sg_ifp hc h
            refine sg_aload_n (pn := 123) (i := 0) dX5_readNumber_122 rfl rfl 0 rfl ?_
            refine sg_iconst (pn := 124) dX5_readNumber_123 rfl ic_2 ?_
            refine sg_iload_n (pn := 125) (i := 3) dX5_readNumber_124 rfl rfl 3 rfl ?_
            obtain ⟨r9, h_r9, h⟩ := sg_bind h
            refine sg_callVv (pn := 128) (rest := []) 1 dX5_readNumber_125 rfl kb_X5_52 kv_X5_fail (by exact rfl) rfl (Nat.le_of_ble_eq_true rfl) (gC_Reader_fail_ok h_r9) rfl rfl (Nat.le_of_ble_eq_true rfl) ?_
            obtain rfl := Option.some.inj h
            refine sg_sub [4] rfl ?_
            exact hm_t11
          · have h := sg_ifn hc h
            refine sg_iload (pn := 118) (i := 4) dX5_readNumber_116 rfl 4 rfl ?_
            refine sg_iload_n (pn := 119) (i := 2) dX5_readNumber_118 rfl rfl 2 rfl ?_
            refine sg_icmp_le (pn := 122) (tgt := 128) dX5_readNumber_119 rfl (by decide) (fun hc => ?_) (fun hc => ?_)
            · have h := sg_ifp hc h
              obtain rfl := Option.some.inj h
              refine sg_sub [4] rfl ?_
              exact hm_t11
            · have h := sg_ifn hc h
              refine sg_aload_n (pn := 123) (i := 0) dX5_readNumber_122 rfl rfl 0 rfl ?_
              refine sg_iconst (pn := 124) dX5_readNumber_123 rfl ic_2 ?_
              refine sg_iload_n (pn := 125) (i := 3) dX5_readNumber_124 rfl rfl 3 rfl ?_
              obtain ⟨r10, h_r10, h⟩ := sg_bind h
              refine sg_callVv (pn := 128) (rest := []) 1 dX5_readNumber_125 rfl kb_X5_52 kv_X5_fail (by exact rfl) rfl (Nat.le_of_ble_eq_true rfl) (gC_Reader_fail_ok h_r10) rfl rfl (Nat.le_of_ble_eq_true rfl) ?_
              obtain rfl := Option.some.inj h
              refine sg_sub [4] rfl ?_
              exact hm_t11
      · have h := sg_ifn hc h
        refine sg_aload_n (pn := 58) (i := 0) dX5_readNumber_57 rfl rfl 0 rfl ?_
        refine gfC_1_5 (pn := 61) dX5_readNumber_58 rfl lf_X5_35 ?_
        refine sg_iload_n (pn := 62) (i := 3) dX5_readNumber_61 rfl rfl 3 rfl ?_
        refine sg_isub (pn := 63) dX5_readNumber_62 rfl ?_
        refine sg_iconst (pn := 64) dX5_readNumber_63 rfl ic_3 ?_
        obtain ⟨t13, e_t13, h2⟩ := sg_bind h
        have hm_t13 : sg_G (eC l D cI cZ ad) yX5_readNumber cX5_readNumber 5 (some .int) 2 87 [(0, .ref (ad 1)), (1, .int v1), (2, .int v2), (3, .int v3), (4, .int t13)] [] z (sg_is (some (.int r.1)) r.2) := by
          have h := h2
          refine sg_aload_n (pn := 88) (i := 0) dX5_readNumber_87 rfl rfl 0 rfl ?_
          refine sg_dup (pn := 89) dX5_readNumber_88 rfl rfl ?_
          refine gfC_1_5 (pn := 92) dX5_readNumber_89 rfl lf_X5_35 ?_
          refine sg_iconst (pn := 93) dX5_readNumber_92 rfl ic_1 ?_
          refine sg_iadd (pn := 94) dX5_readNumber_93 rfl ?_
          refine pfC_1_5 (pn := 97) dX5_readNumber_94 rfl lf_X5_35 ?_
          obtain ⟨z14, e_z14, h⟩ := sg_letE h
          refine sg_zE e_z14 ?_
          refine sg_goto (tgt := 30) dX5_readNumber_97 (by decide) ?_
          exact ih _ _ _ _ _ _ h
        have h := e_t13
        refine sg_icmp_ge (pn := 67) (tgt := 87) dX5_readNumber_64 rfl (by decide) (fun hc => ?_) (fun hc => ?_)
        · have h := sg_ifp hc h
          obtain rfl := Option.some.inj h
          exact hm_t13
        · have h := sg_ifn hc h
          refine sg_iload (pn := 69) (i := 4) dX5_readNumber_67 rfl 4 rfl ?_
          refine sg_bipush (pn := 71) dX5_readNumber_69 rfl ib_10 ?_
          refine sg_imul (pn := 72) dX5_readNumber_71 rfl ?_
          refine sg_aload_n (pn := 73) (i := 0) dX5_readNumber_72 rfl rfl 0 rfl ?_
          refine gfC_1_3 (pn := 76) dX5_readNumber_73 rfl lf_X5_22 ?_
          refine sg_aload_n (pn := 77) (i := 0) dX5_readNumber_76 rfl rfl 0 rfl ?_
          refine gfC_1_5 (pn := 80) dX5_readNumber_77 rfl lf_X5_35 ?_
          obtain ⟨hg, h⟩ := sg_guard h
          refine alC_8 (pn := 81) dX5_readNumber_80 rfl (sg_in_vp hg) ?_
          refine sg_iadd (pn := 82) dX5_readNumber_81 rfl ?_
          refine sg_bipush (pn := 84) dX5_readNumber_82 rfl ib_48 ?_
          refine sg_isub (pn := 85) dX5_readNumber_84 rfl ?_
          obtain ⟨v4_12, e_v4_12, h⟩ := sg_letE h
          refine sg_topi e_v4_12 ?_
          refine sg_istore (pn := 87) (i := 4) (lv' := [(0, .ref (ad 1)), (1, .int v1), (2, .int v2), (3, .int v3), (4, .int v4_12)]) dX5_readNumber_85 rfl (Nat.le_of_ble_eq_true rfl) [1, 2, 3, 4, 0] rfl ?_
          obtain rfl := Option.some.inj h
          exact hm_t13
set_option maxRecDepth 4000 in
theorem gC_Reader_readNumber_ok {l : Launch} {D : va_G} {cI cZ : ClassId} {ad : Nat → Nat} {n : Nat} {a1 : Int32} {a2 : Int32} {z : sg_M} {r : Int32 × sg_M} (h : gC_Reader_readNumber n a1 a2 z = some r) : sg_Met (eC l D cI cZ ad) yX5_readNumber cX5_readNumber 5 (some .int) 2 [.ref (ad 1), .int a1, .int a2] z (sg_is (some (.int r.1)) r.2) := by
  refine sg_enter (lv0 := [(0, .ref (ad 1)), (1, .int a1), (2, .int a2)]) pn_X5 (Nat.le_of_ble_eq_true rfl) rfl ?_
  unfold gC_Reader_readNumber at h
  refine sg_aload_n (pn := 1) (i := 0) dX5_readNumber_0 rfl rfl 0 rfl ?_
  refine sg_aload_n (pn := 2) (i := 0) dX5_readNumber_1 rfl rfl 0 rfl ?_
  obtain ⟨r1, h_r1, h⟩ := sg_bind h
  refine sg_callVi (pn := 5) (rest := [.ref (ad 1)]) 1 dX5_readNumber_2 rfl kb_X5_42 kv_X5_nextLetter (by exact rfl) rfl (Nat.le_of_ble_eq_true rfl) (gC_Reader_nextLetter_ok h_r1) rfl rfl (Nat.le_of_ble_eq_true rfl) ?_
  refine sg_callVi (pn := 8) (rest := []) 1 dX5_readNumber_5 rfl kb_X5_96 kv_X5_isFigure (by exact rfl) rfl (Nat.le_of_ble_eq_true rfl) (gC_Reader_isFigure_ok rfl) rfl rfl (Nat.le_of_ble_eq_true rfl) ?_
  refine sg_if_ne (pn := 11) (tgt := 22) dX5_readNumber_8 rfl (by decide) (fun hc => ?_) (fun hc => ?_)
  · have h := sg_ifn hc h
    refine sg_aload_n (pn := 23) (i := 0) dX5_readNumber_22 rfl rfl 0 rfl ?_
    refine gfC_1_5 (pn := 26) dX5_readNumber_23 rfl lf_X5_35 ?_
    obtain ⟨v3_2, e_v3_2, h⟩ := sg_letE h
    refine sg_topi e_v3_2 ?_
    refine sg_istore_n (pn := 27) (i := 3) (lv' := [(0, .ref (ad 1)), (1, .int a1), (2, .int a2), (3, .int v3_2)]) dX5_readNumber_26 rfl rfl (Nat.le_of_ble_eq_true rfl) [1, 2, 3, 0] rfl ?_
    refine sg_iconst (pn := 28) dX5_readNumber_27 rfl ic_0 ?_
    refine sg_istore (pn := 30) (i := 4) (lv' := [(0, .ref (ad 1)), (1, .int a1), (2, .int a2), (3, .int v3_2), (4, .int (0 : Int32))]) dX5_readNumber_28 rfl (Nat.le_of_ble_eq_true rfl) [1, 2, 3, 4, 0] rfl ?_
    exact gC_Reader_readNumber_L_ok n _ _ _ _ _ _ h
  · have h := sg_ifp hc h
    refine sg_aload_n (pn := 12) (i := 0) dX5_readNumber_11 rfl rfl 0 rfl ?_
    refine sg_iconst (pn := 13) dX5_readNumber_12 rfl ic_1 ?_
    refine sg_aload_n (pn := 14) (i := 0) dX5_readNumber_13 rfl rfl 0 rfl ?_
    refine gfC_1_5 (pn := 17) dX5_readNumber_14 rfl lf_X5_35 ?_
    obtain ⟨r3, h_r3, h⟩ := sg_bind h
    refine sg_callVv (pn := 20) (rest := []) 1 dX5_readNumber_17 rfl kb_X5_52 kv_X5_fail (by exact rfl) rfl (Nat.le_of_ble_eq_true rfl) (gC_Reader_fail_ok h_r3) rfl rfl (Nat.le_of_ble_eq_true rfl) ?_
    refine sg_iconst (pn := 21) dX5_readNumber_20 rfl ic_0 ?_
    obtain rfl := Option.some.inj h
    exact sg_iret dX5_readNumber_21 rfl ⟨rfl, rfl⟩
set_option maxRecDepth 4000 in
theorem gC_Reader_readRow_1_3_L_ok {l : Launch} {D : va_G} {cI cZ : ClassId} {ad : Nat → Nat} : ∀ (n : Nat) (v2 : Int32) (v3 : Int32) (v4 : Int32) (v5 : Int32) (z : sg_M) (r : Int32 × sg_M), gC_Reader_readRow_1_3_L n v2 v3 v4 v5 z = some r → sg_G (eC l D cI cZ ad) yX5_readRow cX5_readRow 9 (some .int) 3 3 [(0, .ref (ad 1)), (1, .ref (ad 3)), (2, .int v2), (3, .int v3), (4, .int v4), (5, .int v5)] [] z (sg_is (some (.int r.1)) r.2) := by
  intro n
  induction n with
  | zero => intro v2 v3 v4 v5 z r h; cases h
  | succ n ih =>
    intro v2 v3 v4 v5 z r h
    unfold gC_Reader_readRow_1_3_L at h
    refine sg_iload (pn := 5) (i := 5) dX5_readRow_3 rfl 5 rfl ?_
    refine sg_iload_n (pn := 6) (i := 3) dX5_readRow_5 rfl rfl 3 rfl ?_
    refine sg_icmp_ge (pn := 9) (tgt := 133) dX5_readRow_6 rfl (by decide) (fun hc => ?_) (fun hc => ?_)
    · have h := sg_ifp hc h
      refine sg_iconst (pn := 134) dX5_readRow_133 rfl ic_0 ?_
      obtain rfl := Option.some.inj h
      exact sg_iret dX5_readRow_134 rfl ⟨rfl, rfl⟩
    · have h := sg_ifn hc h
      refine sg_iload (pn := 11) (i := 5) dX5_readRow_9 rfl 5 rfl ?_
      refine sg_aload_n (pn := 12) (i := 1) dX5_readRow_11 rfl rfl 1 rfl ?_
      refine anC_3 (pn := 13) dX5_readRow_12 rfl ?_
      refine sg_icmp_ge (pn := 16) (tgt := 133) dX5_readRow_13 rfl (by decide) (fun hc => ?_) (fun hc => ?_)
      · have h := sg_ifp hc h
        refine sg_iconst (pn := 134) dX5_readRow_133 rfl ic_0 ?_
        obtain rfl := Option.some.inj h
        exact sg_iret dX5_readRow_134 rfl ⟨rfl, rfl⟩
      · have h := sg_ifn hc h
        refine sg_aload_n (pn := 17) (i := 1) dX5_readRow_16 rfl rfl 1 rfl ?_
        refine sg_iload (pn := 19) (i := 5) dX5_readRow_17 rfl 5 rfl ?_
        refine sg_aload_n (pn := 20) (i := 0) dX5_readRow_19 rfl rfl 0 rfl ?_
        refine sg_iconst (pn := 21) dX5_readRow_20 rfl ic_0 ?_
        refine sg_iload (pn := 23) (i := 4) dX5_readRow_21 rfl 4 rfl ?_
        obtain ⟨r1, h_r1, h⟩ := sg_bind h
        refine sg_callVi (pn := 26) (rest := [.int v5, .ref (ad 3)]) 1 dX5_readRow_23 rfl kb_X5_83 kv_X5_readNumber (by exact rfl) rfl (Nat.le_of_ble_eq_true rfl) (gC_Reader_readNumber_ok h_r1) rfl rfl (Nat.le_of_ble_eq_true rfl) ?_
        obtain ⟨hg, h⟩ := sg_guard h
        refine asC_3 (pn := 27) dX5_readRow_26 rfl (sg_in_vp hg) ?_
        obtain ⟨z2, e_z2, h⟩ := sg_letE h
        refine sg_zE e_z2 ?_
        refine sg_aload_n (pn := 28) (i := 0) dX5_readRow_27 rfl rfl 0 rfl ?_
        refine gfC_1_4 (pn := 31) dX5_readRow_28 rfl lf_X5_32 ?_
        refine sg_if_eq (pn := 34) (tgt := 36) dX5_readRow_31 rfl (by decide) (fun hc => ?_) (fun hc => ?_)
        · have h := sg_ifp hc h
          refine sg_aload_n (pn := 37) (i := 0) dX5_readRow_36 rfl rfl 0 rfl ?_
          obtain ⟨r3, h_r3, h⟩ := sg_bind h
          refine sg_callVi (pn := 40) (rest := []) 1 dX5_readRow_37 rfl kb_X5_42 kv_X5_nextLetter (by exact rfl) rfl (Nat.le_of_ble_eq_true rfl) (gC_Reader_nextLetter_ok h_r3) rfl rfl (Nat.le_of_ble_eq_true rfl) ?_
          refine sg_istore (pn := 42) (i := 6) (lv' := [(0, .ref (ad 1)), (1, .ref (ad 3)), (2, .int v2), (3, .int v3), (4, .int v4), (5, .int v5), (6, .int r3.1)]) dX5_readRow_40 rfl (Nat.le_of_ble_eq_true rfl) [1, 2, 3, 4, 5, 6, 0] rfl ?_
          refine sg_iload (pn := 44) (i := 6) dX5_readRow_42 rfl 6 rfl ?_
          refine sg_bipush (pn := 46) dX5_readRow_44 rfl ib_59 ?_
          obtain ⟨t4, e_t4, h2⟩ := sg_letJ h
          have hm_t4 : sg_G (eC l D cI cZ ad) yX5_readRow cX5_readRow 9 (some .int) 3 62 [(0, .ref (ad 1)), (1, .ref (ad 3)), (2, .int v2), (3, .int v3), (4, .int v4), (5, .int v5), (6, .int r3.1)] [.int t4] r3.2 (sg_is (some (.int r.1)) r.2) := by
            have h := h2
            refine sg_istore (pn := 64) (i := 7) (lv' := [(0, .ref (ad 1)), (1, .ref (ad 3)), (2, .int v2), (3, .int v3), (4, .int v4), (5, .int v5), (6, .int r3.1), (7, .int t4)]) dX5_readRow_62 rfl (Nat.le_of_ble_eq_true rfl) [1, 2, 3, 4, 5, 6, 7, 0] rfl ?_
            refine sg_iload (pn := 66) (i := 6) dX5_readRow_64 rfl 6 rfl ?_
            refine sg_bipush (pn := 68) dX5_readRow_66 rfl ib_44 ?_
            obtain ⟨t5, e_t5, h2⟩ := sg_letJ h
            have hm_t5 : sg_G (eC l D cI cZ ad) yX5_readRow cX5_readRow 9 (some .int) 3 84 [(0, .ref (ad 1)), (1, .ref (ad 3)), (2, .int v2), (3, .int v3), (4, .int v4), (5, .int v5), (7, .int t4)] [.int t5] r3.2 (sg_is (some (.int r.1)) r.2) := by
              have h := h2
              refine sg_istore (pn := 86) (i := 8) (lv' := [(0, .ref (ad 1)), (1, .ref (ad 3)), (2, .int v2), (3, .int v3), (4, .int v4), (5, .int v5), (7, .int t4), (8, .int t5)]) dX5_readRow_84 rfl (Nat.le_of_ble_eq_true rfl) [1, 2, 3, 4, 5, 6, 7, 0] rfl ?_
              refine sg_iload (pn := 88) (i := 7) dX5_readRow_86 rfl 6 rfl ?_
              refine sg_if_ne (pn := 91) (tgt := 107) dX5_readRow_88 rfl (by decide) (fun hc => ?_) (fun hc => ?_)
              · have h := sg_ifn hc h
                refine sg_aload_n (pn := 108) (i := 0) dX5_readRow_107 rfl rfl 0 rfl ?_
                refine sg_dup (pn := 109) dX5_readRow_108 rfl rfl ?_
                refine gfC_1_5 (pn := 112) dX5_readRow_109 rfl lf_X5_35 ?_
                refine sg_iconst (pn := 113) dX5_readRow_112 rfl ic_1 ?_
                refine sg_iadd (pn := 114) dX5_readRow_113 rfl ?_
                refine pfC_1_5 (pn := 117) dX5_readRow_114 rfl lf_X5_35 ?_
                obtain ⟨z6, e_z6, h⟩ := sg_letE h
                refine sg_zE e_z6 ?_
                refine sg_iload (pn := 119) (i := 7) dX5_readRow_117 rfl 6 rfl ?_
                refine sg_if_eq (pn := 122) (tgt := 127) dX5_readRow_119 rfl (by decide) (fun hc => ?_) (fun hc => ?_)
                · have h := sg_ifp hc h
                  refine sg_iinc (pn := 130) (i := 5) (lv' := [(0, .ref (ad 1)), (1, .ref (ad 3)), (2, .int v2), (3, .int v3), (4, .int v4), (5, .int (v5 + (1 : Int32))), (7, .int t4), (8, .int t5)]) dX5_readRow_127 rfl 5 rfl (ii_1 _) (Nat.le_of_ble_eq_true rfl) [1, 2, 3, 4, 5, 0, 6, 7] rfl ?_
                  refine sg_goto (tgt := 3) dX5_readRow_130 (by decide) ?_
                  refine sg_sub [0, 1, 2, 3, 4, 5] rfl ?_
                  exact ih _ _ _ _ _ _ h
                · have h := sg_ifn hc h
                  refine sg_iload (pn := 124) (i := 5) dX5_readRow_122 rfl 5 rfl ?_
                  refine sg_iconst (pn := 125) dX5_readRow_124 rfl ic_1 ?_
                  refine sg_iadd (pn := 126) dX5_readRow_125 rfl ?_
                  obtain rfl := Option.some.inj h
                  exact sg_iret dX5_readRow_126 rfl ⟨rfl, rfl⟩
              · have h := sg_ifp hc h
                refine sg_iload (pn := 93) (i := 8) dX5_readRow_91 rfl 7 rfl ?_
                refine sg_if_ne (pn := 96) (tgt := 107) dX5_readRow_93 rfl (by decide) (fun hc => ?_) (fun hc => ?_)
                · have h := sg_ifn hc h
                  refine sg_aload_n (pn := 108) (i := 0) dX5_readRow_107 rfl rfl 0 rfl ?_
                  refine sg_dup (pn := 109) dX5_readRow_108 rfl rfl ?_
                  refine gfC_1_5 (pn := 112) dX5_readRow_109 rfl lf_X5_35 ?_
                  refine sg_iconst (pn := 113) dX5_readRow_112 rfl ic_1 ?_
                  refine sg_iadd (pn := 114) dX5_readRow_113 rfl ?_
                  refine pfC_1_5 (pn := 117) dX5_readRow_114 rfl lf_X5_35 ?_
                  obtain ⟨z7, e_z7, h⟩ := sg_letE h
                  refine sg_zE e_z7 ?_
                  refine sg_iload (pn := 119) (i := 7) dX5_readRow_117 rfl 6 rfl ?_
                  refine sg_if_eq (pn := 122) (tgt := 127) dX5_readRow_119 rfl (by decide) (fun hc => ?_) (fun hc => ?_)
                  · have h := sg_ifp hc h
                    refine sg_iinc (pn := 130) (i := 5) (lv' := [(0, .ref (ad 1)), (1, .ref (ad 3)), (2, .int v2), (3, .int v3), (4, .int v4), (5, .int (v5 + (1 : Int32))), (7, .int t4), (8, .int t5)]) dX5_readRow_127 rfl 5 rfl (ii_1 _) (Nat.le_of_ble_eq_true rfl) [1, 2, 3, 4, 5, 0, 6, 7] rfl ?_
                    refine sg_goto (tgt := 3) dX5_readRow_130 (by decide) ?_
                    refine sg_sub [0, 1, 2, 3, 4, 5] rfl ?_
                    exact ih _ _ _ _ _ _ h
                  · have h := sg_ifn hc h
                    refine sg_iload (pn := 124) (i := 5) dX5_readRow_122 rfl 5 rfl ?_
                    refine sg_iconst (pn := 125) dX5_readRow_124 rfl ic_1 ?_
                    refine sg_iadd (pn := 126) dX5_readRow_125 rfl ?_
                    obtain rfl := Option.some.inj h
                    exact sg_iret dX5_readRow_126 rfl ⟨rfl, rfl⟩
                · have h := sg_ifp hc h
                  refine sg_aload_n (pn := 97) (i := 0) dX5_readRow_96 rfl rfl 0 rfl ?_
                  refine sg_iconst (pn := 98) dX5_readRow_97 rfl ic_1 ?_
                  refine sg_aload_n (pn := 99) (i := 0) dX5_readRow_98 rfl rfl 0 rfl ?_
                  refine gfC_1_5 (pn := 102) dX5_readRow_99 rfl lf_X5_35 ?_
                  obtain ⟨r8, h_r8, h⟩ := sg_bind h
                  refine sg_callVv (pn := 105) (rest := []) 1 dX5_readRow_102 rfl kb_X5_52 kv_X5_fail (by exact rfl) rfl (Nat.le_of_ble_eq_true rfl) (gC_Reader_fail_ok h_r8) rfl rfl (Nat.le_of_ble_eq_true rfl) ?_
                  refine sg_iconst (pn := 106) dX5_readRow_105 rfl ic_0 ?_
                  obtain rfl := Option.some.inj h
                  exact sg_iret dX5_readRow_106 rfl ⟨rfl, rfl⟩
            have h := e_t5
            refine sg_icmp_ne (pn := 71) (tgt := 83) dX5_readRow_68 rfl (by decide) (fun hc => ?_) (fun hc => ?_)
            · have h := sg_ifn hc h
              refine sg_iconst (pn := 84) dX5_readRow_83 rfl ic_0 ?_
              subst h
              refine sg_sub [0, 1, 2, 3, 4, 5, 7] rfl ?_
              exact hm_t5
            · have h := sg_ifp hc h
              refine sg_iload (pn := 73) (i := 5) dX5_readRow_71 rfl 5 rfl ?_
              refine sg_iconst (pn := 74) dX5_readRow_73 rfl ic_1 ?_
              refine sg_iadd (pn := 75) dX5_readRow_74 rfl ?_
              refine sg_iload_n (pn := 76) (i := 3) dX5_readRow_75 rfl rfl 3 rfl ?_
              refine sg_icmp_ge (pn := 79) (tgt := 83) dX5_readRow_76 rfl (by decide) (fun hc => ?_) (fun hc => ?_)
              · have h := sg_ifp hc h
                refine sg_iconst (pn := 84) dX5_readRow_83 rfl ic_0 ?_
                subst h
                refine sg_sub [0, 1, 2, 3, 4, 5, 7] rfl ?_
                exact hm_t5
              · have h := sg_ifn hc h
                refine sg_iconst (pn := 80) dX5_readRow_79 rfl ic_1 ?_
                refine sg_goto (tgt := 84) dX5_readRow_80 (by decide) ?_
                subst h
                refine sg_sub [0, 1, 2, 3, 4, 5, 7] rfl ?_
                exact hm_t5
          have h := e_t4
          refine sg_icmp_ne (pn := 49) (tgt := 61) dX5_readRow_46 rfl (by decide) (fun hc => ?_) (fun hc => ?_)
          · have h := sg_ifn hc h
            refine sg_iconst (pn := 62) dX5_readRow_61 rfl ic_0 ?_
            subst h
            exact hm_t4
          · have h := sg_ifp hc h
            refine sg_iload (pn := 51) (i := 5) dX5_readRow_49 rfl 5 rfl ?_
            refine sg_iconst (pn := 52) dX5_readRow_51 rfl ic_1 ?_
            refine sg_iadd (pn := 53) dX5_readRow_52 rfl ?_
            refine sg_iload_n (pn := 54) (i := 2) dX5_readRow_53 rfl rfl 2 rfl ?_
            refine sg_icmp_lt (pn := 57) (tgt := 61) dX5_readRow_54 rfl (by decide) (fun hc => ?_) (fun hc => ?_)
            · have h := sg_ifp hc h
              refine sg_iconst (pn := 62) dX5_readRow_61 rfl ic_0 ?_
              subst h
              exact hm_t4
            · have h := sg_ifn hc h
              refine sg_iconst (pn := 58) dX5_readRow_57 rfl ic_1 ?_
              refine sg_goto (tgt := 62) dX5_readRow_58 (by decide) ?_
              subst h
              exact hm_t4
        · have h := sg_ifn hc h
          refine sg_iconst (pn := 35) dX5_readRow_34 rfl ic_0 ?_
          obtain rfl := Option.some.inj h
          exact sg_iret dX5_readRow_35 rfl ⟨rfl, rfl⟩
set_option maxRecDepth 4000 in
theorem gC_Reader_readRow_1_3_ok {l : Launch} {D : va_G} {cI cZ : ClassId} {ad : Nat → Nat} {n : Nat} {a2 : Int32} {a3 : Int32} {a4 : Int32} {z : sg_M} {r : Int32 × sg_M} (h : gC_Reader_readRow_1_3 n a2 a3 a4 z = some r) : sg_Met (eC l D cI cZ ad) yX5_readRow cX5_readRow 9 (some .int) 3 [.ref (ad 1), .ref (ad 3), .int a2, .int a3, .int a4] z (sg_is (some (.int r.1)) r.2) := by
  refine sg_enter (lv0 := [(0, .ref (ad 1)), (1, .ref (ad 3)), (2, .int a2), (3, .int a3), (4, .int a4)]) pn_X5 (Nat.le_of_ble_eq_true rfl) rfl ?_
  unfold gC_Reader_readRow_1_3 at h
  refine sg_iconst (pn := 1) dX5_readRow_0 rfl ic_0 ?_
  refine sg_istore (pn := 3) (i := 5) (lv' := [(0, .ref (ad 1)), (1, .ref (ad 3)), (2, .int a2), (3, .int a3), (4, .int a4), (5, .int (0 : Int32))]) dX5_readRow_1 rfl (Nat.le_of_ble_eq_true rfl) [1, 2, 3, 4, 5, 0] rfl ?_
  exact gC_Reader_readRow_1_3_L_ok n _ _ _ _ _ _ h
set_option maxRecDepth 4000 in
theorem gC_Reader_readRow_1_4_L_ok {l : Launch} {D : va_G} {cI cZ : ClassId} {ad : Nat → Nat} : ∀ (n : Nat) (v2 : Int32) (v3 : Int32) (v4 : Int32) (v5 : Int32) (z : sg_M) (r : Int32 × sg_M), gC_Reader_readRow_1_4_L n v2 v3 v4 v5 z = some r → sg_G (eC l D cI cZ ad) yX5_readRow cX5_readRow 9 (some .int) 3 3 [(0, .ref (ad 1)), (1, .ref (ad 4)), (2, .int v2), (3, .int v3), (4, .int v4), (5, .int v5)] [] z (sg_is (some (.int r.1)) r.2) := by
  intro n
  induction n with
  | zero => intro v2 v3 v4 v5 z r h; cases h
  | succ n ih =>
    intro v2 v3 v4 v5 z r h
    unfold gC_Reader_readRow_1_4_L at h
    refine sg_iload (pn := 5) (i := 5) dX5_readRow_3 rfl 5 rfl ?_
    refine sg_iload_n (pn := 6) (i := 3) dX5_readRow_5 rfl rfl 3 rfl ?_
    refine sg_icmp_ge (pn := 9) (tgt := 133) dX5_readRow_6 rfl (by decide) (fun hc => ?_) (fun hc => ?_)
    · have h := sg_ifp hc h
      refine sg_iconst (pn := 134) dX5_readRow_133 rfl ic_0 ?_
      obtain rfl := Option.some.inj h
      exact sg_iret dX5_readRow_134 rfl ⟨rfl, rfl⟩
    · have h := sg_ifn hc h
      refine sg_iload (pn := 11) (i := 5) dX5_readRow_9 rfl 5 rfl ?_
      refine sg_aload_n (pn := 12) (i := 1) dX5_readRow_11 rfl rfl 1 rfl ?_
      refine anC_4 (pn := 13) dX5_readRow_12 rfl ?_
      refine sg_icmp_ge (pn := 16) (tgt := 133) dX5_readRow_13 rfl (by decide) (fun hc => ?_) (fun hc => ?_)
      · have h := sg_ifp hc h
        refine sg_iconst (pn := 134) dX5_readRow_133 rfl ic_0 ?_
        obtain rfl := Option.some.inj h
        exact sg_iret dX5_readRow_134 rfl ⟨rfl, rfl⟩
      · have h := sg_ifn hc h
        refine sg_aload_n (pn := 17) (i := 1) dX5_readRow_16 rfl rfl 1 rfl ?_
        refine sg_iload (pn := 19) (i := 5) dX5_readRow_17 rfl 5 rfl ?_
        refine sg_aload_n (pn := 20) (i := 0) dX5_readRow_19 rfl rfl 0 rfl ?_
        refine sg_iconst (pn := 21) dX5_readRow_20 rfl ic_0 ?_
        refine sg_iload (pn := 23) (i := 4) dX5_readRow_21 rfl 4 rfl ?_
        obtain ⟨r1, h_r1, h⟩ := sg_bind h
        refine sg_callVi (pn := 26) (rest := [.int v5, .ref (ad 4)]) 1 dX5_readRow_23 rfl kb_X5_83 kv_X5_readNumber (by exact rfl) rfl (Nat.le_of_ble_eq_true rfl) (gC_Reader_readNumber_ok h_r1) rfl rfl (Nat.le_of_ble_eq_true rfl) ?_
        obtain ⟨hg, h⟩ := sg_guard h
        refine asC_4 (pn := 27) dX5_readRow_26 rfl (sg_in_vp hg) ?_
        obtain ⟨z2, e_z2, h⟩ := sg_letE h
        refine sg_zE e_z2 ?_
        refine sg_aload_n (pn := 28) (i := 0) dX5_readRow_27 rfl rfl 0 rfl ?_
        refine gfC_1_4 (pn := 31) dX5_readRow_28 rfl lf_X5_32 ?_
        refine sg_if_eq (pn := 34) (tgt := 36) dX5_readRow_31 rfl (by decide) (fun hc => ?_) (fun hc => ?_)
        · have h := sg_ifp hc h
          refine sg_aload_n (pn := 37) (i := 0) dX5_readRow_36 rfl rfl 0 rfl ?_
          obtain ⟨r3, h_r3, h⟩ := sg_bind h
          refine sg_callVi (pn := 40) (rest := []) 1 dX5_readRow_37 rfl kb_X5_42 kv_X5_nextLetter (by exact rfl) rfl (Nat.le_of_ble_eq_true rfl) (gC_Reader_nextLetter_ok h_r3) rfl rfl (Nat.le_of_ble_eq_true rfl) ?_
          refine sg_istore (pn := 42) (i := 6) (lv' := [(0, .ref (ad 1)), (1, .ref (ad 4)), (2, .int v2), (3, .int v3), (4, .int v4), (5, .int v5), (6, .int r3.1)]) dX5_readRow_40 rfl (Nat.le_of_ble_eq_true rfl) [1, 2, 3, 4, 5, 6, 0] rfl ?_
          refine sg_iload (pn := 44) (i := 6) dX5_readRow_42 rfl 6 rfl ?_
          refine sg_bipush (pn := 46) dX5_readRow_44 rfl ib_59 ?_
          obtain ⟨t4, e_t4, h2⟩ := sg_letJ h
          have hm_t4 : sg_G (eC l D cI cZ ad) yX5_readRow cX5_readRow 9 (some .int) 3 62 [(0, .ref (ad 1)), (1, .ref (ad 4)), (2, .int v2), (3, .int v3), (4, .int v4), (5, .int v5), (6, .int r3.1)] [.int t4] r3.2 (sg_is (some (.int r.1)) r.2) := by
            have h := h2
            refine sg_istore (pn := 64) (i := 7) (lv' := [(0, .ref (ad 1)), (1, .ref (ad 4)), (2, .int v2), (3, .int v3), (4, .int v4), (5, .int v5), (6, .int r3.1), (7, .int t4)]) dX5_readRow_62 rfl (Nat.le_of_ble_eq_true rfl) [1, 2, 3, 4, 5, 6, 7, 0] rfl ?_
            refine sg_iload (pn := 66) (i := 6) dX5_readRow_64 rfl 6 rfl ?_
            refine sg_bipush (pn := 68) dX5_readRow_66 rfl ib_44 ?_
            obtain ⟨t5, e_t5, h2⟩ := sg_letJ h
            have hm_t5 : sg_G (eC l D cI cZ ad) yX5_readRow cX5_readRow 9 (some .int) 3 84 [(0, .ref (ad 1)), (1, .ref (ad 4)), (2, .int v2), (3, .int v3), (4, .int v4), (5, .int v5), (7, .int t4)] [.int t5] r3.2 (sg_is (some (.int r.1)) r.2) := by
              have h := h2
              refine sg_istore (pn := 86) (i := 8) (lv' := [(0, .ref (ad 1)), (1, .ref (ad 4)), (2, .int v2), (3, .int v3), (4, .int v4), (5, .int v5), (7, .int t4), (8, .int t5)]) dX5_readRow_84 rfl (Nat.le_of_ble_eq_true rfl) [1, 2, 3, 4, 5, 6, 7, 0] rfl ?_
              refine sg_iload (pn := 88) (i := 7) dX5_readRow_86 rfl 6 rfl ?_
              refine sg_if_ne (pn := 91) (tgt := 107) dX5_readRow_88 rfl (by decide) (fun hc => ?_) (fun hc => ?_)
              · have h := sg_ifn hc h
                refine sg_aload_n (pn := 108) (i := 0) dX5_readRow_107 rfl rfl 0 rfl ?_
                refine sg_dup (pn := 109) dX5_readRow_108 rfl rfl ?_
                refine gfC_1_5 (pn := 112) dX5_readRow_109 rfl lf_X5_35 ?_
                refine sg_iconst (pn := 113) dX5_readRow_112 rfl ic_1 ?_
                refine sg_iadd (pn := 114) dX5_readRow_113 rfl ?_
                refine pfC_1_5 (pn := 117) dX5_readRow_114 rfl lf_X5_35 ?_
                obtain ⟨z6, e_z6, h⟩ := sg_letE h
                refine sg_zE e_z6 ?_
                refine sg_iload (pn := 119) (i := 7) dX5_readRow_117 rfl 6 rfl ?_
                refine sg_if_eq (pn := 122) (tgt := 127) dX5_readRow_119 rfl (by decide) (fun hc => ?_) (fun hc => ?_)
                · have h := sg_ifp hc h
                  refine sg_iinc (pn := 130) (i := 5) (lv' := [(0, .ref (ad 1)), (1, .ref (ad 4)), (2, .int v2), (3, .int v3), (4, .int v4), (5, .int (v5 + (1 : Int32))), (7, .int t4), (8, .int t5)]) dX5_readRow_127 rfl 5 rfl (ii_1 _) (Nat.le_of_ble_eq_true rfl) [1, 2, 3, 4, 5, 0, 6, 7] rfl ?_
                  refine sg_goto (tgt := 3) dX5_readRow_130 (by decide) ?_
                  refine sg_sub [0, 1, 2, 3, 4, 5] rfl ?_
                  exact ih _ _ _ _ _ _ h
                · have h := sg_ifn hc h
                  refine sg_iload (pn := 124) (i := 5) dX5_readRow_122 rfl 5 rfl ?_
                  refine sg_iconst (pn := 125) dX5_readRow_124 rfl ic_1 ?_
                  refine sg_iadd (pn := 126) dX5_readRow_125 rfl ?_
                  obtain rfl := Option.some.inj h
                  exact sg_iret dX5_readRow_126 rfl ⟨rfl, rfl⟩
              · have h := sg_ifp hc h
                refine sg_iload (pn := 93) (i := 8) dX5_readRow_91 rfl 7 rfl ?_
                refine sg_if_ne (pn := 96) (tgt := 107) dX5_readRow_93 rfl (by decide) (fun hc => ?_) (fun hc => ?_)
                · have h := sg_ifn hc h
                  refine sg_aload_n (pn := 108) (i := 0) dX5_readRow_107 rfl rfl 0 rfl ?_
                  refine sg_dup (pn := 109) dX5_readRow_108 rfl rfl ?_
                  refine gfC_1_5 (pn := 112) dX5_readRow_109 rfl lf_X5_35 ?_
                  refine sg_iconst (pn := 113) dX5_readRow_112 rfl ic_1 ?_
                  refine sg_iadd (pn := 114) dX5_readRow_113 rfl ?_
                  refine pfC_1_5 (pn := 117) dX5_readRow_114 rfl lf_X5_35 ?_
                  obtain ⟨z7, e_z7, h⟩ := sg_letE h
                  refine sg_zE e_z7 ?_
                  refine sg_iload (pn := 119) (i := 7) dX5_readRow_117 rfl 6 rfl ?_
                  refine sg_if_eq (pn := 122) (tgt := 127) dX5_readRow_119 rfl (by decide) (fun hc => ?_) (fun hc => ?_)
                  · have h := sg_ifp hc h
                    refine sg_iinc (pn := 130) (i := 5) (lv' := [(0, .ref (ad 1)), (1, .ref (ad 4)), (2, .int v2), (3, .int v3), (4, .int v4), (5, .int (v5 + (1 : Int32))), (7, .int t4), (8, .int t5)]) dX5_readRow_127 rfl 5 rfl (ii_1 _) (Nat.le_of_ble_eq_true rfl) [1, 2, 3, 4, 5, 0, 6, 7] rfl ?_
                    refine sg_goto (tgt := 3) dX5_readRow_130 (by decide) ?_
                    refine sg_sub [0, 1, 2, 3, 4, 5] rfl ?_
                    exact ih _ _ _ _ _ _ h
                  · have h := sg_ifn hc h
                    refine sg_iload (pn := 124) (i := 5) dX5_readRow_122 rfl 5 rfl ?_
                    refine sg_iconst (pn := 125) dX5_readRow_124 rfl ic_1 ?_
                    refine sg_iadd (pn := 126) dX5_readRow_125 rfl ?_
                    obtain rfl := Option.some.inj h
                    exact sg_iret dX5_readRow_126 rfl ⟨rfl, rfl⟩
                · have h := sg_ifp hc h
                  refine sg_aload_n (pn := 97) (i := 0) dX5_readRow_96 rfl rfl 0 rfl ?_
                  refine sg_iconst (pn := 98) dX5_readRow_97 rfl ic_1 ?_
                  refine sg_aload_n (pn := 99) (i := 0) dX5_readRow_98 rfl rfl 0 rfl ?_
                  refine gfC_1_5 (pn := 102) dX5_readRow_99 rfl lf_X5_35 ?_
                  obtain ⟨r8, h_r8, h⟩ := sg_bind h
                  refine sg_callVv (pn := 105) (rest := []) 1 dX5_readRow_102 rfl kb_X5_52 kv_X5_fail (by exact rfl) rfl (Nat.le_of_ble_eq_true rfl) (gC_Reader_fail_ok h_r8) rfl rfl (Nat.le_of_ble_eq_true rfl) ?_
                  refine sg_iconst (pn := 106) dX5_readRow_105 rfl ic_0 ?_
                  obtain rfl := Option.some.inj h
                  exact sg_iret dX5_readRow_106 rfl ⟨rfl, rfl⟩
            have h := e_t5
            refine sg_icmp_ne (pn := 71) (tgt := 83) dX5_readRow_68 rfl (by decide) (fun hc => ?_) (fun hc => ?_)
            · have h := sg_ifn hc h
              refine sg_iconst (pn := 84) dX5_readRow_83 rfl ic_0 ?_
              subst h
              refine sg_sub [0, 1, 2, 3, 4, 5, 7] rfl ?_
              exact hm_t5
            · have h := sg_ifp hc h
              refine sg_iload (pn := 73) (i := 5) dX5_readRow_71 rfl 5 rfl ?_
              refine sg_iconst (pn := 74) dX5_readRow_73 rfl ic_1 ?_
              refine sg_iadd (pn := 75) dX5_readRow_74 rfl ?_
              refine sg_iload_n (pn := 76) (i := 3) dX5_readRow_75 rfl rfl 3 rfl ?_
              refine sg_icmp_ge (pn := 79) (tgt := 83) dX5_readRow_76 rfl (by decide) (fun hc => ?_) (fun hc => ?_)
              · have h := sg_ifp hc h
                refine sg_iconst (pn := 84) dX5_readRow_83 rfl ic_0 ?_
                subst h
                refine sg_sub [0, 1, 2, 3, 4, 5, 7] rfl ?_
                exact hm_t5
              · have h := sg_ifn hc h
                refine sg_iconst (pn := 80) dX5_readRow_79 rfl ic_1 ?_
                refine sg_goto (tgt := 84) dX5_readRow_80 (by decide) ?_
                subst h
                refine sg_sub [0, 1, 2, 3, 4, 5, 7] rfl ?_
                exact hm_t5
          have h := e_t4
          refine sg_icmp_ne (pn := 49) (tgt := 61) dX5_readRow_46 rfl (by decide) (fun hc => ?_) (fun hc => ?_)
          · have h := sg_ifn hc h
            refine sg_iconst (pn := 62) dX5_readRow_61 rfl ic_0 ?_
            subst h
            exact hm_t4
          · have h := sg_ifp hc h
            refine sg_iload (pn := 51) (i := 5) dX5_readRow_49 rfl 5 rfl ?_
            refine sg_iconst (pn := 52) dX5_readRow_51 rfl ic_1 ?_
            refine sg_iadd (pn := 53) dX5_readRow_52 rfl ?_
            refine sg_iload_n (pn := 54) (i := 2) dX5_readRow_53 rfl rfl 2 rfl ?_
            refine sg_icmp_lt (pn := 57) (tgt := 61) dX5_readRow_54 rfl (by decide) (fun hc => ?_) (fun hc => ?_)
            · have h := sg_ifp hc h
              refine sg_iconst (pn := 62) dX5_readRow_61 rfl ic_0 ?_
              subst h
              exact hm_t4
            · have h := sg_ifn hc h
              refine sg_iconst (pn := 58) dX5_readRow_57 rfl ic_1 ?_
              refine sg_goto (tgt := 62) dX5_readRow_58 (by decide) ?_
              subst h
              exact hm_t4
        · have h := sg_ifn hc h
          refine sg_iconst (pn := 35) dX5_readRow_34 rfl ic_0 ?_
          obtain rfl := Option.some.inj h
          exact sg_iret dX5_readRow_35 rfl ⟨rfl, rfl⟩
set_option maxRecDepth 4000 in
theorem gC_Reader_readRow_1_4_ok {l : Launch} {D : va_G} {cI cZ : ClassId} {ad : Nat → Nat} {n : Nat} {a2 : Int32} {a3 : Int32} {a4 : Int32} {z : sg_M} {r : Int32 × sg_M} (h : gC_Reader_readRow_1_4 n a2 a3 a4 z = some r) : sg_Met (eC l D cI cZ ad) yX5_readRow cX5_readRow 9 (some .int) 3 [.ref (ad 1), .ref (ad 4), .int a2, .int a3, .int a4] z (sg_is (some (.int r.1)) r.2) := by
  refine sg_enter (lv0 := [(0, .ref (ad 1)), (1, .ref (ad 4)), (2, .int a2), (3, .int a3), (4, .int a4)]) pn_X5 (Nat.le_of_ble_eq_true rfl) rfl ?_
  unfold gC_Reader_readRow_1_4 at h
  refine sg_iconst (pn := 1) dX5_readRow_0 rfl ic_0 ?_
  refine sg_istore (pn := 3) (i := 5) (lv' := [(0, .ref (ad 1)), (1, .ref (ad 4)), (2, .int a2), (3, .int a3), (4, .int a4), (5, .int (0 : Int32))]) dX5_readRow_1 rfl (Nat.le_of_ble_eq_true rfl) [1, 2, 3, 4, 5, 0] rfl ?_
  exact gC_Reader_readRow_1_4_L_ok n _ _ _ _ _ _ h
set_option maxRecDepth 4000 in
theorem gC_Reader_readCart_ok {l : Launch} {D : va_G} {cI cZ : ClassId} {ad : Nat → Nat} {n : Nat} {z : sg_M} {r : sg_M} (h : gC_Reader_readCart n z = some r) : sg_Met (eC l D cI cZ ad) yX5_readCart cX5_readCart 2 none 3 [.ref (ad 1)] z (sg_is none r) := by
  refine sg_enter (lv0 := [(0, .ref (ad 1))]) pn_X5 (Nat.le_of_ble_eq_true rfl) rfl ?_
  unfold gC_Reader_readCart at h
  refine sg_aload_n (pn := 1) (i := 0) dX5_readCart_0 rfl rfl 0 rfl ?_
  refine gfC_1_0 (pn := 4) dX5_readCart_1 rfl lf_X5_12 ?_
  refine gfC_2_2 (pn := 7) dX5_readCart_4 rfl lf_X5_64 ?_
  obtain ⟨v1_1, e_v1_1, h⟩ := sg_letE h
  refine sg_topi e_v1_1 ?_
  refine sg_istore_n (pn := 8) (i := 1) (lv' := [(0, .ref (ad 1)), (1, .int v1_1)]) dX5_readCart_7 rfl rfl (Nat.le_of_ble_eq_true rfl) [1, 0] rfl ?_
  refine sg_iload_n (pn := 9) (i := 1) dX5_readCart_8 rfl rfl 1 rfl ?_
  refine sg_bipush (pn := 11) dX5_readCart_9 rfl ib_8 ?_
  refine sg_icmp_lt (pn := 14) (tgt := 15) dX5_readCart_11 rfl (by decide) (fun hc => ?_) (fun hc => ?_)
  · have h := sg_ifp hc h
    refine sg_aload_n (pn := 16) (i := 0) dX5_readCart_15 rfl rfl 0 rfl ?_
    refine gfC_1_0 (pn := 19) dX5_readCart_16 rfl lf_X5_12 ?_
    refine gfC_2_5 (pn := 22) dX5_readCart_19 rfl lf_X5_87 ?_
    refine sg_iload_n (pn := 23) (i := 1) dX5_readCart_22 rfl rfl 1 rfl ?_
    refine sg_aload_n (pn := 24) (i := 0) dX5_readCart_23 rfl rfl 0 rfl ?_
    refine sg_iconst (pn := 25) dX5_readCart_24 rfl ic_0 ?_
    refine sg_iconst (pn := 26) dX5_readCart_25 rfl ic_3 ?_
    obtain ⟨r2, h_r2, h⟩ := sg_bind h
    refine sg_callVi (pn := 29) (rest := [.int v1_1, .ref (ad 5)]) 1 dX5_readCart_26 rfl kb_X5_83 kv_X5_readNumber (by exact rfl) rfl (Nat.le_of_ble_eq_true rfl) (gC_Reader_readNumber_ok h_r2) rfl rfl (Nat.le_of_ble_eq_true rfl) ?_
    obtain ⟨hg, h⟩ := sg_guard h
    refine asC_5 (pn := 30) dX5_readCart_29 rfl (sg_in_vp hg) ?_
    obtain ⟨z3, e_z3, h⟩ := sg_letE h
    refine sg_zE e_z3 ?_
    refine sg_aload_n (pn := 31) (i := 0) dX5_readCart_30 rfl rfl 0 rfl ?_
    refine gfC_1_0 (pn := 34) dX5_readCart_31 rfl lf_X5_12 ?_
    refine gfC_2_6 (pn := 37) dX5_readCart_34 rfl lf_X5_90 ?_
    refine sg_iload_n (pn := 38) (i := 1) dX5_readCart_37 rfl rfl 1 rfl ?_
    refine sg_aload_n (pn := 39) (i := 0) dX5_readCart_38 rfl rfl 0 rfl ?_
    refine sg_iconst (pn := 40) dX5_readCart_39 rfl ic_1 ?_
    refine sg_bipush (pn := 42) dX5_readCart_40 rfl ib_60 ?_
    obtain ⟨r4, h_r4, h⟩ := sg_bind h
    refine sg_callVi (pn := 45) (rest := [.int v1_1, .ref (ad 6)]) 1 dX5_readCart_42 rfl kb_X5_83 kv_X5_readNumber (by exact rfl) rfl (Nat.le_of_ble_eq_true rfl) (gC_Reader_readNumber_ok h_r4) rfl rfl (Nat.le_of_ble_eq_true rfl) ?_
    obtain ⟨hg, h⟩ := sg_guard h
    refine asC_6 (pn := 46) dX5_readCart_45 rfl (sg_in_vp hg) ?_
    obtain ⟨z5, e_z5, h⟩ := sg_letE h
    refine sg_zE e_z5 ?_
    refine sg_aload_n (pn := 47) (i := 0) dX5_readCart_46 rfl rfl 0 rfl ?_
    refine gfC_1_0 (pn := 50) dX5_readCart_47 rfl lf_X5_12 ?_
    refine gfC_2_7 (pn := 53) dX5_readCart_50 rfl lf_X5_93 ?_
    refine sg_iload_n (pn := 54) (i := 1) dX5_readCart_53 rfl rfl 1 rfl ?_
    refine sg_aload_n (pn := 55) (i := 0) dX5_readCart_54 rfl rfl 0 rfl ?_
    refine sg_iconst (pn := 56) dX5_readCart_55 rfl ic_0 ?_
    refine sg_bipush (pn := 58) dX5_readCart_56 rfl ib_9 ?_
    obtain ⟨r6, h_r6, h⟩ := sg_bind h
    refine sg_callVi (pn := 61) (rest := [.int v1_1, .ref (ad 7)]) 1 dX5_readCart_58 rfl kb_X5_83 kv_X5_readNumber (by exact rfl) rfl (Nat.le_of_ble_eq_true rfl) (gC_Reader_readNumber_ok h_r6) rfl rfl (Nat.le_of_ble_eq_true rfl) ?_
    obtain ⟨hg, h⟩ := sg_guard h
    refine asC_7 (pn := 62) dX5_readCart_61 rfl (sg_in_vp hg) ?_
    obtain ⟨z7, e_z7, h⟩ := sg_letE h
    refine sg_zE e_z7 ?_
    refine sg_aload_n (pn := 63) (i := 0) dX5_readCart_62 rfl rfl 0 rfl ?_
    obtain ⟨r8, h_r8, h⟩ := sg_bind h
    refine sg_callVi (pn := 66) (rest := []) 1 dX5_readCart_63 rfl kb_X5_42 kv_X5_nextLetter (by exact rfl) rfl (Nat.le_of_ble_eq_true rfl) (gC_Reader_nextLetter_ok h_r8) rfl rfl (Nat.le_of_ble_eq_true rfl) ?_
    refine sg_bipush (pn := 68) dX5_readCart_66 rfl ib_59 ?_
    refine sg_icmp_eq (pn := 71) (tgt := 81) dX5_readCart_68 rfl (by decide) (fun hc => ?_) (fun hc => ?_)
    · have h := sg_ifp hc h
      refine sg_aload_n (pn := 82) (i := 0) dX5_readCart_81 rfl rfl 0 rfl ?_
      refine sg_dup (pn := 83) dX5_readCart_82 rfl rfl ?_
      refine gfC_1_5 (pn := 86) dX5_readCart_83 rfl lf_X5_35 ?_
      refine sg_iconst (pn := 87) dX5_readCart_86 rfl ic_1 ?_
      refine sg_iadd (pn := 88) dX5_readCart_87 rfl ?_
      refine pfC_1_5 (pn := 91) dX5_readCart_88 rfl lf_X5_35 ?_
      obtain ⟨z9, e_z9, h⟩ := sg_letE h
      refine sg_zE e_z9 ?_
      refine sg_aload_n (pn := 92) (i := 0) dX5_readCart_91 rfl rfl 0 rfl ?_
      refine gfC_1_0 (pn := 95) dX5_readCart_92 rfl lf_X5_12 ?_
      refine sg_dup (pn := 96) dX5_readCart_95 rfl rfl ?_
      refine gfC_2_2 (pn := 99) dX5_readCart_96 rfl lf_X5_64 ?_
      refine sg_iconst (pn := 100) dX5_readCart_99 rfl ic_1 ?_
      refine sg_iadd (pn := 101) dX5_readCart_100 rfl ?_
      refine pfC_2_2 (pn := 104) dX5_readCart_101 rfl lf_X5_64 ?_
      obtain ⟨z10, e_z10, h⟩ := sg_letE h
      refine sg_zE e_z10 ?_
      obtain rfl := Option.some.inj h
      exact sg_vret dX5_readCart_104 rfl ⟨rfl, rfl⟩
    · have h := sg_ifn hc h
      refine sg_aload_n (pn := 72) (i := 0) dX5_readCart_71 rfl rfl 0 rfl ?_
      refine sg_iconst (pn := 73) dX5_readCart_72 rfl ic_1 ?_
      refine sg_aload_n (pn := 74) (i := 0) dX5_readCart_73 rfl rfl 0 rfl ?_
      refine gfC_1_5 (pn := 77) dX5_readCart_74 rfl lf_X5_35 ?_
      obtain ⟨r11, h_r11, h⟩ := sg_bind h
      refine sg_callVv (pn := 80) (rest := []) 1 dX5_readCart_77 rfl kb_X5_52 kv_X5_fail (by exact rfl) rfl (Nat.le_of_ble_eq_true rfl) (gC_Reader_fail_ok h_r11) rfl rfl (Nat.le_of_ble_eq_true rfl) ?_
      obtain rfl := Option.some.inj h
      exact sg_vret dX5_readCart_80 rfl ⟨rfl, rfl⟩
  · have h := sg_ifn hc h
    obtain rfl := Option.some.inj h
    exact sg_vret dX5_readCart_14 rfl ⟨rfl, rfl⟩
set_option maxRecDepth 4000 in
theorem gC_Reader_readRest_ok {l : Launch} {D : va_G} {cI cZ : ClassId} {ad : Nat → Nat} {n : Nat} {a1 : Int32} {z : sg_M} {r : sg_M} (h : gC_Reader_readRest n a1 z = some r) : sg_Met (eC l D cI cZ ad) yX5_readRest cX5_readRest 2 none 4 [.ref (ad 1), .int a1] z (sg_is none r) := by
  refine sg_enter (lv0 := [(0, .ref (ad 1)), (1, .int a1)]) pn_X5 (Nat.le_of_ble_eq_true rfl) rfl ?_
  unfold gC_Reader_readRest at h
  refine sg_iload_n (pn := 1) (i := 1) dX5_readRest_0 rfl rfl 1 rfl ?_
  refine sg_bipush (pn := 3) dX5_readRest_1 rfl ib_114 ?_
  refine sg_icmp_ne (pn := 6) (tgt := 32) dX5_readRest_3 rfl (by decide) (fun hc => ?_) (fun hc => ?_)
  · have h := sg_ifn hc h
    refine sg_iload_n (pn := 33) (i := 1) dX5_readRest_32 rfl rfl 1 rfl ?_
    refine sg_bipush (pn := 35) dX5_readRest_33 rfl ib_119 ?_
    refine sg_icmp_ne (pn := 38) (tgt := 69) dX5_readRest_35 rfl (by decide) (fun hc => ?_) (fun hc => ?_)
    · have h := sg_ifn hc h
      refine sg_aload_n (pn := 70) (i := 0) dX5_readRest_69 rfl rfl 0 rfl ?_
      obtain ⟨r1, h_r1, h⟩ := sg_bind h
      refine sg_callVv (pn := 73) (rest := []) 1 dX5_readRest_70 rfl kb_X5_80 kv_X5_readCart (by exact rfl) rfl (Nat.le_of_ble_eq_true rfl) (gC_Reader_readCart_ok h_r1) rfl rfl (Nat.le_of_ble_eq_true rfl) ?_
      obtain rfl := Option.some.inj h
      exact sg_vret dX5_readRest_73 rfl ⟨rfl, rfl⟩
    · have h := sg_ifp hc h
      refine sg_aload_n (pn := 39) (i := 0) dX5_readRest_38 rfl rfl 0 rfl ?_
      refine gfC_1_0 (pn := 42) dX5_readRest_39 rfl lf_X5_12 ?_
      refine sg_aload_n (pn := 43) (i := 0) dX5_readRest_42 rfl rfl 0 rfl ?_
      refine sg_aload_n (pn := 44) (i := 0) dX5_readRest_43 rfl rfl 0 rfl ?_
      refine gfC_1_0 (pn := 47) dX5_readRest_44 rfl lf_X5_12 ?_
      refine gfC_2_4 (pn := 50) dX5_readRest_47 rfl lf_X5_74 ?_
      refine sg_iconst (pn := 51) dX5_readRest_50 rfl ic_1 ?_
      refine sg_bipush (pn := 53) dX5_readRest_51 rfl ib_12 ?_
      refine sg_bipush (pn := 55) dX5_readRest_53 rfl ib_30 ?_
      obtain ⟨r2, h_r2, h⟩ := sg_bind h
      refine sg_callVi (pn := 58) (rest := [.ref (ad 2)]) 1 dX5_readRest_55 rfl kb_X5_70 kv_X5_readRow (by exact rfl) rfl (Nat.le_of_ble_eq_true rfl) (gC_Reader_readRow_1_4_ok h_r2) rfl rfl (Nat.le_of_ble_eq_true rfl) ?_
      refine pfC_2_1 (pn := 61) dX5_readRest_58 rfl lf_X5_77 ?_
      obtain ⟨z3, e_z3, h⟩ := sg_letE h
      refine sg_zE e_z3 ?_
      refine sg_aload_n (pn := 62) (i := 0) dX5_readRest_61 rfl rfl 0 rfl ?_
      refine sg_iconst (pn := 63) dX5_readRest_62 rfl ic_1 ?_
      refine pfC_1_6 (pn := 66) dX5_readRest_63 rfl lf_X5_38 rfl rfl ?_
      obtain ⟨z4, e_z4, h⟩ := sg_letE h
      refine sg_zE e_z4 ?_
      refine sg_goto (tgt := 73) dX5_readRest_66 (by decide) ?_
      obtain rfl := Option.some.inj h
      exact sg_vret dX5_readRest_73 rfl ⟨rfl, rfl⟩
  · have h := sg_ifp hc h
    refine sg_aload_n (pn := 7) (i := 0) dX5_readRest_6 rfl rfl 0 rfl ?_
    refine gfC_1_0 (pn := 10) dX5_readRest_7 rfl lf_X5_12 ?_
    refine sg_aload_n (pn := 11) (i := 0) dX5_readRest_10 rfl rfl 0 rfl ?_
    refine sg_aload_n (pn := 12) (i := 0) dX5_readRest_11 rfl rfl 0 rfl ?_
    refine gfC_1_0 (pn := 15) dX5_readRest_12 rfl lf_X5_12 ?_
    refine gfC_2_3 (pn := 18) dX5_readRest_15 rfl lf_X5_67 ?_
    refine sg_iconst (pn := 19) dX5_readRest_18 rfl ic_2 ?_
    refine sg_bipush (pn := 21) dX5_readRest_19 rfl ib_20 ?_
    refine sg_bipush (pn := 23) dX5_readRest_21 rfl ib_60 ?_
    obtain ⟨r5, h_r5, h⟩ := sg_bind h
    refine sg_callVi (pn := 26) (rest := [.ref (ad 2)]) 1 dX5_readRest_23 rfl kb_X5_70 kv_X5_readRow (by exact rfl) rfl (Nat.le_of_ble_eq_true rfl) (gC_Reader_readRow_1_3_ok h_r5) rfl rfl (Nat.le_of_ble_eq_true rfl) ?_
    refine pfC_2_0 (pn := 29) dX5_readRest_26 rfl lf_X5_49 ?_
    obtain ⟨z6, e_z6, h⟩ := sg_letE h
    refine sg_zE e_z6 ?_
    refine sg_goto (tgt := 73) dX5_readRest_29 (by decide) ?_
    obtain rfl := Option.some.inj h
    exact sg_vret dX5_readRest_73 rfl ⟨rfl, rfl⟩
set_option maxRecDepth 4000 in
theorem gC_Reader_readClause_ok {l : Launch} {D : va_G} {cI cZ : ClassId} {ad : Nat → Nat} {n : Nat} {z : sg_M} {r : sg_M} (h : gC_Reader_readClause n z = some r) : sg_Met (eC l D cI cZ ad) yX5_readClause cX5_readClause 2 none 5 [.ref (ad 1)] z (sg_is none r) := by
  refine sg_enter (lv0 := [(0, .ref (ad 1))]) pn_X5 (Nat.le_of_ble_eq_true rfl) rfl ?_
  unfold gC_Reader_readClause at h
  refine sg_aload_n (pn := 1) (i := 0) dX5_readClause_0 rfl rfl 0 rfl ?_
  obtain ⟨r1, h_r1, h⟩ := sg_bind h
  refine sg_callVi (pn := 4) (rest := []) 1 dX5_readClause_1 rfl kb_X5_42 kv_X5_nextLetter (by exact rfl) rfl (Nat.le_of_ble_eq_true rfl) (gC_Reader_nextLetter_ok h_r1) rfl rfl (Nat.le_of_ble_eq_true rfl) ?_
  refine sg_istore_n (pn := 5) (i := 1) (lv' := [(0, .ref (ad 1)), (1, .int r1.1)]) dX5_readClause_4 rfl rfl (Nat.le_of_ble_eq_true rfl) [1, 0] rfl ?_
  refine sg_iload_n (pn := 6) (i := 1) dX5_readClause_5 rfl rfl 1 rfl ?_
  refine sg_bipush (pn := 8) dX5_readClause_6 rfl ib_114 ?_
  refine sg_icmp_eq (pn := 11) (tgt := 45) dX5_readClause_8 rfl (by decide) (fun hc => ?_) (fun hc => ?_)
  · have h := sg_ifp hc h
    refine sg_aload_n (pn := 46) (i := 0) dX5_readClause_45 rfl rfl 0 rfl ?_
    refine sg_iload_n (pn := 47) (i := 1) dX5_readClause_46 rfl rfl 1 rfl ?_
    obtain ⟨r2, h_r2, h⟩ := sg_bind h
    refine sg_callVi (pn := 50) (rest := []) 1 dX5_readClause_47 rfl kb_X5_56 kv_X5_isOneTooMany (by exact rfl) rfl (Nat.le_of_ble_eq_true rfl) (gC_Reader_isOneTooMany_ok h_r2) rfl rfl (Nat.le_of_ble_eq_true rfl) ?_
    refine sg_if_eq (pn := 53) (tgt := 65) dX5_readClause_50 rfl (by decide) (fun hc => ?_) (fun hc => ?_)
    · have h := sg_ifp hc h
      refine sg_aload_n (pn := 66) (i := 0) dX5_readClause_65 rfl rfl 0 rfl ?_
      refine sg_dup (pn := 67) dX5_readClause_66 rfl rfl ?_
      refine gfC_1_5 (pn := 70) dX5_readClause_67 rfl lf_X5_35 ?_
      refine sg_iconst (pn := 71) dX5_readClause_70 rfl ic_1 ?_
      refine sg_iadd (pn := 72) dX5_readClause_71 rfl ?_
      refine pfC_1_5 (pn := 75) dX5_readClause_72 rfl lf_X5_35 ?_
      obtain ⟨z3, e_z3, h⟩ := sg_letE h
      refine sg_zE e_z3 ?_
      refine sg_aload_n (pn := 76) (i := 0) dX5_readClause_75 rfl rfl 0 rfl ?_
      refine sg_iload_n (pn := 77) (i := 1) dX5_readClause_76 rfl rfl 1 rfl ?_
      obtain ⟨r4, h_r4, h⟩ := sg_bind h
      refine sg_callVv (pn := 80) (rest := []) 1 dX5_readClause_77 rfl kb_X5_60 kv_X5_readRest (by exact rfl) rfl (Nat.le_of_ble_eq_true rfl) (gC_Reader_readRest_ok h_r4) rfl rfl (Nat.le_of_ble_eq_true rfl) ?_
      obtain rfl := Option.some.inj h
      exact sg_vret dX5_readClause_80 rfl ⟨rfl, rfl⟩
    · have h := sg_ifn hc h
      refine sg_aload_n (pn := 54) (i := 0) dX5_readClause_53 rfl rfl 0 rfl ?_
      refine sg_iconst (pn := 55) dX5_readClause_54 rfl ic_3 ?_
      refine sg_aload_n (pn := 56) (i := 0) dX5_readClause_55 rfl rfl 0 rfl ?_
      refine gfC_1_5 (pn := 59) dX5_readClause_56 rfl lf_X5_35 ?_
      obtain ⟨r5, h_r5, h⟩ := sg_bind h
      refine sg_callVv (pn := 62) (rest := []) 1 dX5_readClause_59 rfl kb_X5_52 kv_X5_fail (by exact rfl) rfl (Nat.le_of_ble_eq_true rfl) (gC_Reader_fail_ok h_r5) rfl rfl (Nat.le_of_ble_eq_true rfl) ?_
      refine sg_goto (tgt := 80) dX5_readClause_62 (by decide) ?_
      obtain rfl := Option.some.inj h
      exact sg_vret dX5_readClause_80 rfl ⟨rfl, rfl⟩
  · have h := sg_ifn hc h
    refine sg_aload_n (pn := 12) (i := 0) dX5_readClause_11 rfl rfl 0 rfl ?_
    refine gfC_1_0 (pn := 15) dX5_readClause_12 rfl lf_X5_12 ?_
    refine gfC_2_0 (pn := 18) dX5_readClause_15 rfl lf_X5_49 ?_
    refine sg_if_eq (pn := 21) (tgt := 33) dX5_readClause_18 rfl (by decide) (fun hc => ?_) (fun hc => ?_)
    · have h := sg_ifp hc h
      refine sg_aload_n (pn := 34) (i := 0) dX5_readClause_33 rfl rfl 0 rfl ?_
      refine sg_iconst (pn := 35) dX5_readClause_34 rfl ic_1 ?_
      refine sg_aload_n (pn := 36) (i := 0) dX5_readClause_35 rfl rfl 0 rfl ?_
      refine gfC_1_5 (pn := 39) dX5_readClause_36 rfl lf_X5_35 ?_
      obtain ⟨r6, h_r6, h⟩ := sg_bind h
      refine sg_callVv (pn := 42) (rest := []) 1 dX5_readClause_39 rfl kb_X5_52 kv_X5_fail (by exact rfl) rfl (Nat.le_of_ble_eq_true rfl) (gC_Reader_fail_ok h_r6) rfl rfl (Nat.le_of_ble_eq_true rfl) ?_
      refine sg_goto (tgt := 80) dX5_readClause_42 (by decide) ?_
      obtain rfl := Option.some.inj h
      exact sg_vret dX5_readClause_80 rfl ⟨rfl, rfl⟩
    · have h := sg_ifn hc h
      refine sg_iload_n (pn := 22) (i := 1) dX5_readClause_21 rfl rfl 1 rfl ?_
      refine sg_bipush (pn := 24) dX5_readClause_22 rfl ib_119 ?_
      refine sg_icmp_eq (pn := 27) (tgt := 45) dX5_readClause_24 rfl (by decide) (fun hc => ?_) (fun hc => ?_)
      · have h := sg_ifp hc h
        refine sg_aload_n (pn := 46) (i := 0) dX5_readClause_45 rfl rfl 0 rfl ?_
        refine sg_iload_n (pn := 47) (i := 1) dX5_readClause_46 rfl rfl 1 rfl ?_
        obtain ⟨r7, h_r7, h⟩ := sg_bind h
        refine sg_callVi (pn := 50) (rest := []) 1 dX5_readClause_47 rfl kb_X5_56 kv_X5_isOneTooMany (by exact rfl) rfl (Nat.le_of_ble_eq_true rfl) (gC_Reader_isOneTooMany_ok h_r7) rfl rfl (Nat.le_of_ble_eq_true rfl) ?_
        refine sg_if_eq (pn := 53) (tgt := 65) dX5_readClause_50 rfl (by decide) (fun hc => ?_) (fun hc => ?_)
        · have h := sg_ifp hc h
          refine sg_aload_n (pn := 66) (i := 0) dX5_readClause_65 rfl rfl 0 rfl ?_
          refine sg_dup (pn := 67) dX5_readClause_66 rfl rfl ?_
          refine gfC_1_5 (pn := 70) dX5_readClause_67 rfl lf_X5_35 ?_
          refine sg_iconst (pn := 71) dX5_readClause_70 rfl ic_1 ?_
          refine sg_iadd (pn := 72) dX5_readClause_71 rfl ?_
          refine pfC_1_5 (pn := 75) dX5_readClause_72 rfl lf_X5_35 ?_
          obtain ⟨z8, e_z8, h⟩ := sg_letE h
          refine sg_zE e_z8 ?_
          refine sg_aload_n (pn := 76) (i := 0) dX5_readClause_75 rfl rfl 0 rfl ?_
          refine sg_iload_n (pn := 77) (i := 1) dX5_readClause_76 rfl rfl 1 rfl ?_
          obtain ⟨r9, h_r9, h⟩ := sg_bind h
          refine sg_callVv (pn := 80) (rest := []) 1 dX5_readClause_77 rfl kb_X5_60 kv_X5_readRest (by exact rfl) rfl (Nat.le_of_ble_eq_true rfl) (gC_Reader_readRest_ok h_r9) rfl rfl (Nat.le_of_ble_eq_true rfl) ?_
          obtain rfl := Option.some.inj h
          exact sg_vret dX5_readClause_80 rfl ⟨rfl, rfl⟩
        · have h := sg_ifn hc h
          refine sg_aload_n (pn := 54) (i := 0) dX5_readClause_53 rfl rfl 0 rfl ?_
          refine sg_iconst (pn := 55) dX5_readClause_54 rfl ic_3 ?_
          refine sg_aload_n (pn := 56) (i := 0) dX5_readClause_55 rfl rfl 0 rfl ?_
          refine gfC_1_5 (pn := 59) dX5_readClause_56 rfl lf_X5_35 ?_
          obtain ⟨r10, h_r10, h⟩ := sg_bind h
          refine sg_callVv (pn := 62) (rest := []) 1 dX5_readClause_59 rfl kb_X5_52 kv_X5_fail (by exact rfl) rfl (Nat.le_of_ble_eq_true rfl) (gC_Reader_fail_ok h_r10) rfl rfl (Nat.le_of_ble_eq_true rfl) ?_
          refine sg_goto (tgt := 80) dX5_readClause_62 (by decide) ?_
          obtain rfl := Option.some.inj h
          exact sg_vret dX5_readClause_80 rfl ⟨rfl, rfl⟩
      · have h := sg_ifn hc h
        refine sg_iload_n (pn := 28) (i := 1) dX5_readClause_27 rfl rfl 1 rfl ?_
        refine sg_bipush (pn := 30) dX5_readClause_28 rfl ib_99 ?_
        refine sg_icmp_eq (pn := 33) (tgt := 45) dX5_readClause_30 rfl (by decide) (fun hc => ?_) (fun hc => ?_)
        · have h := sg_ifp hc h
          refine sg_aload_n (pn := 46) (i := 0) dX5_readClause_45 rfl rfl 0 rfl ?_
          refine sg_iload_n (pn := 47) (i := 1) dX5_readClause_46 rfl rfl 1 rfl ?_
          obtain ⟨r11, h_r11, h⟩ := sg_bind h
          refine sg_callVi (pn := 50) (rest := []) 1 dX5_readClause_47 rfl kb_X5_56 kv_X5_isOneTooMany (by exact rfl) rfl (Nat.le_of_ble_eq_true rfl) (gC_Reader_isOneTooMany_ok h_r11) rfl rfl (Nat.le_of_ble_eq_true rfl) ?_
          refine sg_if_eq (pn := 53) (tgt := 65) dX5_readClause_50 rfl (by decide) (fun hc => ?_) (fun hc => ?_)
          · have h := sg_ifp hc h
            refine sg_aload_n (pn := 66) (i := 0) dX5_readClause_65 rfl rfl 0 rfl ?_
            refine sg_dup (pn := 67) dX5_readClause_66 rfl rfl ?_
            refine gfC_1_5 (pn := 70) dX5_readClause_67 rfl lf_X5_35 ?_
            refine sg_iconst (pn := 71) dX5_readClause_70 rfl ic_1 ?_
            refine sg_iadd (pn := 72) dX5_readClause_71 rfl ?_
            refine pfC_1_5 (pn := 75) dX5_readClause_72 rfl lf_X5_35 ?_
            obtain ⟨z12, e_z12, h⟩ := sg_letE h
            refine sg_zE e_z12 ?_
            refine sg_aload_n (pn := 76) (i := 0) dX5_readClause_75 rfl rfl 0 rfl ?_
            refine sg_iload_n (pn := 77) (i := 1) dX5_readClause_76 rfl rfl 1 rfl ?_
            obtain ⟨r13, h_r13, h⟩ := sg_bind h
            refine sg_callVv (pn := 80) (rest := []) 1 dX5_readClause_77 rfl kb_X5_60 kv_X5_readRest (by exact rfl) rfl (Nat.le_of_ble_eq_true rfl) (gC_Reader_readRest_ok h_r13) rfl rfl (Nat.le_of_ble_eq_true rfl) ?_
            obtain rfl := Option.some.inj h
            exact sg_vret dX5_readClause_80 rfl ⟨rfl, rfl⟩
          · have h := sg_ifn hc h
            refine sg_aload_n (pn := 54) (i := 0) dX5_readClause_53 rfl rfl 0 rfl ?_
            refine sg_iconst (pn := 55) dX5_readClause_54 rfl ic_3 ?_
            refine sg_aload_n (pn := 56) (i := 0) dX5_readClause_55 rfl rfl 0 rfl ?_
            refine gfC_1_5 (pn := 59) dX5_readClause_56 rfl lf_X5_35 ?_
            obtain ⟨r14, h_r14, h⟩ := sg_bind h
            refine sg_callVv (pn := 62) (rest := []) 1 dX5_readClause_59 rfl kb_X5_52 kv_X5_fail (by exact rfl) rfl (Nat.le_of_ble_eq_true rfl) (gC_Reader_fail_ok h_r14) rfl rfl (Nat.le_of_ble_eq_true rfl) ?_
            refine sg_goto (tgt := 80) dX5_readClause_62 (by decide) ?_
            obtain rfl := Option.some.inj h
            exact sg_vret dX5_readClause_80 rfl ⟨rfl, rfl⟩
        · have h := sg_ifn hc h
          refine sg_aload_n (pn := 34) (i := 0) dX5_readClause_33 rfl rfl 0 rfl ?_
          refine sg_iconst (pn := 35) dX5_readClause_34 rfl ic_1 ?_
          refine sg_aload_n (pn := 36) (i := 0) dX5_readClause_35 rfl rfl 0 rfl ?_
          refine gfC_1_5 (pn := 39) dX5_readClause_36 rfl lf_X5_35 ?_
          obtain ⟨r15, h_r15, h⟩ := sg_bind h
          refine sg_callVv (pn := 42) (rest := []) 1 dX5_readClause_39 rfl kb_X5_52 kv_X5_fail (by exact rfl) rfl (Nat.le_of_ble_eq_true rfl) (gC_Reader_fail_ok h_r15) rfl rfl (Nat.le_of_ble_eq_true rfl) ?_
          refine sg_goto (tgt := 80) dX5_readClause_42 (by decide) ?_
          obtain rfl := Option.some.inj h
          exact sg_vret dX5_readClause_80 rfl ⟨rfl, rfl⟩
set_option maxRecDepth 4000 in
theorem gC_Reader_readText_L_ok {l : Launch} {D : va_G} {cI cZ : ClassId} {ad : Nat → Nat} : ∀ (n : Nat) (v1 : Int32) (z : sg_M) (r : Int32 × sg_M), gC_Reader_readText_L n v1 z = some r → sg_G (eC l D cI cZ ad) yX5_readText cX5_readText 2 (some .int) 6 29 [(0, .ref (ad 1)), (1, .int v1)] [] z (sg_is (some (.int r.1)) r.2) := by
  intro n
  induction n with
  | zero => intro v1 z r h; cases h
  | succ n ih =>
    intro v1 z r h
    unfold gC_Reader_readText_L at h
    refine sg_iload_n (pn := 30) (i := 1) dX5_readText_29 rfl rfl 1 rfl ?_
    refine sg_sipush (pn := 33) dX5_readText_30 rfl is_240 ?_
    refine sg_icmp_ge (pn := 36) (tgt := 61) dX5_readText_33 rfl (by decide) (fun hc => ?_) (fun hc => ?_)
    · have h := sg_ifp hc h
      refine sg_aload_n (pn := 62) (i := 0) dX5_readText_61 rfl rfl 0 rfl ?_
      refine gfC_1_4 (pn := 65) dX5_readText_62 rfl lf_X5_32 ?_
      obtain rfl := Option.some.inj h
      exact sg_iret dX5_readText_65 rfl ⟨rfl, rfl⟩
    · have h := sg_ifn hc h
      refine sg_aload_n (pn := 37) (i := 0) dX5_readText_36 rfl rfl 0 rfl ?_
      refine gfC_1_4 (pn := 40) dX5_readText_37 rfl lf_X5_32 ?_
      refine sg_if_ne (pn := 43) (tgt := 61) dX5_readText_40 rfl (by decide) (fun hc => ?_) (fun hc => ?_)
      · have h := sg_ifn hc h
        refine sg_aload_n (pn := 62) (i := 0) dX5_readText_61 rfl rfl 0 rfl ?_
        refine gfC_1_4 (pn := 65) dX5_readText_62 rfl lf_X5_32 ?_
        obtain rfl := Option.some.inj h
        exact sg_iret dX5_readText_65 rfl ⟨rfl, rfl⟩
      · have h := sg_ifp hc h
        refine sg_aload_n (pn := 44) (i := 0) dX5_readText_43 rfl rfl 0 rfl ?_
        obtain ⟨r6, h_r6, h⟩ := sg_bind h
        refine sg_callVi (pn := 47) (rest := []) 1 dX5_readText_44 rfl kb_X5_42 kv_X5_nextLetter (by exact rfl) rfl (Nat.le_of_ble_eq_true rfl) (gC_Reader_nextLetter_ok h_r6) rfl rfl (Nat.le_of_ble_eq_true rfl) ?_
        refine sg_iconst (pn := 48) dX5_readText_47 rfl ic_m1 ?_
        refine sg_icmp_eq (pn := 51) (tgt := 61) dX5_readText_48 rfl (by decide) (fun hc => ?_) (fun hc => ?_)
        · have h := sg_ifp hc h
          refine sg_aload_n (pn := 62) (i := 0) dX5_readText_61 rfl rfl 0 rfl ?_
          refine gfC_1_4 (pn := 65) dX5_readText_62 rfl lf_X5_32 ?_
          obtain rfl := Option.some.inj h
          exact sg_iret dX5_readText_65 rfl ⟨rfl, rfl⟩
        · have h := sg_ifn hc h
          refine sg_aload_n (pn := 52) (i := 0) dX5_readText_51 rfl rfl 0 rfl ?_
          obtain ⟨r7, h_r7, h⟩ := sg_bind h
          refine sg_callVv (pn := 55) (rest := []) 1 dX5_readText_52 rfl kb_X5_46 kv_X5_readClause (by exact rfl) rfl (Nat.le_of_ble_eq_true rfl) (gC_Reader_readClause_ok h_r7) rfl rfl (Nat.le_of_ble_eq_true rfl) ?_
          refine sg_iinc (pn := 58) (i := 1) (lv' := [(0, .ref (ad 1)), (1, .int (v1 + (1 : Int32)))]) dX5_readText_55 rfl 1 rfl (ii_1 _) (Nat.le_of_ble_eq_true rfl) [1, 0] rfl ?_
          refine sg_goto (tgt := 29) dX5_readText_58 (by decide) ?_
          exact ih _ _ _ h
set_option maxRecDepth 4000 in
theorem gC_Reader_readText_ok {l : Launch} {D : va_G} {cI cZ : ClassId} {ad : Nat → Nat} {n : Nat} {z : sg_M} {r : Int32 × sg_M} (h : gC_Reader_readText n z = some r) : sg_Met (eC l D cI cZ ad) yX5_readText cX5_readText 2 (some .int) 6 [.ref (ad 1)] z (sg_is (some (.int r.1)) r.2) := by
  refine sg_enter (lv0 := [(0, .ref (ad 1))]) pn_X5 (Nat.le_of_ble_eq_true rfl) rfl ?_
  unfold gC_Reader_readText at h
  refine sg_aload_n (pn := 1) (i := 0) dX5_readText_0 rfl rfl 0 rfl ?_
  refine gfC_1_0 (pn := 4) dX5_readText_1 rfl lf_X5_12 ?_
  obtain ⟨r1, h_r1, h⟩ := sg_bind h
  refine sg_callVv (pn := 7) (rest := []) 2 dX5_readText_4 rfl kb_X5_29 kv_X6_clear (by exact rfl) rfl (Nat.le_of_ble_eq_true rfl) (gC_Road_clear_2_ok h_r1) rfl rfl (Nat.le_of_ble_eq_true rfl) ?_
  refine sg_aload_n (pn := 8) (i := 0) dX5_readText_7 rfl rfl 0 rfl ?_
  refine sg_iconst (pn := 9) dX5_readText_8 rfl ic_0 ?_
  refine pfC_1_4 (pn := 12) dX5_readText_9 rfl lf_X5_32 ?_
  obtain ⟨z2, e_z2, h⟩ := sg_letE h
  refine sg_zE e_z2 ?_
  refine sg_aload_n (pn := 13) (i := 0) dX5_readText_12 rfl rfl 0 rfl ?_
  refine sg_iconst (pn := 14) dX5_readText_13 rfl ic_m1 ?_
  refine pfC_1_2 (pn := 17) dX5_readText_14 rfl lf_X5_18 ?_
  obtain ⟨z3, e_z3, h⟩ := sg_letE h
  refine sg_zE e_z3 ?_
  refine sg_aload_n (pn := 18) (i := 0) dX5_readText_17 rfl rfl 0 rfl ?_
  refine sg_iconst (pn := 19) dX5_readText_18 rfl ic_0 ?_
  refine pfC_1_5 (pn := 22) dX5_readText_19 rfl lf_X5_35 ?_
  obtain ⟨z4, e_z4, h⟩ := sg_letE h
  refine sg_zE e_z4 ?_
  refine sg_aload_n (pn := 23) (i := 0) dX5_readText_22 rfl rfl 0 rfl ?_
  refine sg_iconst (pn := 24) dX5_readText_23 rfl ic_0 ?_
  refine pfC_1_6 (pn := 27) dX5_readText_24 rfl lf_X5_38 rfl rfl ?_
  obtain ⟨z5, e_z5, h⟩ := sg_letE h
  refine sg_zE e_z5 ?_
  refine sg_iconst (pn := 28) dX5_readText_27 rfl ic_0 ?_
  refine sg_istore_n (pn := 29) (i := 1) (lv' := [(0, .ref (ad 1)), (1, .int (0 : Int32))]) dX5_readText_28 rfl rfl (Nat.le_of_ble_eq_true rfl) [1, 0] rfl ?_
  exact gC_Reader_readText_L_ok n _ _ _ h
