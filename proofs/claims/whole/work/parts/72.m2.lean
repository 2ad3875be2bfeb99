set_option maxHeartbeats 4000000 in
set_option maxRecDepth 100000 in
theorem c_X_dayOf {l : Launch} {E : En} {A : Nat → Prop} (x0 : Int) (x1 : Int) (I : Mm)  (hI : rgM I) (h0 : r32 x0) (h1 : r32 x1) : CI l E A yX10_dayOf cX10_dayOf 2 .int 0 0 [.int (i2 x0), .int (i2 x1)] I (V_X_dayOf x0 x1 I) := by
  intro Q v
  refine mk_met (own := RX10) (lv0 := [(0, .int (i2 x0)), (1, .int (i2 x1))]) (by decide) rfl (Nat.le_of_ble_eq_true rfl) rfl (fun p e s m args below meth c0 B hr hk => ?_)
  unfold V_X_dayOf at v
  refine r_iload_n B dX10_dayOf_0 rfl rfl ?_
  refine r_iconst B dX10_dayOf_1 ?_
  refine r_icmp_ge B (tgt := 9) dX10_dayOf_2 (by decide) h1 ((rg_lit (by decide) (by decide))) (fun h => ?_) (fun h => ?_)
  · have v := v.1 h
    refine r_iload_n B dX10_dayOf_9 rfl rfl ?_
    refine r_iload_n B dX10_dayOf_10 rfl rfl ?_
    obtain ⟨h21, v⟩ := v
    refine r_idiv B dX10_dayOf_11 h0 h1 h21 ?_
    exact r_iret B hr hk rfl ((rg_div h0 h21.1 h21.2)) hI v dX10_dayOf_12
  · have v := v.2 h
    refine r_iconst B dX10_dayOf_5 ?_
    refine r_goto B (tgt := 12) dX10_dayOf_6 (by decide) ?_
    exact r_iret B hr hk rfl ((rg_lit (by decide) (by decide))) hI v dX10_dayOf_12
set_option maxHeartbeats 4000000 in
set_option maxRecDepth 100000 in
theorem c_X_looksFrom {l : Launch} {E : En} {A : Nat → Prop} (x0 : Int) (x1 : Int) (x2 : Int) (x3 : Int) (I : Mm)  (hI : rgM I) (h0 : r32 x0) (h1 : r32 x1) (h2 : r32 x2) (h3 : r32 x3) : CI l E A yX10_looksFrom cX10_looksFrom 5 .int 1 21 [.int (i2 x0), .int (i2 x1), .int (i2 x2), .int (i2 x3)] I (V_X_looksFrom x0 x1 x2 x3 I) := by
  intro Q v
  refine mk_met (own := RX10) (lv0 := [(0, .int (i2 x0)), (1, .int (i2 x1)), (2, .int (i2 x2)), (3, .int (i2 x3))]) (by decide) rfl (Nat.le_of_ble_eq_true rfl) rfl (fun p e s m args below meth c0 B hr hk => ?_)
  unfold V_X_looksFrom at v
  refine r_iload_n B dX10_looksFrom_0 rfl rfl ?_
  refine r_iload_n B dX10_looksFrom_1 rfl rfl ?_
  refine r_sI B (st := []) (as := [.int (i2 x1), .int (i2 x3)]) (c_X_dayOf x1 x3 _ hI h1 h3) v mw_X_dayOf wl_X10_315 ⟨Nat.le_of_ble_eq_true rfl, Nat.le_of_ble_eq_true rfl⟩ rfl rfl (Nat.le_of_ble_eq_true rfl) dX10_looksFrom_2 (fun z21 I22 hz21 hI22 v => ?_)
  refine r_iload_n B dX10_looksFrom_5 rfl rfl ?_
  refine r_iload_n B dX10_looksFrom_6 rfl rfl ?_
  refine r_sI B (st := [.int (i2 z21)]) (as := [.int (i2 x0), .int (i2 x3)]) (c_X_dayOf x0 x3 _ hI22 h0 h3) v mw_X_dayOf wl_X10_315 ⟨Nat.le_of_ble_eq_true rfl, Nat.le_of_ble_eq_true rfl⟩ rfl rfl (Nat.le_of_ble_eq_true rfl) dX10_looksFrom_7 (fun z23 I24 hz23 hI24 v => ?_)
  refine r_isub B dX10_looksFrom_10 ?_
  refine r_istore B dX10_looksFrom_11 (by decide) (lv' := [(4, .int (i2 (z21 - z23))), (0, .int (i2 x0)), (1, .int (i2 x1)), (2, .int (i2 x2)), (3, .int (i2 x3))]) rfl ?_
  refine r_sub [1, 2, 3, 4, 0] rfl ?_
  refine r_iload B dX10_looksFrom_13 rfl ?_
  refine r_iload_n B dX10_looksFrom_15 rfl rfl ?_
  obtain ⟨h25, v⟩ := v
  refine r_icmp_ge B (tgt := 26) dX10_looksFrom_16 (by decide) h25 h2 (fun h => ?_) (fun h => ?_)
  · have v := v.1 h
    refine r_iconst B dX10_looksFrom_26 ?_
    refine r_iload_n B dX10_looksFrom_27 rfl rfl ?_
    refine r_imul B dX10_looksFrom_28 ?_
    obtain ⟨h26, v⟩ := v
    exact r_iret B hr hk rfl h26 hI24 v dX10_looksFrom_29
  · have v := v.2 h
    refine r_iload B dX10_looksFrom_19 rfl ?_
    refine r_iconst B dX10_looksFrom_21 ?_
    refine r_iadd B dX10_looksFrom_22 ?_
    refine r_goto B (tgt := 29) dX10_looksFrom_23 (by decide) ?_
    obtain ⟨h27, v⟩ := v
    exact r_iret B hr hk rfl h27 hI24 v dX10_looksFrom_29
set_option maxHeartbeats 4000000 in
set_option maxRecDepth 100000 in
theorem c_Lo_add {l : Launch} {E : En} {A : Nat → Prop} (c : Int) (x1 : Int) (x2 : Int) (x3 : Int) (x4 : Int) (I : Mm) (hc : isLo c) (hI : rgM I) (h1 : r32 x1) (h2 : r32 x2) (h3 : r32 x3) (h4 : r32 x4) : CV l E A yX2_add cX2_add 6 1 60 [.ref (eA E c), .int (i2 x1), .int (i2 x2), .int (i2 x3), .int (i2 x4)] I (V_Lo_add c x1 x2 x3 x4 I) := by
  intro Q v
  refine mk_met (own := RX2) (lv0 := [(0, .ref (eA E c)), (1, .int (i2 x1)), (2, .int (i2 x2)), (3, .int (i2 x3)), (4, .int (i2 x4))]) (by decide) rfl (Nat.le_of_ble_eq_true rfl) rfl (fun p e s m args below meth c0 B hr hk => ?_)
  unfold V_Lo_add at v
  refine r_aload_n B dX2_add_0 rfl rfl ?_
  refine r_getI B (C := RX2) (T := TX2) (N := 3) (hc.1) 1 rfl win_X2 (by decide) rfl wf_X2_15 dX2_add_1 (jj := 1) rfl ?_
  refine r_iconst B dX2_add_4 ?_
  refine r_imul B dX2_add_5 ?_
  refine r_istore B dX2_add_6 (by decide) (lv' := [(5, .int (i2 (I c 1 * 4))), (0, .ref (eA E c)), (1, .int (i2 x1)), (2, .int (i2 x2)), (3, .int (i2 x3)), (4, .int (i2 x4))]) rfl ?_
  refine r_sub [1, 2, 3, 4, 5, 0] rfl ?_
  refine r_aload_n B dX2_add_8 rfl rfl ?_
  refine r_getR B (C := RX2) (T := TX2) (N := 3) (hc.1) 2 rfl win_X2 (by decide) rfl wf_X2_11 dX2_add_9 ?_
  refine r_iload B dX2_add_12 rfl ?_
  refine r_iload_n B dX2_add_14 rfl rfl ?_
  obtain ⟨h21, v⟩ := v
  refine r_ast B (hc.2) (by decide) h21 dX2_add_15 ?_
  have hI22 : rgM (wrM I (c + 1) (I c 1 * 4) x1) := rg_wr hI h1
  refine r_aload_n B dX2_add_16 rfl rfl ?_
  refine r_getR B (C := RX2) (T := TX2) (N := 3) (hc.1) 2 rfl win_X2 (by decide) rfl wf_X2_11 dX2_add_17 ?_
  refine r_iload B dX2_add_20 rfl ?_
  refine r_iconst B dX2_add_22 ?_
  refine r_iadd B dX2_add_23 ?_
  refine r_iload_n B dX2_add_24 rfl rfl ?_
  obtain ⟨h23, v⟩ := v
  refine r_ast B (hc.2) (by decide) h23 dX2_add_25 ?_
  have hI24 : rgM (wrM ((wrM I (c + 1) (I c 1 * 4) x1)) (c + 1) ((I c 1 * 4) + 1) x2) := rg_wr hI22 h2
  refine r_aload_n B dX2_add_26 rfl rfl ?_
  refine r_getR B (C := RX2) (T := TX2) (N := 3) (hc.1) 2 rfl win_X2 (by decide) rfl wf_X2_11 dX2_add_27 ?_
  refine r_iload B dX2_add_30 rfl ?_
  refine r_iconst B dX2_add_32 ?_
  refine r_iadd B dX2_add_33 ?_
  refine r_iload_n B dX2_add_34 rfl rfl ?_
  obtain ⟨h25, v⟩ := v
  refine r_ast B (hc.2) (by decide) h25 dX2_add_35 ?_
  have hI26 : rgM (wrM ((wrM ((wrM I (c + 1) (I c 1 * 4) x1)) (c + 1) ((I c 1 * 4) + 1) x2)) (c + 1) ((I c 1 * 4) + 2) x3) := rg_wr hI24 h3
  refine r_aload_n B dX2_add_36 rfl rfl ?_
  refine r_getR B (C := RX2) (T := TX2) (N := 3) (hc.1) 2 rfl win_X2 (by decide) rfl wf_X2_11 dX2_add_37 ?_
  refine r_iload B dX2_add_40 rfl ?_
  refine r_iconst B dX2_add_42 ?_
  refine r_iadd B dX2_add_43 ?_
  refine r_iload B dX2_add_44 rfl ?_
  obtain ⟨h27, v⟩ := v
  refine r_ast B (hc.2) (by decide) h27 dX2_add_46 ?_
  have hI28 : rgM (wrM ((wrM ((wrM ((wrM I (c + 1) (I c 1 * 4) x1)) (c + 1) ((I c 1 * 4) + 1) x2)) (c + 1) ((I c 1 * 4) + 2) x3)) (c + 1) ((I c 1 * 4) + 3) x4) := rg_wr hI26 h4
  refine r_aload_n B dX2_add_47 rfl rfl ?_
  refine r_aload_n B dX2_add_48 rfl rfl ?_
  refine r_getI B (C := RX2) (T := TX2) (N := 3) (hc.1) 1 rfl win_X2 (by decide) rfl wf_X2_15 dX2_add_49 (jj := 1) rfl ?_
  refine r_iconst B dX2_add_52 ?_
  refine r_iadd B dX2_add_53 ?_
  refine r_bipush B dX2_add_54 (by decide) ?_
  obtain ⟨h29, v⟩ := v
  obtain ⟨h30, v⟩ := v
  refine r_irem B dX2_add_56 h29 ((rg_lit (by decide) (by decide))) (show 0 ≤ ((wrM ((wrM ((wrM ((wrM I (c + 1) (I c 1 * 4) x1)) (c + 1) ((I c 1 * 4) + 1) x2)) (c + 1) ((I c 1 * 4) + 2) x3)) (c + 1) ((I c 1 * 4) + 3) x4) c 1 + 1) ∧ (0 : Int) < 50 from ⟨h30, by decide⟩) ?_
  refine r_putI B (C := RX2) (T := TX2) (N := 3) (hc.1) 1 rfl win_X2 tyX2 tyX2_ok nmX2 (by decide) rfl rfl rfl wf_X2_15 dX2_add_57 (jj := 1) rfl ?_
  have hI31 : rgM (wrM ((wrM ((wrM ((wrM ((wrM I (c + 1) (I c 1 * 4) x1)) (c + 1) ((I c 1 * 4) + 1) x2)) (c + 1) ((I c 1 * 4) + 2) x3)) (c + 1) ((I c 1 * 4) + 3) x4)) c 1 (((wrM ((wrM ((wrM ((wrM I (c + 1) (I c 1 * 4) x1)) (c + 1) ((I c 1 * 4) + 1) x2)) (c + 1) ((I c 1 * 4) + 2) x3)) (c + 1) ((I c 1 * 4) + 3) x4) c 1 + 1) % 50)) := rg_wr hI28 ((rg_rem ((rg_lit (by decide) (by decide))) (show 0 ≤ ((wrM ((wrM ((wrM ((wrM I (c + 1) (I c 1 * 4) x1)) (c + 1) ((I c 1 * 4) + 1) x2)) (c + 1) ((I c 1 * 4) + 2) x3)) (c + 1) ((I c 1 * 4) + 3) x4) c 1 + 1) ∧ (0 : Int) < 50 from ⟨h30, by decide⟩).2))
  refine r_aload_n B dX2_add_60 rfl rfl ?_
  refine r_aload_n B dX2_add_61 rfl rfl ?_
  refine r_getI B (C := RX2) (T := TX2) (N := 3) (hc.1) 0 rfl win_X2 (by decide) rfl wf_X2_19 dX2_add_62 (jj := 0) rfl ?_
  refine r_iconst B dX2_add_65 ?_
  refine r_iadd B dX2_add_66 ?_
  refine r_bipush B dX2_add_67 (by decide) ?_
  obtain ⟨h32, v⟩ := v
  refine r_min B wl_X2_22 ws_r_min wi_Math wd_r_min (Nat.le_of_ble_eq_true rfl) (Nat.le_of_ble_eq_true rfl) h32 ((rg_lit (by decide) (by decide))) dX2_add_69 ?_
  refine r_putI B (C := RX2) (T := TX2) (N := 3) (hc.1) 0 rfl win_X2 tyX2 tyX2_ok nmX2 (by decide) rfl rfl rfl wf_X2_19 dX2_add_72 (jj := 0) rfl ?_
  have hI33 : rgM (wrM ((wrM ((wrM ((wrM ((wrM ((wrM I (c + 1) (I c 1 * 4) x1)) (c + 1) ((I c 1 * 4) + 1) x2)) (c + 1) ((I c 1 * 4) + 2) x3)) (c + 1) ((I c 1 * 4) + 3) x4)) c 1 (((wrM ((wrM ((wrM ((wrM I (c + 1) (I c 1 * 4) x1)) (c + 1) ((I c 1 * 4) + 1) x2)) (c + 1) ((I c 1 * 4) + 2) x3)) (c + 1) ((I c 1 * 4) + 3) x4) c 1 + 1) % 50))) c 0 (min ((wrM ((wrM ((wrM ((wrM ((wrM I (c + 1) (I c 1 * 4) x1)) (c + 1) ((I c 1 * 4) + 1) x2)) (c + 1) ((I c 1 * 4) + 2) x3)) (c + 1) ((I c 1 * 4) + 3) x4)) c 1 (((wrM ((wrM ((wrM ((wrM I (c + 1) (I c 1 * 4) x1)) (c + 1) ((I c 1 * 4) + 1) x2)) (c + 1) ((I c 1 * 4) + 2) x3)) (c + 1) ((I c 1 * 4) + 3) x4) c 1 + 1) % 50)) c 0 + 1) 50)) := rg_wr hI31 ((rg_min h32 ((rg_lit (by decide) (by decide)))))
  exact r_vret B hr hk hI33 v dX2_add_75
set_option maxHeartbeats 4000000 in
set_option maxRecDepth 100000 in
theorem c_Th_has {l : Launch} {E : En} {A : Nat → Prop} (c : Int) (x1 : Int) (I : Mm) (hc : isTh c) (hI : rgM I) (h1 : r32 x1) : CI l E A yX8_has cX8_has 2 .boolean 0 0 [.ref (eA E c), .int (i2 x1)] I (V_Th_has c x1 I) := by
  intro Q v
  refine mk_met (own := RX8) (lv0 := [(0, .ref (eA E c)), (1, .int (i2 x1))]) (by decide) rfl (Nat.le_of_ble_eq_true rfl) rfl (fun p e s m args below meth c0 B hr hk => ?_)
  unfold V_Th_has at v
  refine r_iload_n B dX8_has_0 rfl rfl ?_
  refine r_if_lt B (tgt := 16) dX8_has_1 (by decide) h1 (fun h => ?_) (fun h => ?_)
  · have v := v.1 h
    refine r_iconst B dX8_has_16 ?_
    exact r_iret B hr hk rfl ((rg_lit (by decide) (by decide))) hI v dX8_has_17
  · have v := v.2 h
    refine r_iload_n B dX8_has_4 rfl rfl ?_
    refine r_aload_n B dX8_has_5 rfl rfl ?_
    refine r_getI B (C := RX8) (T := TX8) (N := 4) (hc.1) 0 rfl win_X8 (by decide) rfl wf_X8_21 dX8_has_6 (jj := 0) rfl ?_
    refine r_icmp_ge B (tgt := 16) dX8_has_9 (by decide) h1 ((hI _ _)) (fun h => ?_) (fun h => ?_)
    · have v := v.1 h
      refine r_iconst B dX8_has_16 ?_
      exact r_iret B hr hk rfl ((rg_lit (by decide) (by decide))) hI v dX8_has_17
    · have v := v.2 h
      refine r_iconst B dX8_has_12 ?_
      refine r_goto B (tgt := 17) dX8_has_13 (by decide) ?_
      exact r_iret B hr hk rfl ((rg_lit (by decide) (by decide))) hI v dX8_has_17
set_option maxHeartbeats 4000000 in
set_option maxRecDepth 100000 in
theorem c_Th_removeAt {l : Launch} {E : En} {A : Nat → Prop} (c : Int) (x1 : Int) (I : Mm) (hc : isTh c) (hI : rgM I) (h1 : r32 x1) : CV l E A yX8_removeAt cX8_removeAt 3 1 60 [.ref (eA E c), .int (i2 x1)] I (V_Th_removeAt c x1 I) := by
  intro Q v
  refine mk_met (own := RX8) (lv0 := [(0, .ref (eA E c)), (1, .int (i2 x1))]) (by decide) rfl (Nat.le_of_ble_eq_true rfl) rfl (fun p e s m args below meth c0 B hr hk => ?_)
  unfold V_Th_removeAt at v
  refine r_aload_n B dX8_removeAt_0 rfl rfl ?_
  refine r_iload_n B dX8_removeAt_1 rfl rfl ?_
  refine r_cI B (st := []) (as := [.int (i2 x1)]) (T := TX8) (N := 4) (c_Th_has c x1 _ hc hI h1) v (hc.1) rfl mw_Th_has wl_X8_35 ⟨Nat.le_of_ble_eq_true rfl, Nat.le_of_ble_eq_true rfl⟩ rfl rfl (Nat.le_of_ble_eq_true rfl) dX8_removeAt_2 (fun z21 I22 hz21 hI22 v => ?_)
  refine r_if_ne B (tgt := 9) dX8_removeAt_5 (by decide) hz21 (fun h => ?_) (fun h => ?_)
  · have v := v.1 h
    refine r_aload_n B dX8_removeAt_9 rfl rfl ?_
    refine r_dup B dX8_removeAt_10 rfl ?_
    refine r_getI B (C := RX8) (T := TX8) (N := 4) (hc.1) 0 rfl win_X8 (by decide) rfl wf_X8_21 dX8_removeAt_11 (jj := 0) rfl ?_
    refine r_iconst B dX8_removeAt_14 ?_
    refine r_isub B dX8_removeAt_15 ?_
    obtain ⟨h23, v⟩ := v
    refine r_putI B (C := RX8) (T := TX8) (N := 4) (hc.1) 0 rfl win_X8 tyX8 tyX8_ok nmX8 (by decide) rfl rfl rfl wf_X8_21 dX8_removeAt_16 (jj := 0) rfl ?_
    have hI24 : rgM (wrM I22 c 0 (I22 c 0 - 1)) := rg_wr hI22 h23
    refine r_aload_n B dX8_removeAt_19 rfl rfl ?_
    refine r_getI B (C := RX8) (T := TX8) (N := 4) (hc.1) 0 rfl win_X8 (by decide) rfl wf_X8_21 dX8_removeAt_20 (jj := 0) rfl ?_
    refine r_iload_n B dX8_removeAt_23 rfl rfl ?_
    refine r_isub B dX8_removeAt_24 ?_
    refine r_name (fun y25 ey25 => ?_)
    have v := v y25 ey25
    refine r_istore_n B dX8_removeAt_25 rfl (by decide) (lv' := [(2, .int (i2 y25)), (0, .ref (eA E c)), (1, .int (i2 x1))]) rfl ?_
    refine r_sub [1, 2, 0] rfl ?_
    refine r_aload_n B dX8_removeAt_26 rfl rfl ?_
    refine r_getR B (C := RX8) (T := TX8) (N := 4) (hc.1) 1 rfl win_X8 (by decide) rfl wf_X8_9 dX8_removeAt_27 ?_
    refine r_iload_n B dX8_removeAt_30 rfl rfl ?_
    refine r_iconst B dX8_removeAt_31 ?_
    refine r_iadd B dX8_removeAt_32 ?_
    refine r_aload_n B dX8_removeAt_33 rfl rfl ?_
    refine r_getR B (C := RX8) (T := TX8) (N := 4) (hc.1) 1 rfl win_X8 (by decide) rfl wf_X8_9 dX8_removeAt_34 ?_
    refine r_iload_n B dX8_removeAt_37 rfl rfl ?_
    refine r_iload_n B dX8_removeAt_38 rfl rfl ?_
    obtain ⟨h26, v⟩ := v
    obtain ⟨h27, v⟩ := v
    obtain ⟨h28, v⟩ := v
    obtain ⟨h29, v⟩ := v
    obtain ⟨h30, v⟩ := v
    refine r_copy B (hc.2.1) (hc.2.1) (by decide) (by decide) ⟨h26, h27, h28, h29, h30⟩ wl_X8_29 wn_copy ws_copy wi_System (Nat.le_of_ble_eq_true rfl) (by decide) dX8_removeAt_39 ?_
    have hI31 : rgM (cpM ((wrM I22 c 0 (I22 c 0 - 1))) (c + 1) (x1 + 1) (c + 1) x1 y25) := rg_cp hI24
    refine r_aload_n B dX8_removeAt_42 rfl rfl ?_
    refine r_getR B (C := RX8) (T := TX8) (N := 4) (hc.1) 2 rfl win_X8 (by decide) rfl wf_X8_15 dX8_removeAt_43 ?_
    refine r_iload_n B dX8_removeAt_46 rfl rfl ?_
    refine r_iconst B dX8_removeAt_47 ?_
    refine r_iadd B dX8_removeAt_48 ?_
    refine r_aload_n B dX8_removeAt_49 rfl rfl ?_
    refine r_getR B (C := RX8) (T := TX8) (N := 4) (hc.1) 2 rfl win_X8 (by decide) rfl wf_X8_15 dX8_removeAt_50 ?_
    refine r_iload_n B dX8_removeAt_53 rfl rfl ?_
    refine r_iload_n B dX8_removeAt_54 rfl rfl ?_
    obtain ⟨h32, v⟩ := v
    obtain ⟨h33, v⟩ := v
    obtain ⟨h34, v⟩ := v
    obtain ⟨h35, v⟩ := v
    obtain ⟨h36, v⟩ := v
    refine r_copy B (hc.2.2.1) (hc.2.2.1) (by decide) (by decide) ⟨h32, h33, h34, h35, h36⟩ wl_X8_29 wn_copy ws_copy wi_System (Nat.le_of_ble_eq_true rfl) (by decide) dX8_removeAt_55 ?_
    have hI37 : rgM (cpM ((cpM ((wrM I22 c 0 (I22 c 0 - 1))) (c + 1) (x1 + 1) (c + 1) x1 y25)) (c + 2) (x1 + 1) (c + 2) x1 y25) := rg_cp hI31
    refine r_aload_n B dX8_removeAt_58 rfl rfl ?_
    refine r_getR B (C := RX8) (T := TX8) (N := 4) (hc.1) 3 rfl win_X8 (by decide) rfl wf_X8_18 dX8_removeAt_59 ?_
    refine r_iload_n B dX8_removeAt_62 rfl rfl ?_
    refine r_iconst B dX8_removeAt_63 ?_
    refine r_iadd B dX8_removeAt_64 ?_
    refine r_aload_n B dX8_removeAt_65 rfl rfl ?_
    refine r_getR B (C := RX8) (T := TX8) (N := 4) (hc.1) 3 rfl win_X8 (by decide) rfl wf_X8_18 dX8_removeAt_66 ?_
    refine r_iload_n B dX8_removeAt_69 rfl rfl ?_
    refine r_iload_n B dX8_removeAt_70 rfl rfl ?_
    obtain ⟨h38, v⟩ := v
    obtain ⟨h39, v⟩ := v
    obtain ⟨h40, v⟩ := v
    obtain ⟨h41, v⟩ := v
    obtain ⟨h42, v⟩ := v
    refine r_copy B (hc.2.2.2) (hc.2.2.2) (by decide) (by decide) ⟨h38, h39, h40, h41, h42⟩ wl_X8_29 wn_copy ws_copy wi_System (Nat.le_of_ble_eq_true rfl) (by decide) dX8_removeAt_71 ?_
    have hI43 : rgM (cpM ((cpM ((cpM ((wrM I22 c 0 (I22 c 0 - 1))) (c + 1) (x1 + 1) (c + 1) x1 y25)) (c + 2) (x1 + 1) (c + 2) x1 y25)) (c + 3) (x1 + 1) (c + 3) x1 y25) := rg_cp hI37
    exact r_vret B hr hk hI43 v dX8_removeAt_74
  · have v := v.2 h
    exact r_vret B hr hk hI22 v dX8_removeAt_8
set_option maxHeartbeats 4000000 in
set_option maxRecDepth 100000 in
theorem c_Ca_goes {l : Launch} {E : En} {A : Nat → Prop} (c : Int) (x1 : Int) (I : Mm) (hc : isCa c) (hI : rgM I) (h1 : r32 x1) : CV l E A yX0_goes cX0_goes 2 2 87 [.ref (eA E c), .int (i2 x1)] I (V_Ca_goes c x1 I) := by
  intro Q v
  refine mk_met (own := RX0) (lv0 := [(0, .ref (eA E c)), (1, .int (i2 x1))]) (by decide) rfl (Nat.le_of_ble_eq_true rfl) rfl (fun p e s m args below meth c0 B hr hk => ?_)
  unfold V_Ca_goes at v
  refine r_aload_n B dX0_goes_0 rfl rfl ?_
  refine r_getR B (C := RX0) (T := TX0) (N := 9) (hc.1) 1 rfl win_X0 (by decide) rfl wf_X0_21 dX0_goes_1 ?_
  refine r_iload_n B dX0_goes_4 rfl rfl ?_
  refine r_cI B (st := []) (as := [.int (i2 x1)]) (T := TX8) (N := 4) (c_Th_has (c + 5) x1 _ (hc.2.2.1) hI h1) v (hc.2.2.1.1) rfl mw_Th_has wl_X0_99 ⟨Nat.le_of_ble_eq_true rfl, Nat.le_of_ble_eq_true rfl⟩ rfl rfl (Nat.le_of_ble_eq_true rfl) dX0_goes_5 (fun z21 I22 hz21 hI22 v => ?_)
  refine r_if_ne B (tgt := 12) dX0_goes_8 (by decide) hz21 (fun h => ?_) (fun h => ?_)
  · have v := v.1 h
    refine r_aload_n B dX0_goes_12 rfl rfl ?_
    refine r_getR B (C := RX0) (T := TX0) (N := 9) (hc.1) 1 rfl win_X0 (by decide) rfl wf_X0_21 dX0_goes_13 ?_
    refine r_iload_n B dX0_goes_16 rfl rfl ?_
    refine r_cV B (st := []) (as := [.int (i2 x1)]) (T := TX8) (N := 4) (c_Th_removeAt (c + 5) x1 _ (hc.2.2.1) hI22 h1) v (hc.2.2.1.1) rfl mw_Th_removeAt wl_X0_103 ⟨Nat.le_of_ble_eq_true rfl, Nat.le_of_ble_eq_true rfl⟩ rfl rfl (Nat.le_of_ble_eq_true rfl) dX0_goes_17 (fun I23 hI23 v => ?_)
    refine r_aload_n B dX0_goes_20 rfl rfl ?_
    refine r_getR B (C := RX0) (T := TX0) (N := 9) (hc.1) 1 rfl win_X0 (by decide) rfl wf_X0_21 dX0_goes_21 ?_
    refine r_getI B (C := RX8) (T := TX8) (N := 4) (hc.2.2.1.1) 0 rfl win_X8 (by decide) rfl wf_X0_53 dX0_goes_24 (jj := 0) rfl ?_
    refine r_aload_n B dX0_goes_27 rfl rfl ?_
    refine r_getI B (C := RX0) (T := TX0) (N := 9) (hc.1) 5 rfl win_X0 (by decide) rfl wf_X0_43 dX0_goes_28 (jj := 5) rfl ?_
    refine r_iconst B dX0_goes_31 ?_
    obtain ⟨h24, v⟩ := v
    refine r_idiv B dX0_goes_32 ((hI23 _ _)) ((rg_lit (by decide) (by decide))) (show 0 ≤ I23 c 5 ∧ (0 : Int) < 2 from ⟨h24, by decide⟩) ?_
    refine r_icmp_ge B (tgt := 75) dX0_goes_33 (by decide) ((hI23 _ _)) ((rg_div ((hI23 _ _)) (show 0 ≤ I23 c 5 ∧ (0 : Int) < 2 from ⟨h24, by decide⟩).1 (show 0 ≤ I23 c 5 ∧ (0 : Int) < 2 from ⟨h24, by decide⟩).2)) (fun h => ?_) (fun h => ?_)
    · have v := v.1 h
      exact r_vret B hr hk hI23 v dX0_goes_75
    · have v := v.2 h
      refine r_aload_n B dX0_goes_36 rfl rfl ?_
      refine r_getI B (C := RX0) (T := TX0) (N := 9) (hc.1) 5 rfl win_X0 (by decide) rfl wf_X0_43 dX0_goes_37 (jj := 5) rfl ?_
      refine r_iconst B dX0_goes_40 ?_
      refine r_icmp_le B (tgt := 75) dX0_goes_41 (by decide) ((hI23 _ _)) ((rg_lit (by decide) (by decide))) (fun h => ?_) (fun h => ?_)
      · have v := v.1 h
        exact r_vret B hr hk hI23 v dX0_goes_75
      · have v := v.2 h
        refine r_aload_n B dX0_goes_44 rfl rfl ?_
        refine r_getR B (C := RX0) (T := TX0) (N := 9) (hc.1) 4 rfl win_X0 (by decide) rfl wf_X0_39 dX0_goes_45 ?_
        refine r_iconst B dX0_goes_48 ?_
        refine r_dup2 B dX0_goes_49 rfl rfl ?_
        refine r_ald B (hc.2.2.2.2.2) (by decide) (by decide) dX0_goes_50 ?_
        refine r_iconst B dX0_goes_51 ?_
        refine r_iadd B dX0_goes_52 ?_
        obtain ⟨h25, v⟩ := v
        refine r_ast B (hc.2.2.2.2.2) (by decide) (by decide) dX0_goes_53 ?_
        have hI26 : rgM (wrM I23 (c + 15) 4 (I23 (c + 15) 4 + 1)) := rg_wr hI23 h25
        refine r_aload_n B dX0_goes_54 rfl rfl ?_
        refine r_aload_n B dX0_goes_55 rfl rfl ?_
        refine r_getI B (C := RX0) (T := TX0) (N := 9) (hc.1) 5 rfl win_X0 (by decide) rfl wf_X0_43 dX0_goes_56 (jj := 5) rfl ?_
        refine r_iconst B dX0_goes_59 ?_
        obtain ⟨h27, v⟩ := v
        refine r_idiv B dX0_goes_60 ((hI26 _ _)) ((rg_lit (by decide) (by decide))) (show 0 ≤ (wrM I23 (c + 15) 4 (I23 (c + 15) 4 + 1)) c 5 ∧ (0 : Int) < 2 from ⟨h27, by decide⟩) ?_
        refine r_aload_n B dX0_goes_61 rfl rfl ?_
        refine r_getR B (C := RX0) (T := TX0) (N := 9) (hc.1) 1 rfl win_X0 (by decide) rfl wf_X0_21 dX0_goes_62 ?_
        refine r_aload_n B dX0_goes_65 rfl rfl ?_
        refine r_getI B (C := RX0) (T := TX0) (N := 9) (hc.1) 6 rfl win_X0 (by decide) rfl wf_X0_47 dX0_goes_66 (jj := 6) rfl ?_
        refine r_cI B (st := [.int (i2 ((wrM I23 (c + 15) 4 (I23 (c + 15) 4 + 1)) c 5 / 2)), .ref (eA E c)]) (as := [.int (i2 ((wrM I23 (c + 15) 4 (I23 (c + 15) 4 + 1)) c 6))]) (T := TX8) (N := 4) (c_Th_widthAnew (c + 5) ((wrM I23 (c + 15) 4 (I23 (c + 15) 4 + 1)) c 6) _ (hc.2.2.1) hI26 ((hI26 _ _))) v (hc.2.2.1.1) rfl mw_Th_widthAnew wl_X0_91 ⟨Nat.le_of_ble_eq_true rfl, Nat.le_of_ble_eq_true rfl⟩ rfl rfl (Nat.le_of_ble_eq_true rfl) dX0_goes_69 (fun z28 I29 hz28 hI29 v => ?_)
        refine r_cV B (st := []) (as := [.int (i2 ((wrM I23 (c + 15) 4 (I23 (c + 15) 4 + 1)) c 5 / 2)), .int (i2 z28)]) (T := TX0) (N := 9) (c_Ca_lay c ((wrM I23 (c + 15) 4 (I23 (c + 15) 4 + 1)) c 5 / 2) z28 _ hc hI29 ((rg_div ((hI26 _ _)) (show 0 ≤ (wrM I23 (c + 15) 4 (I23 (c + 15) 4 + 1)) c 5 ∧ (0 : Int) < 2 from ⟨h27, by decide⟩).1 (show 0 ≤ (wrM I23 (c + 15) 4 (I23 (c + 15) 4 + 1)) c 5 ∧ (0 : Int) < 2 from ⟨h27, by decide⟩).2)) hz28) v (hc.1) rfl mw_Ca_lay wl_X0_95 ⟨Nat.le_of_ble_eq_true rfl, Nat.le_of_ble_eq_true rfl⟩ rfl rfl (Nat.le_of_ble_eq_true rfl) dX0_goes_72 (fun I30 hI30 v => ?_)
        exact r_vret B hr hk hI30 v dX0_goes_75
  · have v := v.2 h
    exact r_vret B hr hk hI22 v dX0_goes_11
set_option maxHeartbeats 4000000 in
set_option maxRecDepth 100000 in
theorem c_Nm_countTaken {l : Launch} {E : En} {A : Nat → Prop} (c : Int) (x1 : Int) (I : Mm) (hc : isNm c) (hI : rgM I) (h1 : r32 x1) : CV l E A yX3_countTaken cX3_countTaken 2 1 21 [.ref (eA E c), .int (i2 x1)] I (V_Nm_countTaken c x1 I) := by
  intro Q v
  refine mk_met (own := RX3) (lv0 := [(0, .ref (eA E c)), (1, .int (i2 x1))]) (by decide) rfl (Nat.le_of_ble_eq_true rfl) rfl (fun p e s m args below meth c0 B hr hk => ?_)
  unfold V_Nm_countTaken at v
  refine r_aload_n B dX3_countTaken_0 rfl rfl ?_
  refine r_iload_n B dX3_countTaken_1 rfl rfl ?_
  refine r_cI B (st := []) (as := [.int (i2 x1)]) (T := TX3) (N := 4) (c_Nm_has c x1 _ hc hI h1) v (hc.1) rfl mw_Nm_has wl_X3_29 ⟨Nat.le_of_ble_eq_true rfl, Nat.le_of_ble_eq_true rfl⟩ rfl rfl (Nat.le_of_ble_eq_true rfl) dX3_countTaken_2 (fun z21 I22 hz21 hI22 v => ?_)
  refine r_if_eq B (tgt := 18) dX3_countTaken_5 (by decide) hz21 (fun h => ?_) (fun h => ?_)
  · have v := v.1 h
    exact r_vret B hr hk hI22 v dX3_countTaken_18
  · have v := v.2 h
    refine r_aload_n B dX3_countTaken_8 rfl rfl ?_
    refine r_getR B (C := RX3) (T := TX3) (N := 4) (hc.1) 2 rfl win_X3 (by decide) rfl wf_X3_15 dX3_countTaken_9 ?_
    refine r_iload_n B dX3_countTaken_12 rfl rfl ?_
    refine r_dup2 B dX3_countTaken_13 rfl rfl ?_
    obtain ⟨h23, v⟩ := v
    refine r_ald B (hc.2.2.1) (by decide) h23 dX3_countTaken_14 ?_
    refine r_iconst B dX3_countTaken_15 ?_
    refine r_iadd B dX3_countTaken_16 ?_
    obtain ⟨h24, v⟩ := v
    obtain ⟨h25, v⟩ := v
    refine r_ast B (hc.2.2.1) (by decide) h24 dX3_countTaken_17 ?_
    have hI26 : rgM (wrM I22 (c + 2) x1 (I22 (c + 2) x1 + 1)) := rg_wr hI22 h25
    exact r_vret B hr hk hI26 v dX3_countTaken_18
set_option maxHeartbeats 4000000 in
set_option maxRecDepth 100000 in
theorem c_Nm_countLost {l : Launch} {E : En} {A : Nat → Prop} (c : Int) (x1 : Int) (I : Mm) (hc : isNm c) (hI : rgM I) (h1 : r32 x1) : CV l E A yX3_countLost cX3_countLost 2 1 21 [.ref (eA E c), .int (i2 x1)] I (V_Nm_countLost c x1 I) := by
  intro Q v
  refine mk_met (own := RX3) (lv0 := [(0, .ref (eA E c)), (1, .int (i2 x1))]) (by decide) rfl (Nat.le_of_ble_eq_true rfl) rfl (fun p e s m args below meth c0 B hr hk => ?_)
  unfold V_Nm_countLost at v
  refine r_aload_n B dX3_countLost_0 rfl rfl ?_
  refine r_iload_n B dX3_countLost_1 rfl rfl ?_
  refine r_cI B (st := []) (as := [.int (i2 x1)]) (T := TX3) (N := 4) (c_Nm_has c x1 _ hc hI h1) v (hc.1) rfl mw_Nm_has wl_X3_29 ⟨Nat.le_of_ble_eq_true rfl, Nat.le_of_ble_eq_true rfl⟩ rfl rfl (Nat.le_of_ble_eq_true rfl) dX3_countLost_2 (fun z21 I22 hz21 hI22 v => ?_)
  refine r_if_eq B (tgt := 18) dX3_countLost_5 (by decide) hz21 (fun h => ?_) (fun h => ?_)
  · have v := v.1 h
    exact r_vret B hr hk hI22 v dX3_countLost_18
  · have v := v.2 h
    refine r_aload_n B dX3_countLost_8 rfl rfl ?_
    refine r_getR B (C := RX3) (T := TX3) (N := 4) (hc.1) 3 rfl win_X3 (by decide) rfl wf_X3_18 dX3_countLost_9 ?_
    refine r_iload_n B dX3_countLost_12 rfl rfl ?_
    refine r_dup2 B dX3_countLost_13 rfl rfl ?_
    obtain ⟨h23, v⟩ := v
    refine r_ald B (hc.2.2.2) (by decide) h23 dX3_countLost_14 ?_
    refine r_iconst B dX3_countLost_15 ?_
    refine r_iadd B dX3_countLost_16 ?_
    obtain ⟨h24, v⟩ := v
    obtain ⟨h25, v⟩ := v
    refine r_ast B (hc.2.2.2) (by decide) h24 dX3_countLost_17 ?_
    have hI26 : rgM (wrM I22 (c + 3) x1 (I22 (c + 3) x1 + 1)) := rg_wr hI22 h25
    exact r_vret B hr hk hI26 v dX3_countLost_18
set_option maxHeartbeats 4000000 in
set_option maxRecDepth 100000 in
theorem wL_Ca_bring_2 {p : Program} {l : Launch} {e : Env} {s : State} {m : MethodId} {args : Array Value} {below : List Frame} {meth : Method} {c0 : Code} {E : En} {A : Nat → Prop} {c : Int} {x1 : Int} {Q : Mm → Prop}  (B : Bd p (rmm 3 110) s m args c0 cX0_bring 5 RX0 E A 0 0) (hr : meth.sig.returnType = none) (hk : meth.locks = false) (hc : isCa c) (h1 : r32 x1)   : ∀ (n : Nat) (x2 : Int) (I : Mm), rgM I → r32 x2 → L_Ca_bring_2 c x1 Q n x2 I → WI p l e (rmm 3 110) s m args below meth c0 E A 5 0 0 (qV below E A args s Q) I 2 [(0, .ref (eA E c)), (1, .int (i2 x1)), (2, .int (i2 x2))] [] := by
  intro n
  induction n with
  | zero => intro x2 I _ _ v; exact absurd v id
  | succ n ih =>
    intro x2 I hI h2 v
    unfold L_Ca_bring_2 at v
    refine r_iload_n B dX0_bring_2 rfl rfl ?_
    refine r_aload_n B dX0_bring_3 rfl rfl ?_
    refine r_getR B (C := RX0) (T := TX0) (N := 9) (hc.1) 2 rfl win_X0 (by decide) rfl wf_X0_28 dX0_bring_4 ?_
    refine r_getI B (C := RX5) (T := TX5) (N := 4) (hc.2.2.2.1.1) 0 rfl win_X5 (by decide) rfl wf_X0_54 dX0_bring_7 (jj := 0) rfl ?_
    refine r_icmp_ge B (tgt := 114) dX0_bring_10 (by decide) h2 ((hI _ _)) (fun h => ?_) (fun h => ?_)
    · have v := v.1 h
      exact r_vret B hr hk hI v dX0_bring_114
    · have v := v.2 h
      refine r_aload_n B dX0_bring_13 rfl rfl ?_
      refine r_getR B (C := RX0) (T := TX0) (N := 9) (hc.1) 2 rfl win_X0 (by decide) rfl wf_X0_28 dX0_bring_14 ?_
      refine r_getR B (C := RX5) (T := TX5) (N := 4) (hc.2.2.2.1.1) 1 rfl win_X5 (by decide) rfl wf_X0_149 dX0_bring_17 ?_
      refine r_iload_n B dX0_bring_20 rfl rfl ?_
      obtain ⟨h21, v⟩ := v
      refine r_ald B (hc.2.2.2.1.2.1) (by decide) h21 dX0_bring_21 ?_
      refine r_iload_n B dX0_bring_22 rfl rfl ?_
      refine r_icmp_ne B (tgt := 108) dX0_bring_23 (by decide) ((hI _ _)) h1 (fun h => ?_) (fun h => ?_)
      · have v := v.1 h
        refine r_iinc B (q := 2) dX0_bring_108 (by decide) rfl (lv' := [(2, .int (i2 (x2 + 1))), (0, .ref (eA E c)), (1, .int (i2 x1))]) rfl ?_
        refine r_sub [1, 2, 0] rfl ?_
        refine r_goto B (tgt := 2) dX0_bring_111 (by decide) ?_
        obtain ⟨h22, v⟩ := v
        refine r_sub [0, 1, 2] rfl ?_
        exact ih (x2 + 1) _ hI h22 v
      · have v := v.2 h
        refine r_aload_n B dX0_bring_26 rfl rfl ?_
        refine r_getR B (C := RX0) (T := TX0) (N := 9) (hc.1) 2 rfl win_X0 (by decide) rfl wf_X0_28 dX0_bring_27 ?_
        refine r_getR B (C := RX5) (T := TX5) (N := 4) (hc.2.2.2.1.1) 2 rfl win_X5 (by decide) rfl wf_X0_150 dX0_bring_30 ?_
        refine r_iload_n B dX0_bring_33 rfl rfl ?_
        obtain ⟨h23, v⟩ := v
        refine r_ald B (hc.2.2.2.1.2.2.1) (by decide) h23 dX0_bring_34 ?_
        refine r_istore_n B dX0_bring_35 rfl (by decide) (lv' := [(3, .int (i2 (I (c + 9 + 2) x2))), (0, .ref (eA E c)), (1, .int (i2 x1)), (2, .int (i2 x2))]) rfl ?_
        refine r_sub [1, 2, 3, 0] rfl ?_
        refine r_aload_n B dX0_bring_36 rfl rfl ?_
        refine r_getI B (C := RX0) (T := TX0) (N := 9) (hc.1) 7 rfl win_X0 (by decide) rfl wf_X0_58 dX0_bring_37 (jj := 7) rfl ?_
        refine r_aload_n B dX0_bring_40 rfl rfl ?_
        refine r_getR B (C := RX0) (T := TX0) (N := 9) (hc.1) 2 rfl win_X0 (by decide) rfl wf_X0_28 dX0_bring_41 ?_
        refine r_getR B (C := RX5) (T := TX5) (N := 4) (hc.2.2.2.1.1) 3 rfl win_X5 (by decide) rfl wf_X0_153 dX0_bring_44 ?_
        refine r_iload_n B dX0_bring_47 rfl rfl ?_
        obtain ⟨h24, v⟩ := v
        refine r_ald B (hc.2.2.2.1.2.2.2) (by decide) h24 dX0_bring_48 ?_
        refine r_iadd B dX0_bring_49 ?_
        refine r_istore B dX0_bring_50 (by decide) (lv' := [(4, .int (i2 (I c 7 + I (c + 9 + 3) x2))), (0, .ref (eA E c)), (1, .int (i2 x1)), (2, .int (i2 x2)), (3, .int (i2 (I (c + 9 + 2) x2)))]) rfl ?_
        refine r_sub [1, 2, 3, 4, 0] rfl ?_
        refine r_aload_n B dX0_bring_52 rfl rfl ?_
        refine r_iconst B dX0_bring_53 ?_
        refine r_iload B dX0_bring_54 rfl ?_
        refine r_iconst B dX0_bring_56 ?_
        obtain ⟨h25, v⟩ := v
        refine r_cI B (st := []) (as := [.int (i2 1), .int (i2 (I c 7 + I (c + 9 + 3) x2)), .int (i2 1)]) (T := TX0) (N := 9) (c_Ca_hasRoomFor c 1 (I c 7 + I (c + 9 + 3) x2) 1 _ hc hI ((rg_lit (by decide) (by decide))) h25 ((rg_lit (by decide) (by decide)))) v (hc.1) rfl mw_Ca_hasRoomFor wl_X0_156 ⟨Nat.le_of_ble_eq_true rfl, Nat.le_of_ble_eq_true rfl⟩ rfl rfl (Nat.le_of_ble_eq_true rfl) dX0_bring_57 (fun z26 I27 hz26 hI27 v => ?_)
        refine r_if_eq B (tgt := 89) dX0_bring_60 (by decide) hz26 (fun h => ?_) (fun h => ?_)
        · have v := v.1 h
          refine r_aload_n B dX0_bring_89 rfl rfl ?_
          refine r_getR B (C := RX0) (T := TX0) (N := 9) (hc.1) 4 rfl win_X0 (by decide) rfl wf_X0_39 dX0_bring_90 ?_
          refine r_bipush B dX0_bring_93 (by decide) ?_
          refine r_dup2 B dX0_bring_95 rfl rfl ?_
          refine r_ald B (hc.2.2.2.2.2) (by decide) (by decide) dX0_bring_96 ?_
          refine r_iconst B dX0_bring_97 ?_
          refine r_iadd B dX0_bring_98 ?_
          obtain ⟨h28, v⟩ := v
          refine r_ast B (hc.2.2.2.2.2) (by decide) (by decide) dX0_bring_99 ?_
          have hI29 : rgM (wrM I27 (c + 15) 6 (I27 (c + 15) 6 + 1)) := rg_wr hI27 h28
          refine r_aload_n B dX0_bring_100 rfl rfl ?_
          refine r_getR B (C := RX0) (T := TX0) (N := 9) (hc.1) 0 rfl win_X0 (by decide) rfl wf_X0_12 dX0_bring_101 ?_
          refine r_iload_n B dX0_bring_104 rfl rfl ?_
          refine r_cV B (st := []) (as := [.int (i2 (I (c + 9 + 2) x2))]) (T := TX3) (N := 4) (c_Nm_countLost (c + 1) (I (c + 9 + 2) x2) _ (hc.2.1) hI29 ((hI _ _))) v (hc.2.1.1) rfl mw_Nm_countLost wl_X0_160 ⟨Nat.le_of_ble_eq_true rfl, Nat.le_of_ble_eq_true rfl⟩ rfl rfl (Nat.le_of_ble_eq_true rfl) dX0_bring_105 (fun I30 hI30 v => ?_)
          refine r_iinc B (q := 2) dX0_bring_108 (by decide) rfl (lv' := [(2, .int (i2 (x2 + 1))), (0, .ref (eA E c)), (1, .int (i2 x1)), (3, .int (i2 (I (c + 9 + 2) x2))), (4, .int (i2 (I c 7 + I (c + 9 + 3) x2)))]) rfl ?_
          refine r_sub [1, 2, 0, 3, 4] rfl ?_
          refine r_goto B (tgt := 2) dX0_bring_111 (by decide) ?_
          obtain ⟨h31, v⟩ := v
          refine r_sub [0, 1, 2] rfl ?_
          exact ih (x2 + 1) _ hI30 h31 v
        · have v := v.2 h
          refine r_aload_n B dX0_bring_63 rfl rfl ?_
          refine r_dup B dX0_bring_64 rfl ?_
          refine r_getI B (C := RX0) (T := TX0) (N := 9) (hc.1) 8 rfl win_X0 (by decide) rfl wf_X0_61 dX0_bring_65 (jj := 8) rfl ?_
          refine r_iconst B dX0_bring_68 ?_
          refine r_iadd B dX0_bring_69 ?_
          obtain ⟨h32, v⟩ := v
          refine r_putI B (C := RX0) (T := TX0) (N := 9) (hc.1) 8 rfl win_X0 tyX0 tyX0_ok nmX0 (by decide) rfl rfl rfl wf_X0_61 dX0_bring_70 (jj := 8) rfl ?_
          have hI33 : rgM (wrM I27 c 8 (I27 c 8 + 1)) := rg_wr hI27 h32
          refine r_aload_n B dX0_bring_73 rfl rfl ?_
          refine r_aload_n B dX0_bring_74 rfl rfl ?_
          refine r_getI B (C := RX0) (T := TX0) (N := 9) (hc.1) 8 rfl win_X0 (by decide) rfl wf_X0_61 dX0_bring_75 (jj := 8) rfl ?_
          refine r_iconst B dX0_bring_78 ?_
          refine r_isub B dX0_bring_79 ?_
          refine r_iload_n B dX0_bring_80 rfl rfl ?_
          refine r_iload B dX0_bring_81 rfl ?_
          obtain ⟨h34, v⟩ := v
          refine r_cV B (st := []) (as := [.int (i2 ((wrM I27 c 8 (I27 c 8 + 1)) c 8 - 1)), .int (i2 (I (c + 9 + 2) x2)), .int (i2 (I c 7 + I (c + 9 + 3) x2))]) (T := TX0) (N := 9) (c_Ca_comes c ((wrM I27 c 8 (I27 c 8 + 1)) c 8 - 1) (I (c + 9 + 2) x2) (I c 7 + I (c + 9 + 3) x2) _ hc hI33 h34 ((hI _ _)) h25) v (hc.1) rfl mw_Ca_comes wl_X0_108 ⟨Nat.le_of_ble_eq_true rfl, Nat.le_of_ble_eq_true rfl⟩ rfl rfl (Nat.le_of_ble_eq_true rfl) dX0_bring_83 (fun I35 hI35 v => ?_)
          refine r_goto B (tgt := 108) dX0_bring_86 (by decide) ?_
          refine r_iinc B (q := 2) dX0_bring_108 (by decide) rfl (lv' := [(2, .int (i2 (x2 + 1))), (0, .ref (eA E c)), (1, .int (i2 x1)), (3, .int (i2 (I (c + 9 + 2) x2))), (4, .int (i2 (I c 7 + I (c + 9 + 3) x2)))]) rfl ?_
          refine r_sub [1, 2, 0, 3, 4] rfl ?_
          refine r_goto B (tgt := 2) dX0_bring_111 (by decide) ?_
          obtain ⟨h36, v⟩ := v
          refine r_sub [0, 1, 2] rfl ?_
          exact ih (x2 + 1) _ hI35 h36 v
set_option maxHeartbeats 4000000 in
set_option maxRecDepth 100000 in
theorem c_Ca_bring {l : Launch} {E : En} {A : Nat → Prop} (c : Int) (x1 : Int) (I : Mm) (hc : isCa c) (hI : rgM I) (h1 : r32 x1) : CV l E A yX0_bring cX0_bring 5 3 110 [.ref (eA E c), .int (i2 x1)] I (V_Ca_bring c x1 I) := by
  intro Q v
  refine mk_met (own := RX0) (lv0 := [(0, .ref (eA E c)), (1, .int (i2 x1))]) (by decide) rfl (Nat.le_of_ble_eq_true rfl) rfl (fun p e s m args below meth c0 B hr hk => ?_)
  unfold V_Ca_bring at v
  refine r_iconst B dX0_bring_0 ?_
  refine r_istore_n B dX0_bring_1 rfl (by decide) (lv' := [(2, .int (i2 0)), (0, .ref (eA E c)), (1, .int (i2 x1))]) rfl ?_
  refine r_sub [1, 2, 0] rfl ?_
  obtain ⟨f37, v⟩ := v
  refine r_sub [0, 1, 2] rfl ?_
  exact wL_Ca_bring_2 B hr hk hc h1 f37 0 I hI ((rg_lit (by decide) (by decide))) v
set_option maxHeartbeats 4000000 in
set_option maxRecDepth 100000 in
theorem wJ_Ca_takeFirst_87 {p : Program} {l : Launch} {e : Env} {s : State} {m : MethodId} {args : Array Value} {below : List Frame} {meth : Method} {c0 : Code} {E : En} {A : Nat → Prop} {c : Int} {Q : Mm → Prop}  (B : Bd p (rmm 4 134) s m args c0 cX0_takeFirst 4 RX0 E A 0 0) (hr : meth.sig.returnType = none) (hk : meth.locks = false) (hc : isCa c)   : ∀ (x1 : Int) (x2 : Int) (x3 : Int) (I : Mm), rgM I → r32 x1 → r32 x2 → r32 x3 → J_Ca_takeFirst_87 c Q x1 x2 x3 I → WI p l e (rmm 4 134) s m args below meth c0 E A 4 0 0 (qV below E A args s Q) I 87 [(0, .ref (eA E c)), (1, .int (i2 x1)), (2, .int (i2 x2)), (3, .int (i2 x3))] [] := by
  intro x1 x2 x3 I hI h1 h2 h3 v
  unfold J_Ca_takeFirst_87 at v
  refine r_aload_n B dX0_takeFirst_87 rfl rfl ?_
  refine r_getR B (C := RX0) (T := TX0) (N := 9) (hc.1) 3 rfl win_X0 (by decide) rfl wf_X0_35 dX0_takeFirst_88 ?_
  refine r_aload_n B dX0_takeFirst_91 rfl rfl ?_
  refine r_getR B (C := RX0) (T := TX0) (N := 9) (hc.1) 1 rfl win_X0 (by decide) rfl wf_X0_21 dX0_takeFirst_92 ?_
  refine r_getR B (C := RX8) (T := TX8) (N := 4) (hc.2.2.1.1) 1 rfl win_X8 (by decide) rfl wf_X0_115 dX0_takeFirst_95 ?_
  refine r_iconst B dX0_takeFirst_98 ?_
  refine r_ald B (hc.2.2.1.2.1) (by decide) (by decide) dX0_takeFirst_99 ?_
  refine r_iload_n B dX0_takeFirst_100 rfl rfl ?_
  refine r_iload_n B dX0_takeFirst_101 rfl rfl ?_
  refine r_iload_n B dX0_takeFirst_102 rfl rfl ?_
  refine r_cV B (st := []) (as := [.int (i2 (I (c + 5 + 1) 0)), .int (i2 x1), .int (i2 x2), .int (i2 x3)]) (T := TX2) (N := 3) (c_Lo_add (c + 13) (I (c + 5 + 1) 0) x1 x2 x3 _ (hc.2.2.2.2.1) hI ((hI _ _)) h1 h2 h3) v (hc.2.2.2.2.1.1) rfl mw_Lo_add wl_X0_133 ⟨Nat.le_of_ble_eq_true rfl, Nat.le_of_ble_eq_true rfl⟩ rfl rfl (Nat.le_of_ble_eq_true rfl) dX0_takeFirst_103 (fun I27 hI27 v => ?_)
  refine r_aload_n B dX0_takeFirst_106 rfl rfl ?_
  refine r_iload_n B dX0_takeFirst_107 rfl rfl ?_
  refine r_putI B (C := RX0) (T := TX0) (N := 9) (hc.1) 7 rfl win_X0 tyX0 tyX0_ok nmX0 (by decide) rfl rfl rfl wf_X0_58 dX0_takeFirst_108 (jj := 7) rfl ?_
  have hI28 : rgM (wrM I27 c 7 x2) := rg_wr hI27 h2
  refine r_aload_n B dX0_takeFirst_111 rfl rfl ?_
  refine r_iconst B dX0_takeFirst_112 ?_
  refine r_cV B (st := []) (as := [.int (i2 0)]) (T := TX0) (N := 9) (c_Ca_goes c 0 _ hc hI28 ((rg_lit (by decide) (by decide)))) v (hc.1) rfl mw_Ca_goes wl_X0_112 ⟨Nat.le_of_ble_eq_true rfl, Nat.le_of_ble_eq_true rfl⟩ rfl rfl (Nat.le_of_ble_eq_true rfl) dX0_takeFirst_113 (fun I29 hI29 v => ?_)
  refine r_aload_n B dX0_takeFirst_116 rfl rfl ?_
  refine r_getR B (C := RX0) (T := TX0) (N := 9) (hc.1) 0 rfl win_X0 (by decide) rfl wf_X0_12 dX0_takeFirst_117 ?_
  refine r_iload_n B dX0_takeFirst_120 rfl rfl ?_
  refine r_cV B (st := []) (as := [.int (i2 x1)]) (T := TX3) (N := 4) (c_Nm_countTaken (c + 1) x1 _ (hc.2.1) hI29 h1) v (hc.2.1.1) rfl mw_Nm_countTaken wl_X0_136 ⟨Nat.le_of_ble_eq_true rfl, Nat.le_of_ble_eq_true rfl⟩ rfl rfl (Nat.le_of_ble_eq_true rfl) dX0_takeFirst_121 (fun I30 hI30 v => ?_)
  refine r_aload_n B dX0_takeFirst_124 rfl rfl ?_
  refine r_iload_n B dX0_takeFirst_125 rfl rfl ?_
  refine r_cV B (st := []) (as := [.int (i2 x1)]) (T := TX0) (N := 9) (c_Ca_bring c x1 _ hc hI30 h1) v (hc.1) rfl mw_Ca_bring wl_X0_139 ⟨Nat.le_of_ble_eq_true rfl, Nat.le_of_ble_eq_true rfl⟩ rfl rfl (Nat.le_of_ble_eq_true rfl) dX0_takeFirst_126 (fun I31 hI31 v => ?_)
  exact r_vret B hr hk hI31 v dX0_takeFirst_129
set_option maxHeartbeats 4000000 in
set_option maxRecDepth 100000 in
theorem c_Ca_takeFirst {l : Launch} {E : En} {A : Nat → Prop} (c : Int) (I : Mm) (hc : isCa c) (hI : rgM I)  : CV l E A yX0_takeFirst cX0_takeFirst 4 4 134 [.ref (eA E c)] I (V_Ca_takeFirst c I) := by
  intro Q v
  refine mk_met (own := RX0) (lv0 := [(0, .ref (eA E c))]) (by decide) rfl (Nat.le_of_ble_eq_true rfl) rfl (fun p e s m args below meth c0 B hr hk => ?_)
  unfold V_Ca_takeFirst at v
  refine r_aload_n B dX0_takeFirst_0 rfl rfl ?_
  refine r_getR B (C := RX0) (T := TX0) (N := 9) (hc.1) 1 rfl win_X0 (by decide) rfl wf_X0_21 dX0_takeFirst_1 ?_
  refine r_getI B (C := RX8) (T := TX8) (N := 4) (hc.2.2.1.1) 0 rfl win_X8 (by decide) rfl wf_X0_53 dX0_takeFirst_4 (jj := 0) rfl ?_
  refine r_iconst B dX0_takeFirst_7 ?_
  refine r_icmp_ge B (tgt := 12) dX0_takeFirst_8 (by decide) ((hI _ _)) ((rg_lit (by decide) (by decide))) (fun h => ?_) (fun h => ?_)
  · have v := v.1 h
    refine r_aload_n B dX0_takeFirst_12 rfl rfl ?_
    refine r_getR B (C := RX0) (T := TX0) (N := 9) (hc.1) 1 rfl win_X0 (by decide) rfl wf_X0_21 dX0_takeFirst_13 ?_
    refine r_getR B (C := RX8) (T := TX8) (N := 4) (hc.2.2.1.1) 2 rfl win_X8 (by decide) rfl wf_X0_118 dX0_takeFirst_16 ?_
    refine r_iconst B dX0_takeFirst_19 ?_
    refine r_ald B (hc.2.2.1.2.2.1) (by decide) (by decide) dX0_takeFirst_20 ?_
    refine r_istore_n B dX0_takeFirst_21 rfl (by decide) (lv' := [(1, .int (i2 (I (c + 5 + 2) 0))), (0, .ref (eA E c))]) rfl ?_
    refine r_sub [1, 0] rfl ?_
    refine r_aload_n B dX0_takeFirst_22 rfl rfl ?_
    refine r_getR B (C := RX0) (T := TX0) (N := 9) (hc.1) 1 rfl win_X0 (by decide) rfl wf_X0_21 dX0_takeFirst_23 ?_
    refine r_getR B (C := RX8) (T := TX8) (N := 4) (hc.2.2.1.1) 3 rfl win_X8 (by decide) rfl wf_X0_120 dX0_takeFirst_26 ?_
    refine r_iconst B dX0_takeFirst_29 ?_
    refine r_ald B (hc.2.2.1.2.2.2) (by decide) (by decide) dX0_takeFirst_30 ?_
    refine r_istore_n B dX0_takeFirst_31 rfl (by decide) (lv' := [(2, .int (i2 (I (c + 5 + 3) 0))), (0, .ref (eA E c)), (1, .int (i2 (I (c + 5 + 2) 0)))]) rfl ?_
    refine r_sub [1, 2, 0] rfl ?_
    refine r_aload_n B dX0_takeFirst_32 rfl rfl ?_
    refine r_getI B (C := RX0) (T := TX0) (N := 9) (hc.1) 7 rfl win_X0 (by decide) rfl wf_X0_58 dX0_takeFirst_33 (jj := 7) rfl ?_
    refine r_iload_n B dX0_takeFirst_36 rfl rfl ?_
    refine r_aload_n B dX0_takeFirst_37 rfl rfl ?_
    refine r_getI B (C := RX0) (T := TX0) (N := 9) (hc.1) 5 rfl win_X0 (by decide) rfl wf_X0_43 dX0_takeFirst_38 (jj := 5) rfl ?_
    refine r_aload_n B dX0_takeFirst_41 rfl rfl ?_
    refine r_getI B (C := RX0) (T := TX0) (N := 9) (hc.1) 6 rfl win_X0 (by decide) rfl wf_X0_47 dX0_takeFirst_42 (jj := 6) rfl ?_
    refine r_nI B (st := []) (as := [.int (i2 (I c 7)), .int (i2 (I (c + 5 + 3) 0)), .int (i2 (I c 5)), .int (i2 (I c 6))]) (host := "DayRows") (c_X_looksFrom (I c 7) (I (c + 5 + 3) 0) (I c 5) (I c 6) _ hI ((hI _ _)) ((hI _ _)) ((hI _ _)) ((hI _ _))) v mw_X_looksFrom (by decide) ⟨Nat.le_of_ble_eq_true rfl, Nat.le_of_ble_eq_true rfl⟩ rfl rfl (Nat.le_of_ble_eq_true rfl) dX0_takeFirst_45 (fun z21 I22 hz21 hI22 v => ?_)
    refine r_istore_n B dX0_takeFirst_48 rfl (by decide) (lv' := [(3, .int (i2 z21)), (0, .ref (eA E c)), (1, .int (i2 (I (c + 5 + 2) 0))), (2, .int (i2 (I (c + 5 + 3) 0)))]) rfl ?_
    refine r_sub [1, 2, 3, 0] rfl ?_
    refine r_aload_n B dX0_takeFirst_49 rfl rfl ?_
    refine r_getR B (C := RX0) (T := TX0) (N := 9) (hc.1) 4 rfl win_X0 (by decide) rfl wf_X0_39 dX0_takeFirst_50 ?_
    refine r_iconst B dX0_takeFirst_53 ?_
    refine r_dup2 B dX0_takeFirst_54 rfl rfl ?_
    refine r_ald B (hc.2.2.2.2.2) (by decide) (by decide) dX0_takeFirst_55 ?_
    refine r_iload_n B dX0_takeFirst_56 rfl rfl ?_
    refine r_iadd B dX0_takeFirst_57 ?_
    obtain ⟨h23, v⟩ := v
    refine r_ast B (hc.2.2.2.2.2) (by decide) (by decide) dX0_takeFirst_58 ?_
    have hI24 : rgM (wrM I22 (c + 15) 0 (I22 (c + 15) 0 + z21)) := rg_wr hI22 h23
    refine r_aload_n B dX0_takeFirst_59 rfl rfl ?_
    refine r_getR B (C := RX0) (T := TX0) (N := 9) (hc.1) 4 rfl win_X0 (by decide) rfl wf_X0_39 dX0_takeFirst_60 ?_
    refine r_iconst B dX0_takeFirst_63 ?_
    refine r_dup2 B dX0_takeFirst_64 rfl rfl ?_
    refine r_ald B (hc.2.2.2.2.2) (by decide) (by decide) dX0_takeFirst_65 ?_
    refine r_iconst B dX0_takeFirst_66 ?_
    refine r_iadd B dX0_takeFirst_67 ?_
    obtain ⟨h25, v⟩ := v
    refine r_ast B (hc.2.2.2.2.2) (by decide) (by decide) dX0_takeFirst_68 ?_
    have hI26 : rgM (wrM ((wrM I22 (c + 15) 0 (I22 (c + 15) 0 + z21))) (c + 15) 5 ((wrM I22 (c + 15) 0 (I22 (c + 15) 0 + z21)) (c + 15) 5 + 1)) := rg_wr hI24 h25
    refine r_iload_n B dX0_takeFirst_69 rfl rfl ?_
    refine r_aload_n B dX0_takeFirst_70 rfl rfl ?_
    refine r_getI B (C := RX0) (T := TX0) (N := 9) (hc.1) 5 rfl win_X0 (by decide) rfl wf_X0_43 dX0_takeFirst_71 (jj := 5) rfl ?_
    refine r_icmp_le B (tgt := 87) dX0_takeFirst_74 (by decide) hz21 ((hI26 _ _)) (fun h => ?_) (fun h => ?_)
    · have v := v.1 h
      refine r_sub [0, 1, 2, 3] rfl ?_
      exact wJ_Ca_takeFirst_87 B hr hk hc (I (c + 5 + 2) 0) (I (c + 5 + 3) 0) z21 _ hI26 ((hI _ _)) ((hI _ _)) hz21 v
    · have v := v.2 h
      refine r_aload_n B dX0_takeFirst_77 rfl rfl ?_
      refine r_getR B (C := RX0) (T := TX0) (N := 9) (hc.1) 4 rfl win_X0 (by decide) rfl wf_X0_39 dX0_takeFirst_78 ?_
      refine r_iconst B dX0_takeFirst_81 ?_
      refine r_dup2 B dX0_takeFirst_82 rfl rfl ?_
      refine r_ald B (hc.2.2.2.2.2) (by decide) (by decide) dX0_takeFirst_83 ?_
      refine r_iconst B dX0_takeFirst_84 ?_
      refine r_iadd B dX0_takeFirst_85 ?_
      obtain ⟨h33, v⟩ := v
      refine r_ast B (hc.2.2.2.2.2) (by decide) (by decide) dX0_takeFirst_86 ?_
      have hI34 : rgM (wrM ((wrM ((wrM I22 (c + 15) 0 (I22 (c + 15) 0 + z21))) (c + 15) 5 ((wrM I22 (c + 15) 0 (I22 (c + 15) 0 + z21)) (c + 15) 5 + 1))) (c + 15) 2 ((wrM ((wrM I22 (c + 15) 0 (I22 (c + 15) 0 + z21))) (c + 15) 5 ((wrM I22 (c + 15) 0 (I22 (c + 15) 0 + z21)) (c + 15) 5 + 1)) (c + 15) 2 + 1)) := rg_wr hI26 h33
      refine r_sub [0, 1, 2, 3] rfl ?_
      exact wJ_Ca_takeFirst_87 B hr hk hc (I (c + 5 + 2) 0) (I (c + 5 + 3) 0) z21 _ hI34 ((hI _ _)) ((hI _ _)) hz21 v
  · have v := v.2 h
    exact r_vret B hr hk hI v dX0_takeFirst_11
set_option maxHeartbeats 4000000 in
set_option maxRecDepth 100000 in
theorem wL_Ca_takeSome_2 {p : Program} {l : Launch} {e : Env} {s : State} {m : MethodId} {args : Array Value} {below : List Frame} {meth : Method} {c0 : Code} {E : En} {A : Nat → Prop} {c : Int} {x1 : Int} {Q : Int → Mm → Prop}  (B : Bd p (rmm 5 157) s m args c0 cX0_takeSome 3 RX0 E A 0 0) (hr : meth.sig.returnType = some .int) (hk : meth.locks = false) (hc : isCa c) (h1 : r32 x1)   : ∀ (n : Nat) (x2 : Int) (I : Mm), rgM I → r32 x2 → L_Ca_takeSome_2 c x1 Q n x2 I → WI p l e (rmm 5 157) s m args below meth c0 E A 3 0 0 (qI below E A args s Q) I 2 [(0, .ref (eA E c)), (1, .int (i2 x1)), (2, .int (i2 x2))] [] := by
  intro n
  induction n with
  | zero => intro x2 I _ _ v; exact absurd v id
  | succ n ih =>
    intro x2 I hI h2 v
    unfold L_Ca_takeSome_2 at v
    refine r_iload_n B dX0_takeSome_2 rfl rfl ?_
    refine r_iload_n B dX0_takeSome_3 rfl rfl ?_
    refine r_icmp_ge B (tgt := 27) dX0_takeSome_4 (by decide) h2 h1 (fun h => ?_) (fun h => ?_)
    · have v := v.1 h
      refine r_iload_n B dX0_takeSome_27 rfl rfl ?_
      exact r_iret B hr hk rfl h2 hI v dX0_takeSome_28
    · have v := v.2 h
      refine r_aload_n B dX0_takeSome_7 rfl rfl ?_
      refine r_getR B (C := RX0) (T := TX0) (N := 9) (hc.1) 1 rfl win_X0 (by decide) rfl wf_X0_21 dX0_takeSome_8 ?_
      refine r_getI B (C := RX8) (T := TX8) (N := 4) (hc.2.2.1.1) 0 rfl win_X8 (by decide) rfl wf_X0_53 dX0_takeSome_11 (jj := 0) rfl ?_
      refine r_if_le B (tgt := 27) dX0_takeSome_14 (by decide) ((hI _ _)) (fun h => ?_) (fun h => ?_)
      · have v := v.1 h
        refine r_iload_n B dX0_takeSome_27 rfl rfl ?_
        exact r_iret B hr hk rfl h2 hI v dX0_takeSome_28
      · have v := v.2 h
        refine r_aload_n B dX0_takeSome_17 rfl rfl ?_
        refine r_cV B (st := []) (as := []) (T := TX0) (N := 9) (c_Ca_takeFirst c _ hc hI ) v (hc.1) rfl mw_Ca_takeFirst wl_X0_123 ⟨Nat.le_of_ble_eq_true rfl, Nat.le_of_ble_eq_true rfl⟩ rfl rfl (Nat.le_of_ble_eq_true rfl) dX0_takeSome_18 (fun I21 hI21 v => ?_)
        refine r_iinc B (q := 2) dX0_takeSome_21 (by decide) rfl (lv' := [(2, .int (i2 (x2 + 1))), (0, .ref (eA E c)), (1, .int (i2 x1))]) rfl ?_
        refine r_sub [1, 2, 0] rfl ?_
        refine r_goto B (tgt := 2) dX0_takeSome_24 (by decide) ?_
        obtain ⟨h22, v⟩ := v
        refine r_sub [0, 1, 2] rfl ?_
        exact ih (x2 + 1) _ hI21 h22 v
set_option maxHeartbeats 4000000 in
set_option maxRecDepth 100000 in
theorem c_Ca_takeSome {l : Launch} {E : En} {A : Nat → Prop} (c : Int) (x1 : Int) (I : Mm) (hc : isCa c) (hI : rgM I) (h1 : r32 x1) : CI l E A yX0_takeSome cX0_takeSome 3 .int 5 157 [.ref (eA E c), .int (i2 x1)] I (V_Ca_takeSome c x1 I) := by
  intro Q v
  refine mk_met (own := RX0) (lv0 := [(0, .ref (eA E c)), (1, .int (i2 x1))]) (by decide) rfl (Nat.le_of_ble_eq_true rfl) rfl (fun p e s m args below meth c0 B hr hk => ?_)
  unfold V_Ca_takeSome at v
  refine r_iconst B dX0_takeSome_0 ?_
  refine r_istore_n B dX0_takeSome_1 rfl (by decide) (lv' := [(2, .int (i2 0)), (0, .ref (eA E c)), (1, .int (i2 x1))]) rfl ?_
  refine r_sub [1, 2, 0] rfl ?_
  obtain ⟨f23, v⟩ := v
  refine r_sub [0, 1, 2] rfl ?_
  exact wL_Ca_takeSome_2 B hr hk hc h1 f23 0 I hI ((rg_lit (by decide) (by decide))) v
set_option maxHeartbeats 4000000 in
set_option maxRecDepth 100000 in
theorem c_X_take {l : Launch} {E : En} {A : Nat → Prop} (x1 : Int) (I : Mm)  (hI : rgM I) (h1 : r32 x1) : CI l E A yX10_take cX10_take 2 .int 6 179 [.ref (eA E 0), .int (i2 x1)] I (V_X_take x1 I) := by
  intro Q v
  refine mk_met (own := RX10) (lv0 := [(0, .ref (eA E 0)), (1, .int (i2 x1))]) (by decide) rfl (Nat.le_of_ble_eq_true rfl) rfl (fun p e s m args below meth c0 B hr hk => ?_)
  unfold V_X_take at v
  refine r_iload_n B dX10_take_0 rfl rfl ?_
  refine r_iconst B dX10_take_1 ?_
  refine r_icmp_lt B (tgt := 11) dX10_take_2 (by decide) h1 ((rg_lit (by decide) (by decide))) (fun h => ?_) (fun h => ?_)
  · have v := v.1 h
    refine r_iconst B dX10_take_11 ?_
    exact r_iret B hr hk rfl ((rg_lit (by decide) (by decide))) hI v dX10_take_12
  · have v := v.2 h
    refine r_iload_n B dX10_take_5 rfl rfl ?_
    refine r_bipush B dX10_take_6 (by decide) ?_
    refine r_icmp_le B (tgt := 13) dX10_take_8 (by decide) h1 ((rg_lit (by decide) (by decide))) (fun h => ?_) (fun h => ?_)
    · have v := v.1 h
      refine r_aload_n B dX10_take_13 rfl rfl ?_
      refine r_getR B (C := RX10) (T := TX10) (N := 11) o_0 0 rfl win_X10 (by decide) rfl wf_X10_10 dX10_take_14 ?_
      refine r_getR B (C := RX0) (T := TX0) (N := 9) (ca_1.1) 1 rfl win_X0 (by decide) rfl wf_X10_89 dX10_take_17 ?_
      refine r_getI B (C := RX8) (T := TX8) (N := 4) (ca_1.2.2.1.1) 0 rfl win_X8 (by decide) rfl wf_X10_93 dX10_take_20 (jj := 0) rfl ?_
      refine r_iconst B dX10_take_23 ?_
      refine r_icmp_ge B (tgt := 30) dX10_take_24 (by decide) ((hI _ _)) ((rg_lit (by decide) (by decide))) (fun h => ?_) (fun h => ?_)
      · have v := v.1 h
        refine r_aload_n B dX10_take_30 rfl rfl ?_
        refine r_getR B (C := RX10) (T := TX10) (N := 11) o_0 6 rfl win_X10 (by decide) rfl wf_X10_52 dX10_take_31 ?_
        refine r_aload_n B dX10_take_34 rfl rfl ?_
        refine r_getR B (C := RX10) (T := TX10) (N := 11) o_0 0 rfl win_X10 (by decide) rfl wf_X10_10 dX10_take_35 ?_
        refine r_cV B (st := []) (as := [.ref (eA E 1)]) (T := TX1) (N := 3) (c_Hi_remember 1 _ ca_1 hI ) v o_39 rfl mw_Hi_remember wl_X10_112 ⟨Nat.le_of_ble_eq_true rfl, Nat.le_of_ble_eq_true rfl⟩ rfl rfl (Nat.le_of_ble_eq_true rfl) dX10_take_38 (fun I21 hI21 v => ?_)
        refine r_aload_n B dX10_take_41 rfl rfl ?_
        refine r_getR B (C := RX10) (T := TX10) (N := 11) o_0 0 rfl win_X10 (by decide) rfl wf_X10_10 dX10_take_42 ?_
        refine r_iload_n B dX10_take_45 rfl rfl ?_
        refine r_cI B (st := []) (as := [.int (i2 x1)]) (T := TX0) (N := 9) (c_Ca_takeSome 1 x1 _ ca_1 hI21 h1) v (ca_1.1) rfl mw_Ca_takeSome wl_X10_132 ⟨Nat.le_of_ble_eq_true rfl, Nat.le_of_ble_eq_true rfl⟩ rfl rfl (Nat.le_of_ble_eq_true rfl) dX10_take_46 (fun z22 I23 hz22 hI23 v => ?_)
        exact r_iret B hr hk rfl hz22 hI23 v dX10_take_49
      · have v := v.2 h
        refine r_bipush B dX10_take_27 (by decide) ?_
        exact r_iret B hr hk rfl ((rg_lit (by decide) (by decide))) hI v dX10_take_29
    · have v := v.2 h
      refine r_iconst B dX10_take_11 ?_
      exact r_iret B hr hk rfl ((rg_lit (by decide) (by decide))) hI v dX10_take_12
set_option maxHeartbeats 4000000 in
set_option maxRecDepth 100000 in
theorem c_Ca_waitsBy {l : Launch} {E : En} {A : Nat → Prop} (c : Int) (x1 : Int) (I : Mm) (hc : isCa c) (hI : rgM I) (h1 : r32 x1) : CI l E A yX0_waitsBy cX0_waitsBy 2 .boolean 0 0 [.ref (eA E c), .int (i2 x1)] I (V_Ca_waitsBy c x1 I) := by
  intro Q v
  refine mk_met (own := RX0) (lv0 := [(0, .ref (eA E c)), (1, .int (i2 x1))]) (by decide) rfl (Nat.le_of_ble_eq_true rfl) rfl (fun p e s m args below meth c0 B hr hk => ?_)
  unfold V_Ca_waitsBy at v
  refine r_aload_n B dX0_waitsBy_0 rfl rfl ?_
  refine r_getR B (C := RX0) (T := TX0) (N := 9) (hc.1) 1 rfl win_X0 (by decide) rfl wf_X0_21 dX0_waitsBy_1 ?_
  refine r_getI B (C := RX8) (T := TX8) (N := 4) (hc.2.2.1.1) 0 rfl win_X8 (by decide) rfl wf_X0_53 dX0_waitsBy_4 (jj := 0) rfl ?_
  refine r_if_le B (tgt := 27) dX0_waitsBy_7 (by decide) ((hI _ _)) (fun h => ?_) (fun h => ?_)
  · have v := v.1 h
    refine r_iconst B dX0_waitsBy_27 ?_
    exact r_iret B hr hk rfl ((rg_lit (by decide) (by decide))) hI v dX0_waitsBy_28
  · have v := v.2 h
    refine r_aload_n B dX0_waitsBy_10 rfl rfl ?_
    refine r_getR B (C := RX0) (T := TX0) (N := 9) (hc.1) 1 rfl win_X0 (by decide) rfl wf_X0_21 dX0_waitsBy_11 ?_
    refine r_getR B (C := RX8) (T := TX8) (N := 4) (hc.2.2.1.1) 3 rfl win_X8 (by decide) rfl wf_X0_120 dX0_waitsBy_14 ?_
    refine r_iconst B dX0_waitsBy_17 ?_
    refine r_ald B (hc.2.2.1.2.2.2) (by decide) (by decide) dX0_waitsBy_18 ?_
    refine r_iload_n B dX0_waitsBy_19 rfl rfl ?_
    refine r_icmp_gt B (tgt := 27) dX0_waitsBy_20 (by decide) ((hI _ _)) h1 (fun h => ?_) (fun h => ?_)
    · have v := v.1 h
      refine r_iconst B dX0_waitsBy_27 ?_
      exact r_iret B hr hk rfl ((rg_lit (by decide) (by decide))) hI v dX0_waitsBy_28
    · have v := v.2 h
      refine r_iconst B dX0_waitsBy_23 ?_
      refine r_goto B (tgt := 28) dX0_waitsBy_24 (by decide) ?_
      exact r_iret B hr hk rfl ((rg_lit (by decide) (by decide))) hI v dX0_waitsBy_28
set_option maxHeartbeats 4000000 in
set_option maxRecDepth 100000 in
theorem wL_Ca_takeDue_2 {p : Program} {l : Launch} {e : Env} {s : State} {m : MethodId} {args : Array Value} {below : List Frame} {meth : Method} {c0 : Code} {E : En} {A : Nat → Prop} {c : Int} {x1 : Int} {x2 : Int} {Q : Int → Mm → Prop}  (B : Bd p (rmm 5 157) s m args c0 cX0_takeDue 4 RX0 E A 0 0) (hr : meth.sig.returnType = some .int) (hk : meth.locks = false) (hc : isCa c) (h1 : r32 x1) (h2 : r32 x2)   : ∀ (n : Nat) (x3 : Int) (I : Mm), rgM I → r32 x3 → L_Ca_takeDue_2 c x1 x2 Q n x3 I → WI p l e (rmm 5 157) s m args below meth c0 E A 4 0 0 (qI below E A args s Q) I 2 [(0, .ref (eA E c)), (1, .int (i2 x1)), (2, .int (i2 x2)), (3, .int (i2 x3))] [] := by
  intro n
  induction n with
  | zero => intro x3 I _ _ v; exact absurd v id
  | succ n ih =>
    intro x3 I hI h3 v
    unfold L_Ca_takeDue_2 at v
    refine r_iload_n B dX0_takeDue_2 rfl rfl ?_
    refine r_iload_n B dX0_takeDue_3 rfl rfl ?_
    refine r_icmp_ge B (tgt := 25) dX0_takeDue_4 (by decide) h3 h2 (fun h => ?_) (fun h => ?_)
    · have v := v.1 h
      refine r_iload_n B dX0_takeDue_25 rfl rfl ?_
      exact r_iret B hr hk rfl h3 hI v dX0_takeDue_26
    · have v := v.2 h
      refine r_aload_n B dX0_takeDue_7 rfl rfl ?_
      refine r_iload_n B dX0_takeDue_8 rfl rfl ?_
      refine r_cI B (st := []) (as := [.int (i2 x1)]) (T := TX0) (N := 9) (c_Ca_waitsBy c x1 _ hc hI h1) v (hc.1) rfl mw_Ca_waitsBy wl_X0_126 ⟨Nat.le_of_ble_eq_true rfl, Nat.le_of_ble_eq_true rfl⟩ rfl rfl (Nat.le_of_ble_eq_true rfl) dX0_takeDue_9 (fun z21 I22 hz21 hI22 v => ?_)
      refine r_if_eq B (tgt := 25) dX0_takeDue_12 (by decide) hz21 (fun h => ?_) (fun h => ?_)
      · have v := v.1 h
        refine r_iload_n B dX0_takeDue_25 rfl rfl ?_
        exact r_iret B hr hk rfl h3 hI22 v dX0_takeDue_26
      · have v := v.2 h
        refine r_aload_n B dX0_takeDue_15 rfl rfl ?_
        refine r_cV B (st := []) (as := []) (T := TX0) (N := 9) (c_Ca_takeFirst c _ hc hI22 ) v (hc.1) rfl mw_Ca_takeFirst wl_X0_123 ⟨Nat.le_of_ble_eq_true rfl, Nat.le_of_ble_eq_true rfl⟩ rfl rfl (Nat.le_of_ble_eq_true rfl) dX0_takeDue_16 (fun I23 hI23 v => ?_)
        refine r_iinc B (q := 3) dX0_takeDue_19 (by decide) rfl (lv' := [(3, .int (i2 (x3 + 1))), (0, .ref (eA E c)), (1, .int (i2 x1)), (2, .int (i2 x2))]) rfl ?_
        refine r_sub [1, 2, 3, 0] rfl ?_
        refine r_goto B (tgt := 2) dX0_takeDue_22 (by decide) ?_
        obtain ⟨h24, v⟩ := v
        refine r_sub [0, 1, 2, 3] rfl ?_
        exact ih (x3 + 1) _ hI23 h24 v
set_option maxHeartbeats 4000000 in
set_option maxRecDepth 100000 in
theorem c_Ca_takeDue {l : Launch} {E : En} {A : Nat → Prop} (c : Int) (x1 : Int) (x2 : Int) (I : Mm) (hc : isCa c) (hI : rgM I) (h1 : r32 x1) (h2 : r32 x2) : CI l E A yX0_takeDue cX0_takeDue 4 .int 5 157 [.ref (eA E c), .int (i2 x1), .int (i2 x2)] I (V_Ca_takeDue c x1 x2 I) := by
  intro Q v
  refine mk_met (own := RX0) (lv0 := [(0, .ref (eA E c)), (1, .int (i2 x1)), (2, .int (i2 x2))]) (by decide) rfl (Nat.le_of_ble_eq_true rfl) rfl (fun p e s m args below meth c0 B hr hk => ?_)
  unfold V_Ca_takeDue at v
  refine r_iconst B dX0_takeDue_0 ?_
  refine r_istore_n B dX0_takeDue_1 rfl (by decide) (lv' := [(3, .int (i2 0)), (0, .ref (eA E c)), (1, .int (i2 x1)), (2, .int (i2 x2))]) rfl ?_
  refine r_sub [1, 2, 3, 0] rfl ?_
  obtain ⟨f25, v⟩ := v
  refine r_sub [0, 1, 2, 3] rfl ?_
  exact wL_Ca_takeDue_2 B hr hk hc h1 h2 f25 0 I hI ((rg_lit (by decide) (by decide))) v
set_option maxHeartbeats 4000000 in
set_option maxRecDepth 100000 in
theorem c_X_until {l : Launch} {E : En} {A : Nat → Prop} (x1 : Int) (I : Mm)  (hI : rgM I) (h1 : r32 x1) : CI l E A yX10_until cX10_until 2 .int 6 180 [.ref (eA E 0), .int (i2 x1)] I (V_X_until x1 I) := by
  intro Q v
  refine mk_met (own := RX10) (lv0 := [(0, .ref (eA E 0)), (1, .int (i2 x1))]) (by decide) rfl (Nat.le_of_ble_eq_true rfl) rfl (fun p e s m args below meth c0 B hr hk => ?_)
  unfold V_X_until at v
  refine r_iload_n B dX10_until_0 rfl rfl ?_
  refine r_sI B (st := []) (as := [.int (i2 x1)]) (c_X_isHour x1 _ hI h1) v mw_X_isHour wl_X10_122 ⟨Nat.le_of_ble_eq_true rfl, Nat.le_of_ble_eq_true rfl⟩ rfl rfl (Nat.le_of_ble_eq_true rfl) dX10_until_1 (fun z21 I22 hz21 hI22 v => ?_)
  refine r_if_ne B (tgt := 9) dX10_until_4 (by decide) hz21 (fun h => ?_) (fun h => ?_)
  · have v := v.1 h
    refine r_aload_n B dX10_until_9 rfl rfl ?_
    refine r_getR B (C := RX10) (T := TX10) (N := 11) o_0 0 rfl win_X10 (by decide) rfl wf_X10_10 dX10_until_10 ?_
    refine r_iload_n B dX10_until_13 rfl rfl ?_
    refine r_cI B (st := []) (as := [.int (i2 x1)]) (T := TX0) (N := 9) (c_Ca_waitsBy 1 x1 _ ca_1 hI22 h1) v (ca_1.1) rfl mw_Ca_waitsBy wl_X10_135 ⟨Nat.le_of_ble_eq_true rfl, Nat.le_of_ble_eq_true rfl⟩ rfl rfl (Nat.le_of_ble_eq_true rfl) dX10_until_14 (fun z23 I24 hz23 hI24 v => ?_)
    refine r_if_ne B (tgt := 23) dX10_until_17 (by decide) hz23 (fun h => ?_) (fun h => ?_)
    · have v := v.1 h
      refine r_aload_n B dX10_until_23 rfl rfl ?_
      refine r_getR B (C := RX10) (T := TX10) (N := 11) o_0 6 rfl win_X10 (by decide) rfl wf_X10_52 dX10_until_24 ?_
      refine r_aload_n B dX10_until_27 rfl rfl ?_
      refine r_getR B (C := RX10) (T := TX10) (N := 11) o_0 0 rfl win_X10 (by decide) rfl wf_X10_10 dX10_until_28 ?_
      refine r_cV B (st := []) (as := [.ref (eA E 1)]) (T := TX1) (N := 3) (c_Hi_remember 1 _ ca_1 hI24 ) v o_39 rfl mw_Hi_remember wl_X10_112 ⟨Nat.le_of_ble_eq_true rfl, Nat.le_of_ble_eq_true rfl⟩ rfl rfl (Nat.le_of_ble_eq_true rfl) dX10_until_31 (fun I25 hI25 v => ?_)
      refine r_aload_n B dX10_until_34 rfl rfl ?_
      refine r_getR B (C := RX10) (T := TX10) (N := 11) o_0 0 rfl win_X10 (by decide) rfl wf_X10_10 dX10_until_35 ?_
      refine r_iload_n B dX10_until_38 rfl rfl ?_
      refine r_sipush B dX10_until_39 (by decide) ?_
      refine r_cI B (st := []) (as := [.int (i2 x1), .int (i2 999)]) (T := TX0) (N := 9) (c_Ca_takeDue 1 x1 999 _ ca_1 hI25 h1 ((rg_lit (by decide) (by decide)))) v (ca_1.1) rfl mw_Ca_takeDue wl_X10_138 ⟨Nat.le_of_ble_eq_true rfl, Nat.le_of_ble_eq_true rfl⟩ rfl rfl (Nat.le_of_ble_eq_true rfl) dX10_until_42 (fun z26 I27 hz26 hI27 v => ?_)
      exact r_iret B hr hk rfl hz26 hI27 v dX10_until_45
    · have v := v.2 h
      refine r_bipush B dX10_until_20 (by decide) ?_
      exact r_iret B hr hk rfl ((rg_lit (by decide) (by decide))) hI24 v dX10_until_22
  · have v := v.2 h
    refine r_iconst B dX10_until_7 ?_
    exact r_iret B hr hk rfl ((rg_lit (by decide) (by decide))) hI22 v dX10_until_8
set_option maxHeartbeats 4000000 in
set_option maxRecDepth 100000 in
theorem wL_Th_placeOf_2 {p : Program} {l : Launch} {e : Env} {s : State} {m : MethodId} {args : Array Value} {below : List Frame} {meth : Method} {c0 : Code} {E : En} {A : Nat → Prop} {c : Int} {x1 : Int} {Q : Int → Mm → Prop}  (B : Bd p (rmm 0 0) s m args c0 cX8_placeOf 3 RX8 E A 0 0) (hr : meth.sig.returnType = some .int) (hk : meth.locks = false) (hc : isTh c) (h1 : r32 x1)   : ∀ (n : Nat) (x2 : Int) (I : Mm), rgM I → r32 x2 → L_Th_placeOf_2 c x1 Q n x2 I → WI p l e (rmm 0 0) s m args below meth c0 E A 3 0 0 (qI below E A args s Q) I 2 [(0, .ref (eA E c)), (1, .int (i2 x1)), (2, .int (i2 x2))] [] := by
  intro n
  induction n with
  | zero => intro x2 I _ _ v; exact absurd v id
  | succ n ih =>
    intro x2 I hI h2 v
    unfold L_Th_placeOf_2 at v
    refine r_iload_n B dX8_placeOf_2 rfl rfl ?_
    refine r_aload_n B dX8_placeOf_3 rfl rfl ?_
    refine r_getI B (C := RX8) (T := TX8) (N := 4) (hc.1) 0 rfl win_X8 (by decide) rfl wf_X8_21 dX8_placeOf_4 (jj := 0) rfl ?_
    refine r_icmp_ge B (tgt := 28) dX8_placeOf_7 (by decide) h2 ((hI _ _)) (fun h => ?_) (fun h => ?_)
    · have v := v.1 h
      refine r_iconst B dX8_placeOf_28 ?_
      exact r_iret B hr hk rfl ((rg_lit (by decide) (by decide))) hI v dX8_placeOf_29
    · have v := v.2 h
      refine r_aload_n B dX8_placeOf_10 rfl rfl ?_
      refine r_getR B (C := RX8) (T := TX8) (N := 4) (hc.1) 1 rfl win_X8 (by decide) rfl wf_X8_9 dX8_placeOf_11 ?_
      refine r_iload_n B dX8_placeOf_14 rfl rfl ?_
      obtain ⟨h21, v⟩ := v
      refine r_ald B (hc.2.1) (by decide) h21 dX8_placeOf_15 ?_
      refine r_iload_n B dX8_placeOf_16 rfl rfl ?_
      refine r_icmp_ne B (tgt := 22) dX8_placeOf_17 (by decide) ((hI _ _)) h1 (fun h => ?_) (fun h => ?_)
      · have v := v.1 h
        refine r_iinc B (q := 2) dX8_placeOf_22 (by decide) rfl (lv' := [(2, .int (i2 (x2 + 1))), (0, .ref (eA E c)), (1, .int (i2 x1))]) rfl ?_
        refine r_sub [1, 2, 0] rfl ?_
        refine r_goto B (tgt := 2) dX8_placeOf_25 (by decide) ?_
        obtain ⟨h22, v⟩ := v
        refine r_sub [0, 1, 2] rfl ?_
        exact ih (x2 + 1) _ hI h22 v
      · have v := v.2 h
        refine r_iload_n B dX8_placeOf_20 rfl rfl ?_
        exact r_iret B hr hk rfl h2 hI v dX8_placeOf_21
set_option maxHeartbeats 4000000 in
set_option maxRecDepth 100000 in
theorem c_Th_placeOf {l : Launch} {E : En} {A : Nat → Prop} (c : Int) (x1 : Int) (I : Mm) (hc : isTh c) (hI : rgM I) (h1 : r32 x1) : CI l E A yX8_placeOf cX8_placeOf 3 .int 0 0 [.ref (eA E c), .int (i2 x1)] I (V_Th_placeOf c x1 I) := by
  intro Q v
  refine mk_met (own := RX8) (lv0 := [(0, .ref (eA E c)), (1, .int (i2 x1))]) (by decide) rfl (Nat.le_of_ble_eq_true rfl) rfl (fun p e s m args below meth c0 B hr hk => ?_)
  unfold V_Th_placeOf at v
  refine r_iconst B dX8_placeOf_0 ?_
  refine r_istore_n B dX8_placeOf_1 rfl (by decide) (lv' := [(2, .int (i2 0)), (0, .ref (eA E c)), (1, .int (i2 x1))]) rfl ?_
  refine r_sub [1, 2, 0] rfl ?_
  obtain ⟨f23, v⟩ := v
  refine r_sub [0, 1, 2] rfl ?_
  exact wL_Th_placeOf_2 B hr hk hc h1 f23 0 I hI ((rg_lit (by decide) (by decide))) v
set_option maxHeartbeats 4000000 in
set_option maxRecDepth 100000 in
theorem c_Ca_cancelAt {l : Launch} {E : En} {A : Nat → Prop} (c : Int) (x1 : Int) (I : Mm) (hc : isCa c) (hI : rgM I) (h1 : r32 x1) : CV l E A yX0_cancelAt cX0_cancelAt 2 3 108 [.ref (eA E c), .int (i2 x1)] I (V_Ca_cancelAt c x1 I) := by
  intro Q v
  refine mk_met (own := RX0) (lv0 := [(0, .ref (eA E c)), (1, .int (i2 x1))]) (by decide) rfl (Nat.le_of_ble_eq_true rfl) rfl (fun p e s m args below meth c0 B hr hk => ?_)
  unfold V_Ca_cancelAt at v
  refine r_aload_n B dX0_cancelAt_0 rfl rfl ?_
  refine r_getR B (C := RX0) (T := TX0) (N := 9) (hc.1) 1 rfl win_X0 (by decide) rfl wf_X0_21 dX0_cancelAt_1 ?_
  refine r_iload_n B dX0_cancelAt_4 rfl rfl ?_
  refine r_cI B (st := []) (as := [.int (i2 x1)]) (T := TX8) (N := 4) (c_Th_has (c + 5) x1 _ (hc.2.2.1) hI h1) v (hc.2.2.1.1) rfl mw_Th_has wl_X0_99 ⟨Nat.le_of_ble_eq_true rfl, Nat.le_of_ble_eq_true rfl⟩ rfl rfl (Nat.le_of_ble_eq_true rfl) dX0_cancelAt_5 (fun z21 I22 hz21 hI22 v => ?_)
  refine r_if_ne B (tgt := 12) dX0_cancelAt_8 (by decide) hz21 (fun h => ?_) (fun h => ?_)
  · have v := v.1 h
    refine r_aload_n B dX0_cancelAt_12 rfl rfl ?_
    refine r_getR B (C := RX0) (T := TX0) (N := 9) (hc.1) 4 rfl win_X0 (by decide) rfl wf_X0_39 dX0_cancelAt_13 ?_
    refine r_bipush B dX0_cancelAt_16 (by decide) ?_
    refine r_dup2 B dX0_cancelAt_18 rfl rfl ?_
    refine r_ald B (hc.2.2.2.2.2) (by decide) (by decide) dX0_cancelAt_19 ?_
    refine r_iconst B dX0_cancelAt_20 ?_
    refine r_iadd B dX0_cancelAt_21 ?_
    obtain ⟨h23, v⟩ := v
    refine r_ast B (hc.2.2.2.2.2) (by decide) (by decide) dX0_cancelAt_22 ?_
    have hI24 : rgM (wrM I22 (c + 15) 7 (I22 (c + 15) 7 + 1)) := rg_wr hI22 h23
    refine r_aload_n B dX0_cancelAt_23 rfl rfl ?_
    refine r_iload_n B dX0_cancelAt_24 rfl rfl ?_
    refine r_cV B (st := []) (as := [.int (i2 x1)]) (T := TX0) (N := 9) (c_Ca_goes c x1 _ hc hI24 h1) v (hc.1) rfl mw_Ca_goes wl_X0_112 ⟨Nat.le_of_ble_eq_true rfl, Nat.le_of_ble_eq_true rfl⟩ rfl rfl (Nat.le_of_ble_eq_true rfl) dX0_cancelAt_25 (fun I25 hI25 v => ?_)
    exact r_vret B hr hk hI25 v dX0_cancelAt_28
  · have v := v.2 h
    exact r_vret B hr hk hI22 v dX0_cancelAt_11
set_option maxHeartbeats 4000000 in
set_option maxRecDepth 100000 in
theorem c_X_cancel {l : Launch} {E : En} {A : Nat → Prop} (x1 : Int) (I : Mm)  (hI : rgM I) (h1 : r32 x1) : CI l E A yX10_cancel cX10_cancel 3 .int 4 129 [.ref (eA E 0), .int (i2 x1)] I (V_X_cancel x1 I) := by
  intro Q v
  refine mk_met (own := RX10) (lv0 := [(0, .ref (eA E 0)), (1, .int (i2 x1))]) (by decide) rfl (Nat.le_of_ble_eq_true rfl) rfl (fun p e s m args below meth c0 B hr hk => ?_)
  unfold V_X_cancel at v
  refine r_aload_n B dX10_cancel_0 rfl rfl ?_
  refine r_getR B (C := RX10) (T := TX10) (N := 11) o_0 0 rfl win_X10 (by decide) rfl wf_X10_10 dX10_cancel_1 ?_
  refine r_getR B (C := RX0) (T := TX0) (N := 9) (ca_1.1) 1 rfl win_X0 (by decide) rfl wf_X10_89 dX10_cancel_4 ?_
  refine r_iload_n B dX10_cancel_7 rfl rfl ?_
  refine r_cI B (st := []) (as := [.int (i2 x1)]) (T := TX8) (N := 4) (c_Th_placeOf (1 + 5) x1 _ (ca_1.2.2.1) hI h1) v (ca_1.2.2.1.1) rfl mw_Th_placeOf wl_X10_142 ⟨Nat.le_of_ble_eq_true rfl, Nat.le_of_ble_eq_true rfl⟩ rfl rfl (Nat.le_of_ble_eq_true rfl) dX10_cancel_8 (fun z21 I22 hz21 hI22 v => ?_)
  refine r_istore_n B dX10_cancel_11 rfl (by decide) (lv' := [(2, .int (i2 z21)), (0, .ref (eA E 0)), (1, .int (i2 x1))]) rfl ?_
  refine r_sub [1, 2, 0] rfl ?_
  refine r_iload_n B dX10_cancel_12 rfl rfl ?_
  refine r_iconst B dX10_cancel_13 ?_
  refine r_icmp_ne B (tgt := 19) dX10_cancel_14 (by decide) hz21 ((rg_lit (by decide) (by decide))) (fun h => ?_) (fun h => ?_)
  · have v := v.1 h
    refine r_aload_n B dX10_cancel_19 rfl rfl ?_
    refine r_getR B (C := RX10) (T := TX10) (N := 11) o_0 6 rfl win_X10 (by decide) rfl wf_X10_52 dX10_cancel_20 ?_
    refine r_aload_n B dX10_cancel_23 rfl rfl ?_
    refine r_getR B (C := RX10) (T := TX10) (N := 11) o_0 0 rfl win_X10 (by decide) rfl wf_X10_10 dX10_cancel_24 ?_
    refine r_cV B (st := []) (as := [.ref (eA E 1)]) (T := TX1) (N := 3) (c_Hi_remember 1 _ ca_1 hI22 ) v o_39 rfl mw_Hi_remember wl_X10_112 ⟨Nat.le_of_ble_eq_true rfl, Nat.le_of_ble_eq_true rfl⟩ rfl rfl (Nat.le_of_ble_eq_true rfl) dX10_cancel_27 (fun I23 hI23 v => ?_)
    refine r_aload_n B dX10_cancel_30 rfl rfl ?_
    refine r_getR B (C := RX10) (T := TX10) (N := 11) o_0 0 rfl win_X10 (by decide) rfl wf_X10_10 dX10_cancel_31 ?_
    refine r_iload_n B dX10_cancel_34 rfl rfl ?_
    refine r_cV B (st := []) (as := [.int (i2 z21)]) (T := TX0) (N := 9) (c_Ca_cancelAt 1 z21 _ ca_1 hI23 hz21) v (ca_1.1) rfl mw_Ca_cancelAt wl_X10_145 ⟨Nat.le_of_ble_eq_true rfl, Nat.le_of_ble_eq_true rfl⟩ rfl rfl (Nat.le_of_ble_eq_true rfl) dX10_cancel_35 (fun I24 hI24 v => ?_)
    refine r_aload_n B dX10_cancel_38 rfl rfl ?_
    refine r_getR B (C := RX10) (T := TX10) (N := 11) o_0 0 rfl win_X10 (by decide) rfl wf_X10_10 dX10_cancel_39 ?_
    refine r_getR B (C := RX0) (T := TX0) (N := 9) (ca_1.1) 1 rfl win_X0 (by decide) rfl wf_X10_89 dX10_cancel_42 ?_
    refine r_getI B (C := RX8) (T := TX8) (N := 4) (ca_1.2.2.1.1) 0 rfl win_X8 (by decide) rfl wf_X10_93 dX10_cancel_45 (jj := 0) rfl ?_
    exact r_iret B hr hk rfl ((hI24 _ _)) hI24 v dX10_cancel_48
  · have v := v.2 h
    refine r_iconst B dX10_cancel_17 ?_
    exact r_iret B hr hk rfl ((rg_lit (by decide) (by decide))) hI22 v dX10_cancel_18
set_option maxHeartbeats 4000000 in
set_option maxRecDepth 100000 in
theorem wL_Th_countOf_4 {p : Program} {l : Launch} {e : Env} {s : State} {m : MethodId} {args : Array Value} {below : List Frame} {meth : Method} {c0 : Code} {E : En} {A : Nat → Prop} {c : Int} {x1 : Int} {Q : Int → Mm → Prop}  (B : Bd p (rmm 0 0) s m args c0 cX8_countOf 4 RX8 E A 0 0) (hr : meth.sig.returnType = some .int) (hk : meth.locks = false) (hc : isTh c) (h1 : r32 x1)   : ∀ (n : Nat) (x2 : Int) (x3 : Int) (I : Mm), rgM I → r32 x2 → r32 x3 → L_Th_countOf_4 c x1 Q n x2 x3 I → WI p l e (rmm 0 0) s m args below meth c0 E A 4 0 0 (qI below E A args s Q) I 4 [(0, .ref (eA E c)), (1, .int (i2 x1)), (2, .int (i2 x2)), (3, .int (i2 x3))] [] := by
  intro n
  induction n with
  | zero => intro x2 x3 I _ _ _ v; exact absurd v id
  | succ n ih =>
    intro x2 x3 I hI h2 h3 v
    unfold L_Th_countOf_4 at v
    refine r_iload_n B dX8_countOf_4 rfl rfl ?_
    refine r_aload_n B dX8_countOf_5 rfl rfl ?_
    refine r_getI B (C := RX8) (T := TX8) (N := 4) (hc.1) 0 rfl win_X8 (by decide) rfl wf_X8_21 dX8_countOf_6 (jj := 0) rfl ?_
    refine r_icmp_ge B (tgt := 31) dX8_countOf_9 (by decide) h3 ((hI _ _)) (fun h => ?_) (fun h => ?_)
    · have v := v.1 h
      refine r_iload_n B dX8_countOf_31 rfl rfl ?_
      exact r_iret B hr hk rfl h2 hI v dX8_countOf_32
    · have v := v.2 h
      refine r_aload_n B dX8_countOf_12 rfl rfl ?_
      refine r_getR B (C := RX8) (T := TX8) (N := 4) (hc.1) 2 rfl win_X8 (by decide) rfl wf_X8_15 dX8_countOf_13 ?_
      refine r_iload_n B dX8_countOf_16 rfl rfl ?_
      obtain ⟨h21, v⟩ := v
      refine r_ald B (hc.2.2.1) (by decide) h21 dX8_countOf_17 ?_
      refine r_iload_n B dX8_countOf_18 rfl rfl ?_
      refine r_icmp_ne B (tgt := 25) dX8_countOf_19 (by decide) ((hI _ _)) h1 (fun h => ?_) (fun h => ?_)
      · have v := v.1 h
        refine r_iinc B (q := 3) dX8_countOf_25 (by decide) rfl (lv' := [(3, .int (i2 (x3 + 1))), (0, .ref (eA E c)), (1, .int (i2 x1)), (2, .int (i2 x2))]) rfl ?_
        refine r_sub [1, 2, 3, 0] rfl ?_
        refine r_goto B (tgt := 4) dX8_countOf_28 (by decide) ?_
        obtain ⟨h22, v⟩ := v
        refine r_sub [0, 1, 2, 3] rfl ?_
        exact ih x2 (x3 + 1) _ hI h2 h22 v
      · have v := v.2 h
        refine r_iinc B (q := 2) dX8_countOf_22 (by decide) rfl (lv' := [(2, .int (i2 (x2 + 1))), (0, .ref (eA E c)), (1, .int (i2 x1)), (3, .int (i2 x3))]) rfl ?_
        refine r_sub [1, 2, 0, 3] rfl ?_
        refine r_iinc B (q := 3) dX8_countOf_25 (by decide) rfl (lv' := [(3, .int (i2 (x3 + 1))), (0, .ref (eA E c)), (1, .int (i2 x1)), (2, .int (i2 (x2 + 1)))]) rfl ?_
        refine r_sub [1, 2, 3, 0] rfl ?_
        refine r_goto B (tgt := 4) dX8_countOf_28 (by decide) ?_
        obtain ⟨h23, v⟩ := v
        obtain ⟨h24, v⟩ := v
        refine r_sub [0, 1, 2, 3] rfl ?_
        exact ih (x2 + 1) (x3 + 1) _ hI h23 h24 v
set_option maxHeartbeats 4000000 in
set_option maxRecDepth 100000 in
theorem c_Th_countOf {l : Launch} {E : En} {A : Nat → Prop} (c : Int) (x1 : Int) (I : Mm) (hc : isTh c) (hI : rgM I) (h1 : r32 x1) : CI l E A yX8_countOf cX8_countOf 4 .int 0 0 [.ref (eA E c), .int (i2 x1)] I (V_Th_countOf c x1 I) := by
  intro Q v
  refine mk_met (own := RX8) (lv0 := [(0, .ref (eA E c)), (1, .int (i2 x1))]) (by decide) rfl (Nat.le_of_ble_eq_true rfl) rfl (fun p e s m args below meth c0 B hr hk => ?_)
  unfold V_Th_countOf at v
  refine r_iconst B dX8_countOf_0 ?_
  refine r_istore_n B dX8_countOf_1 rfl (by decide) (lv' := [(2, .int (i2 0)), (0, .ref (eA E c)), (1, .int (i2 x1))]) rfl ?_
  refine r_sub [1, 2, 0] rfl ?_
  refine r_iconst B dX8_countOf_2 ?_
  refine r_istore_n B dX8_countOf_3 rfl (by decide) (lv' := [(3, .int (i2 0)), (0, .ref (eA E c)), (1, .int (i2 x1)), (2, .int (i2 0))]) rfl ?_
  refine r_sub [1, 2, 3, 0] rfl ?_
  obtain ⟨f25, v⟩ := v
  refine r_sub [0, 1, 2, 3] rfl ?_
  exact wL_Th_countOf_4 B hr hk hc h1 f25 0 0 I hI ((rg_lit (by decide) (by decide))) ((rg_lit (by decide) (by decide))) v
set_option maxHeartbeats 4000000 in
set_option maxRecDepth 100000 in
theorem wL_Th_firstOf_2 {p : Program} {l : Launch} {e : Env} {s : State} {m : MethodId} {args : Array Value} {below : List Frame} {meth : Method} {c0 : Code} {E : En} {A : Nat → Prop} {c : Int} {x1 : Int} {Q : Int → Mm → Prop}  (B : Bd p (rmm 0 0) s m args c0 cX8_firstOf 3 RX8 E A 0 0) (hr : meth.sig.returnType = some .int) (hk : meth.locks = false) (hc : isTh c) (h1 : r32 x1)   : ∀ (n : Nat) (x2 : Int) (I : Mm), rgM I → r32 x2 → L_Th_firstOf_2 c x1 Q n x2 I → WI p l e (rmm 0 0) s m args below meth c0 E A 3 0 0 (qI below E A args s Q) I 2 [(0, .ref (eA E c)), (1, .int (i2 x1)), (2, .int (i2 x2))] [] := by
  intro n
  induction n with
  | zero => intro x2 I _ _ v; exact absurd v id
  | succ n ih =>
    intro x2 I hI h2 v
    unfold L_Th_firstOf_2 at v
    refine r_iload_n B dX8_firstOf_2 rfl rfl ?_
    refine r_aload_n B dX8_firstOf_3 rfl rfl ?_
    refine r_getI B (C := RX8) (T := TX8) (N := 4) (hc.1) 0 rfl win_X8 (by decide) rfl wf_X8_21 dX8_firstOf_4 (jj := 0) rfl ?_
    refine r_icmp_ge B (tgt := 28) dX8_firstOf_7 (by decide) h2 ((hI _ _)) (fun h => ?_) (fun h => ?_)
    · have v := v.1 h
      refine r_iconst B dX8_firstOf_28 ?_
      exact r_iret B hr hk rfl ((rg_lit (by decide) (by decide))) hI v dX8_firstOf_29
    · have v := v.2 h
      refine r_aload_n B dX8_firstOf_10 rfl rfl ?_
      refine r_getR B (C := RX8) (T := TX8) (N := 4) (hc.1) 2 rfl win_X8 (by decide) rfl wf_X8_15 dX8_firstOf_11 ?_
      refine r_iload_n B dX8_firstOf_14 rfl rfl ?_
      obtain ⟨h21, v⟩ := v
      refine r_ald B (hc.2.2.1) (by decide) h21 dX8_firstOf_15 ?_
      refine r_iload_n B dX8_firstOf_16 rfl rfl ?_
      refine r_icmp_ne B (tgt := 22) dX8_firstOf_17 (by decide) ((hI _ _)) h1 (fun h => ?_) (fun h => ?_)
      · have v := v.1 h
        refine r_iinc B (q := 2) dX8_firstOf_22 (by decide) rfl (lv' := [(2, .int (i2 (x2 + 1))), (0, .ref (eA E c)), (1, .int (i2 x1))]) rfl ?_
        refine r_sub [1, 2, 0] rfl ?_
        refine r_goto B (tgt := 2) dX8_firstOf_25 (by decide) ?_
        obtain ⟨h22, v⟩ := v
        refine r_sub [0, 1, 2] rfl ?_
        exact ih (x2 + 1) _ hI h22 v
      · have v := v.2 h
        refine r_iload_n B dX8_firstOf_20 rfl rfl ?_
        exact r_iret B hr hk rfl h2 hI v dX8_firstOf_21
set_option maxHeartbeats 4000000 in
set_option maxRecDepth 100000 in
theorem c_Th_firstOf {l : Launch} {E : En} {A : Nat → Prop} (c : Int) (x1 : Int) (I : Mm) (hc : isTh c) (hI : rgM I) (h1 : r32 x1) : CI l E A yX8_firstOf cX8_firstOf 3 .int 0 0 [.ref (eA E c), .int (i2 x1)] I (V_Th_firstOf c x1 I) := by
  intro Q v
  refine mk_met (own := RX8) (lv0 := [(0, .ref (eA E c)), (1, .int (i2 x1))]) (by decide) rfl (Nat.le_of_ble_eq_true rfl) rfl (fun p e s m args below meth c0 B hr hk => ?_)
  unfold V_Th_firstOf at v
  refine r_iconst B dX8_firstOf_0 ?_
  refine r_istore_n B dX8_firstOf_1 rfl (by decide) (lv' := [(2, .int (i2 0)), (0, .ref (eA E c)), (1, .int (i2 x1))]) rfl ?_
  refine r_sub [1, 2, 0] rfl ?_
  obtain ⟨f23, v⟩ := v
  refine r_sub [0, 1, 2] rfl ?_
  exact wL_Th_firstOf_2 B hr hk hc h1 f23 0 I hI ((rg_lit (by decide) (by decide))) v
set_option maxHeartbeats 4000000 in
set_option maxRecDepth 100000 in
theorem wL_X_clear_48 {p : Program} {l : Launch} {e : Env} {s : State} {m : MethodId} {args : Array Value} {below : List Frame} {meth : Method} {c0 : Code} {E : En} {A : Nat → Prop} {x1 : Int} {x2 : Int} {Q : Int → Mm → Prop}  (B : Bd p (rmm 4 129) s m args c0 cX10_clear 4 RX10 E A 0 0) (hr : meth.sig.returnType = some .int) (hk : meth.locks = false) (h1 : r32 x1) (h2 : r32 x2)  : ∀ (n : Nat) (x3 : Int) (I : Mm), rgM I → r32 x3 → L_X_clear_48 x1 x2 Q n x3 I → WI p l e (rmm 4 129) s m args below meth c0 E A 4 0 0 (qI below E A args s Q) I 48 [(0, .ref (eA E 0)), (1, .int (i2 x1)), (2, .int (i2 x2)), (3, .int (i2 x3))] [] := by
  intro n
  induction n with
  | zero => intro x3 I _ _ v; exact absurd v id
  | succ n ih =>
    intro x3 I hI h3 v
    unfold L_X_clear_48 at v
    refine r_iload_n B dX10_clear_48 rfl rfl ?_
    refine r_iload_n B dX10_clear_49 rfl rfl ?_
    refine r_icmp_ge B (tgt := 77) dX10_clear_50 (by decide) h3 h2 (fun h => ?_) (fun h => ?_)
    · have v := v.1 h
      refine r_iload_n B dX10_clear_77 rfl rfl ?_
      exact r_iret B hr hk rfl h2 hI v dX10_clear_78
    · have v := v.2 h
      refine r_aload_n B dX10_clear_53 rfl rfl ?_
      refine r_getR B (C := RX10) (T := TX10) (N := 11) o_0 0 rfl win_X10 (by decide) rfl wf_X10_10 dX10_clear_54 ?_
      refine r_aload_n B dX10_clear_57 rfl rfl ?_
      refine r_getR B (C := RX10) (T := TX10) (N := 11) o_0 0 rfl win_X10 (by decide) rfl wf_X10_10 dX10_clear_58 ?_
      refine r_getR B (C := RX0) (T := TX0) (N := 9) (ca_1.1) 1 rfl win_X0 (by decide) rfl wf_X10_89 dX10_clear_61 ?_
      refine r_iload_n B dX10_clear_64 rfl rfl ?_
      refine r_cI B (st := [.ref (eA E 1)]) (as := [.int (i2 x1)]) (T := TX8) (N := 4) (c_Th_firstOf (1 + 5) x1 _ (ca_1.2.2.1) hI h1) v (ca_1.2.2.1.1) rfl mw_Th_firstOf wl_X10_151 ⟨Nat.le_of_ble_eq_true rfl, Nat.le_of_ble_eq_true rfl⟩ rfl rfl (Nat.le_of_ble_eq_true rfl) dX10_clear_65 (fun z26 I27 hz26 hI27 v => ?_)
      refine r_cV B (st := []) (as := [.int (i2 z26)]) (T := TX0) (N := 9) (c_Ca_cancelAt 1 z26 _ ca_1 hI27 hz26) v (ca_1.1) rfl mw_Ca_cancelAt wl_X10_145 ⟨Nat.le_of_ble_eq_true rfl, Nat.le_of_ble_eq_true rfl⟩ rfl rfl (Nat.le_of_ble_eq_true rfl) dX10_clear_68 (fun I28 hI28 v => ?_)
      refine r_iinc B (q := 3) dX10_clear_71 (by decide) rfl (lv' := [(3, .int (i2 (x3 + 1))), (0, .ref (eA E 0)), (1, .int (i2 x1)), (2, .int (i2 x2))]) rfl ?_
      refine r_sub [1, 2, 3, 0] rfl ?_
      refine r_goto B (tgt := 48) dX10_clear_74 (by decide) ?_
      obtain ⟨h29, v⟩ := v
      refine r_sub [0, 1, 2, 3] rfl ?_
      exact ih (x3 + 1) _ hI28 h29 v
set_option maxHeartbeats 4000000 in
set_option maxRecDepth 100000 in
theorem c_X_clear {l : Launch} {E : En} {A : Nat → Prop} (x1 : Int) (I : Mm)  (hI : rgM I) (h1 : r32 x1) : CI l E A yX10_clear cX10_clear 4 .int 4 129 [.ref (eA E 0), .int (i2 x1)] I (V_X_clear x1 I) := by
  intro Q v
  refine mk_met (own := RX10) (lv0 := [(0, .ref (eA E 0)), (1, .int (i2 x1))]) (by decide) rfl (Nat.le_of_ble_eq_true rfl) rfl (fun p e s m args below meth c0 B hr hk => ?_)
  unfold V_X_clear at v
  refine r_aload_n B dX10_clear_0 rfl rfl ?_
  refine r_getR B (C := RX10) (T := TX10) (N := 11) o_0 0 rfl win_X10 (by decide) rfl wf_X10_10 dX10_clear_1 ?_
  refine r_getR B (C := RX0) (T := TX0) (N := 9) (ca_1.1) 0 rfl win_X0 (by decide) rfl wf_X10_101 dX10_clear_4 ?_
  refine r_iload_n B dX10_clear_7 rfl rfl ?_
  refine r_cI B (st := []) (as := [.int (i2 x1)]) (T := TX3) (N := 4) (c_Nm_has (1 + 1) x1 _ (ca_1.2.1) hI h1) v (ca_1.2.1.1) rfl mw_Nm_has wl_X10_118 ⟨Nat.le_of_ble_eq_true rfl, Nat.le_of_ble_eq_true rfl⟩ rfl rfl (Nat.le_of_ble_eq_true rfl) dX10_clear_8 (fun z21 I22 hz21 hI22 v => ?_)
  refine r_if_ne B (tgt := 16) dX10_clear_11 (by decide) hz21 (fun h => ?_) (fun h => ?_)
  · have v := v.1 h
    refine r_aload_n B dX10_clear_16 rfl rfl ?_
    refine r_getR B (C := RX10) (T := TX10) (N := 11) o_0 0 rfl win_X10 (by decide) rfl wf_X10_10 dX10_clear_17 ?_
    refine r_getR B (C := RX0) (T := TX0) (N := 9) (ca_1.1) 1 rfl win_X0 (by decide) rfl wf_X10_89 dX10_clear_20 ?_
    refine r_iload_n B dX10_clear_23 rfl rfl ?_
    refine r_cI B (st := []) (as := [.int (i2 x1)]) (T := TX8) (N := 4) (c_Th_countOf (1 + 5) x1 _ (ca_1.2.2.1) hI22 h1) v (ca_1.2.2.1.1) rfl mw_Th_countOf wl_X10_148 ⟨Nat.le_of_ble_eq_true rfl, Nat.le_of_ble_eq_true rfl⟩ rfl rfl (Nat.le_of_ble_eq_true rfl) dX10_clear_24 (fun z23 I24 hz23 hI24 v => ?_)
    refine r_istore_n B dX10_clear_27 rfl (by decide) (lv' := [(2, .int (i2 z23)), (0, .ref (eA E 0)), (1, .int (i2 x1))]) rfl ?_
    refine r_sub [1, 2, 0] rfl ?_
    refine r_iload_n B dX10_clear_28 rfl rfl ?_
    refine r_if_ne B (tgt := 35) dX10_clear_29 (by decide) hz23 (fun h => ?_) (fun h => ?_)
    · have v := v.1 h
      refine r_aload_n B dX10_clear_35 rfl rfl ?_
      refine r_getR B (C := RX10) (T := TX10) (N := 11) o_0 6 rfl win_X10 (by decide) rfl wf_X10_52 dX10_clear_36 ?_
      refine r_aload_n B dX10_clear_39 rfl rfl ?_
      refine r_getR B (C := RX10) (T := TX10) (N := 11) o_0 0 rfl win_X10 (by decide) rfl wf_X10_10 dX10_clear_40 ?_
      refine r_cV B (st := []) (as := [.ref (eA E 1)]) (T := TX1) (N := 3) (c_Hi_remember 1 _ ca_1 hI24 ) v o_39 rfl mw_Hi_remember wl_X10_112 ⟨Nat.le_of_ble_eq_true rfl, Nat.le_of_ble_eq_true rfl⟩ rfl rfl (Nat.le_of_ble_eq_true rfl) dX10_clear_43 (fun I25 hI25 v => ?_)
      refine r_iconst B dX10_clear_46 ?_
      refine r_istore_n B dX10_clear_47 rfl (by decide) (lv' := [(3, .int (i2 0)), (0, .ref (eA E 0)), (1, .int (i2 x1)), (2, .int (i2 z23))]) rfl ?_
      refine r_sub [1, 2, 3, 0] rfl ?_
      obtain ⟨f30, v⟩ := v
      refine r_sub [0, 1, 2, 3] rfl ?_
      exact wL_X_clear_48 B hr hk h1 hz23 f30 0 I25 hI25 ((rg_lit (by decide) (by decide))) v
    · have v := v.2 h
      refine r_bipush B dX10_clear_32 (by decide) ?_
      exact r_iret B hr hk rfl ((rg_lit (by decide) (by decide))) hI24 v dX10_clear_34
  · have v := v.2 h
    refine r_iconst B dX10_clear_14 ?_
    exact r_iret B hr hk rfl ((rg_lit (by decide) (by decide))) hI22 v dX10_clear_15
set_option maxHeartbeats 4000000 in
set_option maxRecDepth 100000 in
theorem c_Ca_putOff {l : Launch} {E : En} {A : Nat → Prop} (c : Int) (x1 : Int) (x2 : Int) (I : Mm) (hc : isCa c) (hI : rgM I) (h1 : r32 x1) (h2 : r32 x2) : CV l E A yX0_putOff cX0_putOff 5 3 110 [.ref (eA E c), .int (i2 x1), .int (i2 x2)] I (V_Ca_putOff c x1 x2 I) := by
  intro Q v
  refine mk_met (own := RX0) (lv0 := [(0, .ref (eA E c)), (1, .int (i2 x1)), (2, .int (i2 x2))]) (by decide) rfl (Nat.le_of_ble_eq_true rfl) rfl (fun p e s m args below meth c0 B hr hk => ?_)
  unfold V_Ca_putOff at v
  refine r_aload_n B dX0_putOff_0 rfl rfl ?_
  refine r_getR B (C := RX0) (T := TX0) (N := 9) (hc.1) 1 rfl win_X0 (by decide) rfl wf_X0_21 dX0_putOff_1 ?_
  refine r_iload_n B dX0_putOff_4 rfl rfl ?_
  refine r_cI B (st := []) (as := [.int (i2 x1)]) (T := TX8) (N := 4) (c_Th_has (c + 5) x1 _ (hc.2.2.1) hI h1) v (hc.2.2.1.1) rfl mw_Th_has wl_X0_99 ⟨Nat.le_of_ble_eq_true rfl, Nat.le_of_ble_eq_true rfl⟩ rfl rfl (Nat.le_of_ble_eq_true rfl) dX0_putOff_5 (fun z21 I22 hz21 hI22 v => ?_)
  refine r_if_ne B (tgt := 12) dX0_putOff_8 (by decide) hz21 (fun h => ?_) (fun h => ?_)
  · have v := v.1 h
    refine r_aload_n B dX0_putOff_12 rfl rfl ?_
    refine r_getR B (C := RX0) (T := TX0) (N := 9) (hc.1) 1 rfl win_X0 (by decide) rfl wf_X0_21 dX0_putOff_13 ?_
    refine r_getR B (C := RX8) (T := TX8) (N := 4) (hc.2.2.1.1) 1 rfl win_X8 (by decide) rfl wf_X0_115 dX0_putOff_16 ?_
    refine r_iload_n B dX0_putOff_19 rfl rfl ?_
    obtain ⟨h23, v⟩ := v
    refine r_ald B (hc.2.2.1.2.1) (by decide) h23 dX0_putOff_20 ?_
    refine r_istore_n B dX0_putOff_21 rfl (by decide) (lv' := [(3, .int (i2 (I22 (c + 5 + 1) x1))), (0, .ref (eA E c)), (1, .int (i2 x1)), (2, .int (i2 x2))]) rfl ?_
    refine r_sub [1, 2, 3, 0] rfl ?_
    refine r_aload_n B dX0_putOff_22 rfl rfl ?_
    refine r_getR B (C := RX0) (T := TX0) (N := 9) (hc.1) 1 rfl win_X0 (by decide) rfl wf_X0_21 dX0_putOff_23 ?_
    refine r_getR B (C := RX8) (T := TX8) (N := 4) (hc.2.2.1.1) 2 rfl win_X8 (by decide) rfl wf_X0_118 dX0_putOff_26 ?_
    refine r_iload_n B dX0_putOff_29 rfl rfl ?_
    obtain ⟨h24, v⟩ := v
    refine r_ald B (hc.2.2.1.2.2.1) (by decide) h24 dX0_putOff_30 ?_
    refine r_istore B dX0_putOff_31 (by decide) (lv' := [(4, .int (i2 (I22 (c + 5 + 2) x1))), (0, .ref (eA E c)), (1, .int (i2 x1)), (2, .int (i2 x2)), (3, .int (i2 (I22 (c + 5 + 1) x1)))]) rfl ?_
    refine r_sub [1, 2, 3, 4, 0] rfl ?_
    refine r_aload_n B dX0_putOff_33 rfl rfl ?_
    refine r_iload_n B dX0_putOff_34 rfl rfl ?_
    refine r_cV B (st := []) (as := [.int (i2 x1)]) (T := TX0) (N := 9) (c_Ca_goes c x1 _ hc hI22 h1) v (hc.1) rfl mw_Ca_goes wl_X0_112 ⟨Nat.le_of_ble_eq_true rfl, Nat.le_of_ble_eq_true rfl⟩ rfl rfl (Nat.le_of_ble_eq_true rfl) dX0_putOff_35 (fun I25 hI25 v => ?_)
    refine r_aload_n B dX0_putOff_38 rfl rfl ?_
    refine r_iload_n B dX0_putOff_39 rfl rfl ?_
    refine r_iload B dX0_putOff_40 rfl ?_
    refine r_iload_n B dX0_putOff_42 rfl rfl ?_
    refine r_cV B (st := []) (as := [.int (i2 (I22 (c + 5 + 1) x1)), .int (i2 (I22 (c + 5 + 2) x1)), .int (i2 x2)]) (T := TX0) (N := 9) (c_Ca_comes c (I22 (c + 5 + 1) x1) (I22 (c + 5 + 2) x1) x2 _ hc hI25 ((hI22 _ _)) ((hI22 _ _)) h2) v (hc.1) rfl mw_Ca_comes wl_X0_108 ⟨Nat.le_of_ble_eq_true rfl, Nat.le_of_ble_eq_true rfl⟩ rfl rfl (Nat.le_of_ble_eq_true rfl) dX0_putOff_43 (fun I26 hI26 v => ?_)
    exact r_vret B hr hk hI26 v dX0_putOff_46
  · have v := v.2 h
    exact r_vret B hr hk hI22 v dX0_putOff_11
set_option maxHeartbeats 4000000 in
set_option maxRecDepth 100000 in
theorem c_X_postpone {l : Launch} {E : En} {A : Nat → Prop} (x1 : Int) (x2 : Int) (I : Mm)  (hI : rgM I) (h1 : r32 x1) (h2 : r32 x2) : CI l E A yX10_postpone cX10_postpone 5 .int 4 134 [.ref (eA E 0), .int (i2 x1), .int (i2 x2)] I (V_X_postpone x1 x2 I) := by
  intro Q v
  refine mk_met (own := RX10) (lv0 := [(0, .ref (eA E 0)), (1, .int (i2 x1)), (2, .int (i2 x2))]) (by decide) rfl (Nat.le_of_ble_eq_true rfl) rfl (fun p e s m args below meth c0 B hr hk => ?_)
  unfold V_X_postpone at v
  refine r_aload_n B dX10_postpone_0 rfl rfl ?_
  refine r_getR B (C := RX10) (T := TX10) (N := 11) o_0 0 rfl win_X10 (by decide) rfl wf_X10_10 dX10_postpone_1 ?_
  refine r_getR B (C := RX0) (T := TX0) (N := 9) (ca_1.1) 1 rfl win_X0 (by decide) rfl wf_X10_89 dX10_postpone_4 ?_
  refine r_iload_n B dX10_postpone_7 rfl rfl ?_
  refine r_cI B (st := []) (as := [.int (i2 x1)]) (T := TX8) (N := 4) (c_Th_placeOf (1 + 5) x1 _ (ca_1.2.2.1) hI h1) v (ca_1.2.2.1.1) rfl mw_Th_placeOf wl_X10_142 ⟨Nat.le_of_ble_eq_true rfl, Nat.le_of_ble_eq_true rfl⟩ rfl rfl (Nat.le_of_ble_eq_true rfl) dX10_postpone_8 (fun z21 I22 hz21 hI22 v => ?_)
  refine r_istore_n B dX10_postpone_11 rfl (by decide) (lv' := [(3, .int (i2 z21)), (0, .ref (eA E 0)), (1, .int (i2 x1)), (2, .int (i2 x2))]) rfl ?_
  refine r_sub [1, 2, 3, 0] rfl ?_
  refine r_iload_n B dX10_postpone_12 rfl rfl ?_
  refine r_iconst B dX10_postpone_13 ?_
  refine r_icmp_eq B (tgt := 24) dX10_postpone_14 (by decide) hz21 ((rg_lit (by decide) (by decide))) (fun h => ?_) (fun h => ?_)
  · have v := v.1 h
    refine r_iconst B dX10_postpone_24 ?_
    exact r_iret B hr hk rfl ((rg_lit (by decide) (by decide))) hI22 v dX10_postpone_25
  · have v := v.2 h
    refine r_iload_n B dX10_postpone_17 rfl rfl ?_
    refine r_sI B (st := []) (as := [.int (i2 x2)]) (c_X_isHour x2 _ hI22 h2) v mw_X_isHour wl_X10_122 ⟨Nat.le_of_ble_eq_true rfl, Nat.le_of_ble_eq_true rfl⟩ rfl rfl (Nat.le_of_ble_eq_true rfl) dX10_postpone_18 (fun z23 I24 hz23 hI24 v => ?_)
    refine r_if_ne B (tgt := 26) dX10_postpone_21 (by decide) hz23 (fun h => ?_) (fun h => ?_)
    · have v := v.1 h
      refine r_iload_n B dX10_postpone_26 rfl rfl ?_
      refine r_aload_n B dX10_postpone_27 rfl rfl ?_
      refine r_getR B (C := RX10) (T := TX10) (N := 11) o_0 0 rfl win_X10 (by decide) rfl wf_X10_10 dX10_postpone_28 ?_
      refine r_getI B (C := RX0) (T := TX0) (N := 9) (ca_1.1) 7 rfl win_X0 (by decide) rfl wf_X10_125 dX10_postpone_31 (jj := 7) rfl ?_
      refine r_icmp_ge B (tgt := 40) dX10_postpone_34 (by decide) h2 ((hI24 _ _)) (fun h => ?_) (fun h => ?_)
      · have v := v.1 h
        refine r_aload_n B dX10_postpone_40 rfl rfl ?_
        refine r_getR B (C := RX10) (T := TX10) (N := 11) o_0 0 rfl win_X10 (by decide) rfl wf_X10_10 dX10_postpone_41 ?_
        refine r_getR B (C := RX0) (T := TX0) (N := 9) (ca_1.1) 1 rfl win_X0 (by decide) rfl wf_X10_89 dX10_postpone_44 ?_
        refine r_getR B (C := RX8) (T := TX8) (N := 4) (ca_1.2.2.1.1) 3 rfl win_X8 (by decide) rfl wf_X10_154 dX10_postpone_47 ?_
        refine r_iload_n B dX10_postpone_50 rfl rfl ?_
        obtain ⟨h25, v⟩ := v
        refine r_ald B (ca_1.2.2.1.2.2.2) (by decide) h25 dX10_postpone_51 ?_
        refine r_istore B dX10_postpone_52 (by decide) (lv' := [(4, .int (i2 (I24 (1 + 5 + 3) z21))), (0, .ref (eA E 0)), (1, .int (i2 x1)), (2, .int (i2 x2)), (3, .int (i2 z21))]) rfl ?_
        refine r_sub [1, 2, 3, 4, 0] rfl ?_
        refine r_iload B dX10_postpone_54 rfl ?_
        refine r_iload_n B dX10_postpone_56 rfl rfl ?_
        refine r_icmp_ne B (tgt := 63) dX10_postpone_57 (by decide) ((hI24 _ _)) h2 (fun h => ?_) (fun h => ?_)
        · have v := v.1 h
          refine r_aload_n B dX10_postpone_63 rfl rfl ?_
          refine r_getR B (C := RX10) (T := TX10) (N := 11) o_0 6 rfl win_X10 (by decide) rfl wf_X10_52 dX10_postpone_64 ?_
          refine r_aload_n B dX10_postpone_67 rfl rfl ?_
          refine r_getR B (C := RX10) (T := TX10) (N := 11) o_0 0 rfl win_X10 (by decide) rfl wf_X10_10 dX10_postpone_68 ?_
          refine r_cV B (st := []) (as := [.ref (eA E 1)]) (T := TX1) (N := 3) (c_Hi_remember 1 _ ca_1 hI24 ) v o_39 rfl mw_Hi_remember wl_X10_112 ⟨Nat.le_of_ble_eq_true rfl, Nat.le_of_ble_eq_true rfl⟩ rfl rfl (Nat.le_of_ble_eq_true rfl) dX10_postpone_71 (fun I26 hI26 v => ?_)
          refine r_aload_n B dX10_postpone_74 rfl rfl ?_
          refine r_getR B (C := RX10) (T := TX10) (N := 11) o_0 0 rfl win_X10 (by decide) rfl wf_X10_10 dX10_postpone_75 ?_
          refine r_iload_n B dX10_postpone_78 rfl rfl ?_
          refine r_iload_n B dX10_postpone_79 rfl rfl ?_
          refine r_cV B (st := []) (as := [.int (i2 z21), .int (i2 x2)]) (T := TX0) (N := 9) (c_Ca_putOff 1 z21 x2 _ ca_1 hI26 hz21 h2) v (ca_1.1) rfl mw_Ca_putOff wl_X10_157 ⟨Nat.le_of_ble_eq_true rfl, Nat.le_of_ble_eq_true rfl⟩ rfl rfl (Nat.le_of_ble_eq_true rfl) dX10_postpone_80 (fun I27 hI27 v => ?_)
          refine r_iload B dX10_postpone_83 rfl ?_
          exact r_iret B hr hk rfl ((hI24 _ _)) hI27 v dX10_postpone_85
        · have v := v.2 h
          refine r_bipush B dX10_postpone_60 (by decide) ?_
          exact r_iret B hr hk rfl ((rg_lit (by decide) (by decide))) hI24 v dX10_postpone_62
      · have v := v.2 h
        refine r_bipush B dX10_postpone_37 (by decide) ?_
        exact r_iret B hr hk rfl ((rg_lit (by decide) (by decide))) hI24 v dX10_postpone_39
    · have v := v.2 h
      refine r_iconst B dX10_postpone_24 ?_
      exact r_iret B hr hk rfl ((rg_lit (by decide) (by decide))) hI24 v dX10_postpone_25
set_option maxHeartbeats 4000000 in
set_option maxRecDepth 100000 in
theorem c_X_isGap {l : Launch} {E : En} {A : Nat → Prop} (x0 : Int) (I : Mm)  (hI : rgM I) (h0 : r32 x0) : CI l E A yX10_isGap cX10_isGap 1 .boolean 0 0 [.int (i2 x0)] I (V_X_isGap x0 I) := by
  intro Q v
  refine mk_met (own := RX10) (lv0 := [(0, .int (i2 x0))]) (by decide) rfl (Nat.le_of_ble_eq_true rfl) rfl (fun p e s m args below meth c0 B hr hk => ?_)
  unfold V_X_isGap at v
  refine r_iload_n B dX10_isGap_0 rfl rfl ?_
  refine r_iconst B dX10_isGap_1 ?_
  refine r_icmp_lt B (tgt := 16) dX10_isGap_2 (by decide) h0 ((rg_lit (by decide) (by decide))) (fun h => ?_) (fun h => ?_)
  · have v := v.1 h
    refine r_iconst B dX10_isGap_16 ?_
    exact r_iret B hr hk rfl ((rg_lit (by decide) (by decide))) hI v dX10_isGap_17
  · have v := v.2 h
    refine r_iload_n B dX10_isGap_5 rfl rfl ?_
    refine r_ldcw B (999999) dX10_isGap_6 wc_X10_365 (by decide) ?_
    refine r_icmp_gt B (tgt := 16) dX10_isGap_9 (by decide) h0 ((rg_lit (by decide) (by decide))) (fun h => ?_) (fun h => ?_)
    · have v := v.1 h
      refine r_iconst B dX10_isGap_16 ?_
      exact r_iret B hr hk rfl ((rg_lit (by decide) (by decide))) hI v dX10_isGap_17
    · have v := v.2 h
      refine r_iconst B dX10_isGap_12 ?_
      refine r_goto B (tgt := 17) dX10_isGap_13 (by decide) ?_
      exact r_iret B hr hk rfl ((rg_lit (by decide) (by decide))) hI v dX10_isGap_17
set_option maxHeartbeats 4000000 in
set_option maxRecDepth 100000 in
theorem c_X_series {l : Launch} {E : En} {A : Nat → Prop} (x1 : Int) (x2 : Int) (x3 : Int) (x4 : Int) (I : Mm)  (hI : rgM I) (h1 : r32 x1) (h2 : r32 x2) (h3 : r32 x3) (h4 : r32 x4) : CI l E A yX10_series cX10_series 6 .int 4 136 [.ref (eA E 0), .int (i2 x1), .int (i2 x2), .int (i2 x3), .int (i2 x4)] I (V_X_series x1 x2 x3 x4 I) := by
  intro Q v
  refine mk_met (own := RX10) (lv0 := [(0, .ref (eA E 0)), (1, .int (i2 x1)), (2, .int (i2 x2)), (3, .int (i2 x3)), (4, .int (i2 x4))]) (by decide) rfl (Nat.le_of_ble_eq_true rfl) rfl (fun p e s m args below meth c0 B hr hk => ?_)
  unfold V_X_series at v
  refine r_aload_n B dX10_series_0 rfl rfl ?_
  refine r_getR B (C := RX10) (T := TX10) (N := 11) o_0 0 rfl win_X10 (by decide) rfl wf_X10_10 dX10_series_1 ?_
  refine r_getR B (C := RX0) (T := TX0) (N := 9) (ca_1.1) 0 rfl win_X0 (by decide) rfl wf_X10_101 dX10_series_4 ?_
  refine r_iload_n B dX10_series_7 rfl rfl ?_
  refine r_cI B (st := []) (as := [.int (i2 x1)]) (T := TX3) (N := 4) (c_Nm_has (1 + 1) x1 _ (ca_1.2.1) hI h1) v (ca_1.2.1.1) rfl mw_Nm_has wl_X10_118 ⟨Nat.le_of_ble_eq_true rfl, Nat.le_of_ble_eq_true rfl⟩ rfl rfl (Nat.le_of_ble_eq_true rfl) dX10_series_8 (fun z21 I22 hz21 hI22 v => ?_)
  refine r_if_eq B (tgt := 45) dX10_series_11 (by decide) hz21 (fun h => ?_) (fun h => ?_)
  · have v := v.1 h
    refine r_iconst B dX10_series_45 ?_
    refine r_istore B dX10_series_46 (by decide) (lv' := [(5, .int (i2 0)), (0, .ref (eA E 0)), (1, .int (i2 x1)), (2, .int (i2 x2)), (3, .int (i2 x3)), (4, .int (i2 x4))]) rfl ?_
    refine r_sub [1, 2, 3, 4, 5, 0] rfl ?_
    refine r_iload B dX10_series_48 rfl ?_
    refine r_if_ne B (tgt := 55) dX10_series_50 (by decide) ((rg_lit (by decide) (by decide))) (fun h => absurd h (by decide)) (fun _ => ?_)
    refine r_iconst B dX10_series_53 ?_
    exact r_iret B hr hk rfl ((rg_lit (by decide) (by decide))) hI22 v dX10_series_54
  · have v := v.2 h
    refine r_iload_n B dX10_series_14 rfl rfl ?_
    refine r_sI B (st := []) (as := [.int (i2 x2)]) (c_X_isGap x2 _ hI22 h2) v mw_X_isGap wl_X10_161 ⟨Nat.le_of_ble_eq_true rfl, Nat.le_of_ble_eq_true rfl⟩ rfl rfl (Nat.le_of_ble_eq_true rfl) dX10_series_15 (fun z23 I24 hz23 hI24 v => ?_)
    refine r_if_eq B (tgt := 45) dX10_series_18 (by decide) hz23 (fun h => ?_) (fun h => ?_)
    · have v := v.1 h
      refine r_iconst B dX10_series_45 ?_
      refine r_istore B dX10_series_46 (by decide) (lv' := [(5, .int (i2 0)), (0, .ref (eA E 0)), (1, .int (i2 x1)), (2, .int (i2 x2)), (3, .int (i2 x3)), (4, .int (i2 x4))]) rfl ?_
      refine r_sub [1, 2, 3, 4, 5, 0] rfl ?_
      refine r_iload B dX10_series_48 rfl ?_
      refine r_if_ne B (tgt := 55) dX10_series_50 (by decide) ((rg_lit (by decide) (by decide))) (fun h => absurd h (by decide)) (fun _ => ?_)
      refine r_iconst B dX10_series_53 ?_
      exact r_iret B hr hk rfl ((rg_lit (by decide) (by decide))) hI24 v dX10_series_54
    · have v := v.2 h
      refine r_iload_n B dX10_series_21 rfl rfl ?_
      refine r_sI B (st := []) (as := [.int (i2 x3)]) (c_X_isHour x3 _ hI24 h3) v mw_X_isHour wl_X10_122 ⟨Nat.le_of_ble_eq_true rfl, Nat.le_of_ble_eq_true rfl⟩ rfl rfl (Nat.le_of_ble_eq_true rfl) dX10_series_22 (fun z25 I26 hz25 hI26 v => ?_)
      refine r_if_eq B (tgt := 45) dX10_series_25 (by decide) hz25 (fun h => ?_) (fun h => ?_)
      · have v := v.1 h
        refine r_iconst B dX10_series_45 ?_
        refine r_istore B dX10_series_46 (by decide) (lv' := [(5, .int (i2 0)), (0, .ref (eA E 0)), (1, .int (i2 x1)), (2, .int (i2 x2)), (3, .int (i2 x3)), (4, .int (i2 x4))]) rfl ?_
        refine r_sub [1, 2, 3, 4, 5, 0] rfl ?_
        refine r_iload B dX10_series_48 rfl ?_
        refine r_if_ne B (tgt := 55) dX10_series_50 (by decide) ((rg_lit (by decide) (by decide))) (fun h => absurd h (by decide)) (fun _ => ?_)
        refine r_iconst B dX10_series_53 ?_
        exact r_iret B hr hk rfl ((rg_lit (by decide) (by decide))) hI26 v dX10_series_54
      · have v := v.2 h
        refine r_iload B dX10_series_28 rfl ?_
        refine r_iconst B dX10_series_30 ?_
        refine r_icmp_lt B (tgt := 45) dX10_series_31 (by decide) h4 ((rg_lit (by decide) (by decide))) (fun h => ?_) (fun h => ?_)
        · have v := v.1 h
          refine r_iconst B dX10_series_45 ?_
          refine r_istore B dX10_series_46 (by decide) (lv' := [(5, .int (i2 0)), (0, .ref (eA E 0)), (1, .int (i2 x1)), (2, .int (i2 x2)), (3, .int (i2 x3)), (4, .int (i2 x4))]) rfl ?_
          refine r_sub [1, 2, 3, 4, 5, 0] rfl ?_
          refine r_iload B dX10_series_48 rfl ?_
          refine r_if_ne B (tgt := 55) dX10_series_50 (by decide) ((rg_lit (by decide) (by decide))) (fun h => absurd h (by decide)) (fun _ => ?_)
          refine r_iconst B dX10_series_53 ?_
          exact r_iret B hr hk rfl ((rg_lit (by decide) (by decide))) hI26 v dX10_series_54
        · have v := v.2 h
          refine r_iload B dX10_series_34 rfl ?_
          refine r_bipush B dX10_series_36 (by decide) ?_
          refine r_icmp_gt B (tgt := 45) dX10_series_38 (by decide) h4 ((rg_lit (by decide) (by decide))) (fun h => ?_) (fun h => ?_)
          · have v := v.1 h
            refine r_iconst B dX10_series_45 ?_
            refine r_istore B dX10_series_46 (by decide) (lv' := [(5, .int (i2 0)), (0, .ref (eA E 0)), (1, .int (i2 x1)), (2, .int (i2 x2)), (3, .int (i2 x3)), (4, .int (i2 x4))]) rfl ?_
            refine r_sub [1, 2, 3, 4, 5, 0] rfl ?_
            refine r_iload B dX10_series_48 rfl ?_
            refine r_if_ne B (tgt := 55) dX10_series_50 (by decide) ((rg_lit (by decide) (by decide))) (fun h => absurd h (by decide)) (fun _ => ?_)
            refine r_iconst B dX10_series_53 ?_
            exact r_iret B hr hk rfl ((rg_lit (by decide) (by decide))) hI26 v dX10_series_54
          · have v := v.2 h
            refine r_iconst B dX10_series_41 ?_
            refine r_goto B (tgt := 46) dX10_series_42 (by decide) ?_
            refine r_istore B dX10_series_46 (by decide) (lv' := [(5, .int (i2 1)), (0, .ref (eA E 0)), (1, .int (i2 x1)), (2, .int (i2 x2)), (3, .int (i2 x3)), (4, .int (i2 x4))]) rfl ?_
            refine r_sub [1, 2, 3, 4, 5, 0] rfl ?_
            refine r_iload B dX10_series_48 rfl ?_
            refine r_if_ne B (tgt := 55) dX10_series_50 (by decide) ((rg_lit (by decide) (by decide))) (fun _ => ?_) (fun h => absurd h (by decide))
            refine r_iload_n B dX10_series_55 rfl rfl ?_
            refine r_aload_n B dX10_series_56 rfl rfl ?_
            refine r_getR B (C := RX10) (T := TX10) (N := 11) o_0 0 rfl win_X10 (by decide) rfl wf_X10_10 dX10_series_57 ?_
            refine r_getI B (C := RX0) (T := TX0) (N := 9) (ca_1.1) 7 rfl win_X0 (by decide) rfl wf_X10_125 dX10_series_60 (jj := 7) rfl ?_
            refine r_icmp_ge B (tgt := 69) dX10_series_63 (by decide) h3 ((hI26 _ _)) (fun h => ?_) (fun h => ?_)
            · have v := v.1 h
              refine r_aload_n B dX10_series_69 rfl rfl ?_
              refine r_getR B (C := RX10) (T := TX10) (N := 11) o_0 0 rfl win_X10 (by decide) rfl wf_X10_10 dX10_series_70 ?_
              refine r_iload_n B dX10_series_73 rfl rfl ?_
              refine r_iload_n B dX10_series_74 rfl rfl ?_
              refine r_iload B dX10_series_75 rfl ?_
              refine r_cI B (st := []) (as := [.int (i2 x2), .int (i2 x3), .int (i2 x4)]) (T := TX0) (N := 9) (c_Ca_hasRoomFor 1 x2 x3 x4 _ ca_1 hI26 h2 h3 h4) v (ca_1.1) rfl mw_Ca_hasRoomFor wl_X10_164 ⟨Nat.le_of_ble_eq_true rfl, Nat.le_of_ble_eq_true rfl⟩ rfl rfl (Nat.le_of_ble_eq_true rfl) dX10_series_77 (fun z27 I28 hz27 hI28 v => ?_)
              refine r_if_ne B (tgt := 86) dX10_series_80 (by decide) hz27 (fun h => ?_) (fun h => ?_)
              · have v := v.1 h
                refine r_aload_n B dX10_series_86 rfl rfl ?_
                refine r_getR B (C := RX10) (T := TX10) (N := 11) o_0 6 rfl win_X10 (by decide) rfl wf_X10_52 dX10_series_87 ?_
                refine r_aload_n B dX10_series_90 rfl rfl ?_
                refine r_getR B (C := RX10) (T := TX10) (N := 11) o_0 0 rfl win_X10 (by decide) rfl wf_X10_10 dX10_series_91 ?_
                refine r_cV B (st := []) (as := [.ref (eA E 1)]) (T := TX1) (N := 3) (c_Hi_remember 1 _ ca_1 hI28 ) v o_39 rfl mw_Hi_remember wl_X10_112 ⟨Nat.le_of_ble_eq_true rfl, Nat.le_of_ble_eq_true rfl⟩ rfl rfl (Nat.le_of_ble_eq_true rfl) dX10_series_94 (fun I29 hI29 v => ?_)
                refine r_aload_n B dX10_series_97 rfl rfl ?_
                refine r_getR B (C := RX10) (T := TX10) (N := 11) o_0 0 rfl win_X10 (by decide) rfl wf_X10_10 dX10_series_98 ?_
                refine r_iload_n B dX10_series_101 rfl rfl ?_
                refine r_iload_n B dX10_series_102 rfl rfl ?_
                refine r_iload_n B dX10_series_103 rfl rfl ?_
                refine r_iload B dX10_series_104 rfl ?_
                refine r_cI B (st := []) (as := [.int (i2 x1), .int (i2 x2), .int (i2 x3), .int (i2 x4)]) (T := TX0) (N := 9) (c_Ca_comesOften 1 x1 x2 x3 x4 _ ca_1 hI29 h1 h2 h3 h4) v (ca_1.1) rfl mw_Ca_comesOften wl_X10_128 ⟨Nat.le_of_ble_eq_true rfl, Nat.le_of_ble_eq_true rfl⟩ rfl rfl (Nat.le_of_ble_eq_true rfl) dX10_series_106 (fun z30 I31 hz30 hI31 v => ?_)
                exact r_iret B hr hk rfl hz30 hI31 v dX10_series_109
              · have v := v.2 h
                refine r_bipush B dX10_series_83 (by decide) ?_
                exact r_iret B hr hk rfl ((rg_lit (by decide) (by decide))) hI28 v dX10_series_85
            · have v := v.2 h
              refine r_bipush B dX10_series_66 (by decide) ?_
              exact r_iret B hr hk rfl ((rg_lit (by decide) (by decide))) hI26 v dX10_series_68
set_option maxHeartbeats 4000000 in
set_option maxRecDepth 100000 in
theorem wL_Th_pickAll_5 {p : Program} {l : Launch} {e : Env} {s : State} {m : MethodId} {args : Array Value} {below : List Frame} {meth : Method} {c0 : Code} {E : En} {A : Nat → Prop} {c : Int} {x1 : Int} {r2 : Int} {Q : Int → Mm → Prop}  (B : Bd p (rmm 0 0) s m args c0 cX8_pickAll 5 RX8 E A 0 0) (hr : meth.sig.returnType = some .int) (hk : meth.locks = false) (hc : isTh c) (hr2 : isA 1 200 r2) (h1 : r32 x1)   : ∀ (n : Nat) (x3 : Int) (x4 : Int) (I : Mm), rgM I → r32 x3 → r32 x4 → L_Th_pickAll_5 c x1 r2 Q n x3 x4 I → WI p l e (rmm 0 0) s m args below meth c0 E A 5 0 0 (qI below E A args s Q) I 5 [(0, .ref (eA E c)), (1, .int (i2 x1)), (2, .ref (eA E r2)), (3, .int (i2 x3)), (4, .int (i2 x4))] [] := by
  intro n
  induction n with
  | zero => intro x3 x4 I _ _ _ v; exact absurd v id
  | succ n ih =>
    intro x3 x4 I hI h3 h4 v
    unfold L_Th_pickAll_5 at v
    refine r_iload B dX8_pickAll_5 rfl ?_
    refine r_aload_n B dX8_pickAll_7 rfl rfl ?_
    refine r_getI B (C := RX8) (T := TX8) (N := 4) (hc.1) 0 rfl win_X8 (by decide) rfl wf_X8_21 dX8_pickAll_8 (jj := 0) rfl ?_
    refine r_icmp_ge B (tgt := 50) dX8_pickAll_11 (by decide) h4 ((hI _ _)) (fun h => ?_) (fun h => ?_)
    · have v := v.1 h
      refine r_iload_n B dX8_pickAll_50 rfl rfl ?_
      exact r_iret B hr hk rfl h3 hI v dX8_pickAll_51
    · have v := v.2 h
      refine r_aload_n B dX8_pickAll_14 rfl rfl ?_
      refine r_getR B (C := RX8) (T := TX8) (N := 4) (hc.1) 2 rfl win_X8 (by decide) rfl wf_X8_15 dX8_pickAll_15 ?_
      refine r_iload B dX8_pickAll_18 rfl ?_
      obtain ⟨h21, v⟩ := v
      refine r_ald B (hc.2.2.1) (by decide) h21 dX8_pickAll_20 ?_
      refine r_iload_n B dX8_pickAll_21 rfl rfl ?_
      refine r_icmp_ne B (tgt := 44) dX8_pickAll_22 (by decide) ((hI _ _)) h1 (fun h => ?_) (fun h => ?_)
      · have v := v.1 h
        refine r_iinc B (q := 4) dX8_pickAll_44 (by decide) rfl (lv' := [(4, .int (i2 (x4 + 1))), (0, .ref (eA E c)), (1, .int (i2 x1)), (2, .ref (eA E r2)), (3, .int (i2 x3))]) rfl ?_
        refine r_sub [1, 2, 3, 4, 0] rfl ?_
        refine r_goto B (tgt := 5) dX8_pickAll_47 (by decide) ?_
        obtain ⟨h22, v⟩ := v
        refine r_sub [0, 1, 2, 3, 4] rfl ?_
        exact ih x3 (x4 + 1) _ hI h3 h22 v
      · have v := v.2 h
        refine r_iload_n B dX8_pickAll_25 rfl rfl ?_
        refine r_aload_n B dX8_pickAll_26 rfl rfl ?_
        refine r_len B hr2 dX8_pickAll_27 ?_
        refine r_icmp_ge B (tgt := 44) dX8_pickAll_28 (by decide) h3 ((rg_lit (by decide) (by decide))) (fun h => ?_) (fun h => ?_)
        · have v := v.1 h
          refine r_iinc B (q := 4) dX8_pickAll_44 (by decide) rfl (lv' := [(4, .int (i2 (x4 + 1))), (0, .ref (eA E c)), (1, .int (i2 x1)), (2, .ref (eA E r2)), (3, .int (i2 x3))]) rfl ?_
          refine r_sub [1, 2, 3, 4, 0] rfl ?_
          refine r_goto B (tgt := 5) dX8_pickAll_47 (by decide) ?_
          obtain ⟨h23, v⟩ := v
          refine r_sub [0, 1, 2, 3, 4] rfl ?_
          exact ih x3 (x4 + 1) _ hI h3 h23 v
        · have v := v.2 h
          refine r_aload_n B dX8_pickAll_31 rfl rfl ?_
          refine r_iload_n B dX8_pickAll_32 rfl rfl ?_
          refine r_aload_n B dX8_pickAll_33 rfl rfl ?_
          refine r_getR B (C := RX8) (T := TX8) (N := 4) (hc.1) 1 rfl win_X8 (by decide) rfl wf_X8_9 dX8_pickAll_34 ?_
          refine r_iload B dX8_pickAll_37 rfl ?_
          obtain ⟨h24, v⟩ := v
          refine r_ald B (hc.2.1) (by decide) h24 dX8_pickAll_39 ?_
          obtain ⟨h25, v⟩ := v
          refine r_ast B hr2 (by decide) h25 dX8_pickAll_40 ?_
          have hI26 : rgM (wrM I r2 x3 (I (c + 1) x4)) := rg_wr hI ((hI _ _))
          refine r_iinc B (q := 3) dX8_pickAll_41 (by decide) rfl (lv' := [(3, .int (i2 (x3 + 1))), (0, .ref (eA E c)), (1, .int (i2 x1)), (2, .ref (eA E r2)), (4, .int (i2 x4))]) rfl ?_
          refine r_sub [1, 2, 3, 0, 4] rfl ?_
          refine r_iinc B (q := 4) dX8_pickAll_44 (by decide) rfl (lv' := [(4, .int (i2 (x4 + 1))), (0, .ref (eA E c)), (1, .int (i2 x1)), (2, .ref (eA E r2)), (3, .int (i2 (x3 + 1)))]) rfl ?_
          refine r_sub [1, 2, 3, 4, 0] rfl ?_
          refine r_goto B (tgt := 5) dX8_pickAll_47 (by decide) ?_
          obtain ⟨h27, v⟩ := v
          obtain ⟨h28, v⟩ := v
          refine r_sub [0, 1, 2, 3, 4] rfl ?_
          exact ih (x3 + 1) (x4 + 1) _ hI26 h27 h28 v
set_option maxHeartbeats 4000000 in
set_option maxRecDepth 100000 in
theorem c_Th_pickAll {l : Launch} {E : En} {A : Nat → Prop} (c : Int) (x1 : Int) (r2 : Int) (I : Mm) (hc : isTh c) (hr2 : isA 1 200 r2) (hI : rgM I) (h1 : r32 x1) : CI l E A yX8_pickAll cX8_pickAll 5 .int 0 0 [.ref (eA E c), .int (i2 x1), .ref (eA E r2)] I (V_Th_pickAll c x1 r2 I) := by
  intro Q v
  refine mk_met (own := RX8) (lv0 := [(0, .ref (eA E c)), (1, .int (i2 x1)), (2, .ref (eA E r2))]) (by decide) rfl (Nat.le_of_ble_eq_true rfl) rfl (fun p e s m args below meth c0 B hr hk => ?_)
  unfold V_Th_pickAll at v
  refine r_iconst B dX8_pickAll_0 ?_
  refine r_istore_n B dX8_pickAll_1 rfl (by decide) (lv' := [(3, .int (i2 0)), (0, .ref (eA E c)), (1, .int (i2 x1)), (2, .ref (eA E r2))]) rfl ?_
  refine r_sub [1, 2, 3, 0] rfl ?_
  refine r_iconst B dX8_pickAll_2 ?_
  refine r_istore B dX8_pickAll_3 (by decide) (lv' := [(4, .int (i2 0)), (0, .ref (eA E c)), (1, .int (i2 x1)), (2, .ref (eA E r2)), (3, .int (i2 0))]) rfl ?_
  refine r_sub [1, 2, 3, 4, 0] rfl ?_
  obtain ⟨f29, v⟩ := v
  refine r_sub [0, 1, 2, 3, 4] rfl ?_
  exact wL_Th_pickAll_5 B hr hk hc hr2 h1 f29 0 0 I hI ((rg_lit (by decide) (by decide))) ((rg_lit (by decide) (by decide))) v
set_option maxHeartbeats 4000000 in
set_option maxRecDepth 100000 in
theorem wL_Th_lastHourOf_7 {p : Program} {l : Launch} {e : Env} {s : State} {m : MethodId} {args : Array Value} {below : List Frame} {meth : Method} {c0 : Code} {E : En} {A : Nat → Prop} {c : Int} {x1 : Int} {Q : Int → Mm → Prop}  (B : Bd p (rmm 0 0) s m args c0 cX8_lastHourOf 3 RX8 E A 0 0) (hr : meth.sig.returnType = some .int) (hk : meth.locks = false) (hc : isTh c) (h1 : r32 x1)   : ∀ (n : Nat) (x2 : Int) (I : Mm), rgM I → r32 x2 → L_Th_lastHourOf_7 c x1 Q n x2 I → WI p l e (rmm 0 0) s m args below meth c0 E A 3 0 0 (qI below E A args s Q) I 7 [(0, .ref (eA E c)), (1, .int (i2 x1)), (2, .int (i2 x2))] [] := by
  intro n
  induction n with
  | zero => intro x2 I _ _ v; exact absurd v id
  | succ n ih =>
    intro x2 I hI h2 v
    unfold L_Th_lastHourOf_7 at v
    refine r_iload_n B dX8_lastHourOf_7 rfl rfl ?_
    refine r_if_lt B (tgt := 34) dX8_lastHourOf_8 (by decide) h2 (fun h => ?_) (fun h => ?_)
    · have v := v.1 h
      refine r_bipush B dX8_lastHourOf_34 (by decide) ?_
      exact r_iret B hr hk rfl ((rg_lit (by decide) (by decide))) hI v dX8_lastHourOf_36
    · have v := v.2 h
      refine r_aload_n B dX8_lastHourOf_11 rfl rfl ?_
      refine r_getR B (C := RX8) (T := TX8) (N := 4) (hc.1) 2 rfl win_X8 (by decide) rfl wf_X8_15 dX8_lastHourOf_12 ?_
      refine r_iload_n B dX8_lastHourOf_15 rfl rfl ?_
      obtain ⟨h21, v⟩ := v
      refine r_ald B (hc.2.2.1) (by decide) h21 dX8_lastHourOf_16 ?_
      refine r_iload_n B dX8_lastHourOf_17 rfl rfl ?_
      refine r_icmp_ne B (tgt := 28) dX8_lastHourOf_18 (by decide) ((hI _ _)) h1 (fun h => ?_) (fun h => ?_)
      · have v := v.1 h
        refine r_iinc B (q := 2) dX8_lastHourOf_28 (by decide) rfl (lv' := [(2, .int (i2 (x2 + (-1)))), (0, .ref (eA E c)), (1, .int (i2 x1))]) rfl ?_
        refine r_sub [1, 2, 0] rfl ?_
        refine r_goto B (tgt := 7) dX8_lastHourOf_31 (by decide) ?_
        obtain ⟨h22, v⟩ := v
        refine r_sub [0, 1, 2] rfl ?_
        exact ih (x2 + (-1)) _ hI h22 v
      · have v := v.2 h
        refine r_aload_n B dX8_lastHourOf_21 rfl rfl ?_
        refine r_getR B (C := RX8) (T := TX8) (N := 4) (hc.1) 3 rfl win_X8 (by decide) rfl wf_X8_18 dX8_lastHourOf_22 ?_
        refine r_iload_n B dX8_lastHourOf_25 rfl rfl ?_
        obtain ⟨h23, v⟩ := v
        refine r_ald B (hc.2.2.2) (by decide) h23 dX8_lastHourOf_26 ?_
        exact r_iret B hr hk rfl ((hI _ _)) hI v dX8_lastHourOf_27
set_option maxHeartbeats 4000000 in
set_option maxRecDepth 100000 in
theorem c_Th_lastHourOf {l : Launch} {E : En} {A : Nat → Prop} (c : Int) (x1 : Int) (I : Mm) (hc : isTh c) (hI : rgM I) (h1 : r32 x1) : CI l E A yX8_lastHourOf cX8_lastHourOf 3 .int 0 0 [.ref (eA E c), .int (i2 x1)] I (V_Th_lastHourOf c x1 I) := by
  intro Q v
  refine mk_met (own := RX8) (lv0 := [(0, .ref (eA E c)), (1, .int (i2 x1))]) (by decide) rfl (Nat.le_of_ble_eq_true rfl) rfl (fun p e s m args below meth c0 B hr hk => ?_)
  unfold V_Th_lastHourOf at v
  refine r_aload_n B dX8_lastHourOf_0 rfl rfl ?_
  refine r_getI B (C := RX8) (T := TX8) (N := 4) (hc.1) 0 rfl win_X8 (by decide) rfl wf_X8_21 dX8_lastHourOf_1 (jj := 0) rfl ?_
  refine r_iconst B dX8_lastHourOf_4 ?_
  refine r_isub B dX8_lastHourOf_5 ?_
  refine r_istore_n B dX8_lastHourOf_6 rfl (by decide) (lv' := [(2, .int (i2 (I c 0 - 1))), (0, .ref (eA E c)), (1, .int (i2 x1))]) rfl ?_
  refine r_sub [1, 2, 0] rfl ?_
  obtain ⟨h24, v⟩ := v
  obtain ⟨f25, v⟩ := v
  refine r_sub [0, 1, 2] rfl ?_
  exact wL_Th_lastHourOf_7 B hr hk hc h1 f25 (I c 0 - 1) I hI h24 v
set_option maxHeartbeats 4000000 in
set_option maxRecDepth 100000 in
theorem wL_X_shift_79 {p : Program} {l : Launch} {e : Env} {s : State} {m : MethodId} {args : Array Value} {below : List Frame} {meth : Method} {c0 : Code} {E : En} {A : Nat → Prop} {x1 : Int} {x2 : Int} {x4 : Int} {Q : Int → Mm → Prop}  (B : Bd p (rmm 4 134) s m args c0 cX10_shift 7 RX10 E A 0 0) (hr : meth.sig.returnType = some .int) (hk : meth.locks = false) (h1 : r32 x1) (h2 : r32 x2) (h4 : r32 x4)  : ∀ (n : Nat) (x5 : Int) (I : Mm), rgM I → r32 x5 → L_X_shift_79 x1 x2 x4 Q n x5 I → WI p l e (rmm 4 134) s m args below meth c0 E A 7 0 0 (qI below E A args s Q) I 79 [(0, .ref (eA E 0)), (2, .int (i2 x2)), (3, .ref (eA E (1 + 5))), (4, .int (i2 x4)), (5, .int (i2 x5))] [] := by
  intro n
  induction n with
  | zero => intro x5 I _ _ v; exact absurd v id
  | succ n ih =>
    intro x5 I hI h5 v
    unfold L_X_shift_79 at v
    refine r_iload B dX10_shift_79 rfl ?_
    refine r_iload B dX10_shift_81 rfl ?_
    refine r_icmp_ge B (tgt := 129) dX10_shift_83 (by decide) h5 h4 (fun h => ?_) (fun h => ?_)
    · have v := v.1 h
      refine r_iload B dX10_shift_129 rfl ?_
      exact r_iret B hr hk rfl h4 hI v dX10_shift_131
    · have v := v.2 h
      refine r_aload_n B dX10_shift_86 rfl rfl ?_
      refine r_aload_n B dX10_shift_87 rfl rfl ?_
      refine r_getR B (C := RX10) (T := TX10) (N := 11) o_0 9 rfl win_X10 (by decide) rfl wf_X10_64 dX10_shift_88 ?_
      refine r_iload B dX10_shift_91 rfl ?_
      obtain ⟨h31, v⟩ := v
      refine r_ald B a_235 (by decide) h31 dX10_shift_93 ?_
      refine r_cI B (st := []) (as := [.int (i2 (I 235 x5))]) (T := TX8) (N := 4) (c_Th_placeOf (1 + 5) (I 235 x5) _ (ca_1.2.2.1) hI ((hI _ _))) v (ca_1.2.2.1.1) rfl mw_Th_placeOf wl_X10_142 ⟨Nat.le_of_ble_eq_true rfl, Nat.le_of_ble_eq_true rfl⟩ rfl rfl (Nat.le_of_ble_eq_true rfl) dX10_shift_94 (fun z32 I33 hz32 hI33 v => ?_)
      refine r_istore B dX10_shift_97 (by decide) (lv' := [(6, .int (i2 z32)), (0, .ref (eA E 0)), (2, .int (i2 x2)), (3, .ref (eA E (1 + 5))), (4, .int (i2 x4)), (5, .int (i2 x5))]) rfl ?_
      refine r_sub [1, 2, 3, 4, 5, 0] rfl ?_
      refine r_iload B dX10_shift_99 rfl ?_
      refine r_iconst B dX10_shift_101 ?_
      refine r_icmp_eq B (tgt := 123) dX10_shift_102 (by decide) hz32 ((rg_lit (by decide) (by decide))) (fun h => ?_) (fun h => ?_)
      · have v := v.1 h
        refine r_iinc B (q := 4) dX10_shift_123 (by decide) rfl (lv' := [(5, .int (i2 (x5 + 1))), (0, .ref (eA E 0)), (2, .int (i2 x2)), (3, .ref (eA E (1 + 5))), (4, .int (i2 x4)), (6, .int (i2 z32))]) rfl ?_
        refine r_sub [1, 2, 3, 4, 0, 5] rfl ?_
        refine r_goto B (tgt := 79) dX10_shift_126 (by decide) ?_
        obtain ⟨h34, v⟩ := v
        refine r_sub [0, 1, 2, 3, 4] rfl ?_
        exact ih (x5 + 1) _ hI33 h34 v
      · have v := v.2 h
        refine r_aload_n B dX10_shift_105 rfl rfl ?_
        refine r_getR B (C := RX10) (T := TX10) (N := 11) o_0 0 rfl win_X10 (by decide) rfl wf_X10_10 dX10_shift_106 ?_
        refine r_iload B dX10_shift_109 rfl ?_
        refine r_aload_n B dX10_shift_111 rfl rfl ?_
        refine r_getR B (C := RX8) (T := TX8) (N := 4) (ca_1.2.2.1.1) 3 rfl win_X8 (by decide) rfl wf_X10_154 dX10_shift_112 ?_
        refine r_iload B dX10_shift_115 rfl ?_
        obtain ⟨h35, v⟩ := v
        refine r_ald B (ca_1.2.2.1.2.2.2) (by decide) h35 dX10_shift_117 ?_
        refine r_iload_n B dX10_shift_118 rfl rfl ?_
        refine r_iadd B dX10_shift_119 ?_
        obtain ⟨h36, v⟩ := v
        refine r_cV B (st := []) (as := [.int (i2 z32), .int (i2 (I33 (1 + 5 + 3) z32 + x2))]) (T := TX0) (N := 9) (c_Ca_putOff 1 z32 (I33 (1 + 5 + 3) z32 + x2) _ ca_1 hI33 hz32 h36) v (ca_1.1) rfl mw_Ca_putOff wl_X10_157 ⟨Nat.le_of_ble_eq_true rfl, Nat.le_of_ble_eq_true rfl⟩ rfl rfl (Nat.le_of_ble_eq_true rfl) dX10_shift_120 (fun I37 hI37 v => ?_)
        refine r_iinc B (q := 4) dX10_shift_123 (by decide) rfl (lv' := [(5, .int (i2 (x5 + 1))), (0, .ref (eA E 0)), (2, .int (i2 x2)), (3, .ref (eA E (1 + 5))), (4, .int (i2 x4)), (6, .int (i2 z32))]) rfl ?_
        refine r_sub [1, 2, 3, 4, 0, 5] rfl ?_
        refine r_goto B (tgt := 79) dX10_shift_126 (by decide) ?_
        obtain ⟨h38, v⟩ := v
        refine r_sub [0, 1, 2, 3, 4] rfl ?_
        exact ih (x5 + 1) _ hI37 h38 v
set_option maxHeartbeats 4000000 in
set_option maxRecDepth 100000 in
theorem c_X_shift {l : Launch} {E : En} {A : Nat → Prop} (x1 : Int) (x2 : Int) (I : Mm)  (hI : rgM I) (h1 : r32 x1) (h2 : r32 x2) : CI l E A yX10_shift cX10_shift 7 .int 4 134 [.ref (eA E 0), .int (i2 x1), .int (i2 x2)] I (V_X_shift x1 x2 I) := by
  intro Q v
  refine mk_met (own := RX10) (lv0 := [(0, .ref (eA E 0)), (1, .int (i2 x1)), (2, .int (i2 x2))]) (by decide) rfl (Nat.le_of_ble_eq_true rfl) rfl (fun p e s m args below meth c0 B hr hk => ?_)
  unfold V_X_shift at v
  refine r_aload_n B dX10_shift_0 rfl rfl ?_
  refine r_getR B (C := RX10) (T := TX10) (N := 11) o_0 0 rfl win_X10 (by decide) rfl wf_X10_10 dX10_shift_1 ?_
  refine r_getR B (C := RX0) (T := TX0) (N := 9) (ca_1.1) 0 rfl win_X0 (by decide) rfl wf_X10_101 dX10_shift_4 ?_
  refine r_iload_n B dX10_shift_7 rfl rfl ?_
  refine r_cI B (st := []) (as := [.int (i2 x1)]) (T := TX3) (N := 4) (c_Nm_has (1 + 1) x1 _ (ca_1.2.1) hI h1) v (ca_1.2.1.1) rfl mw_Nm_has wl_X10_118 ⟨Nat.le_of_ble_eq_true rfl, Nat.le_of_ble_eq_true rfl⟩ rfl rfl (Nat.le_of_ble_eq_true rfl) dX10_shift_8 (fun z21 I22 hz21 hI22 v => ?_)
  refine r_if_eq B (tgt := 21) dX10_shift_11 (by decide) hz21 (fun h => ?_) (fun h => ?_)
  · have v := v.1 h
    refine r_iconst B dX10_shift_21 ?_
    exact r_iret B hr hk rfl ((rg_lit (by decide) (by decide))) hI22 v dX10_shift_22
  · have v := v.2 h
    refine r_iload_n B dX10_shift_14 rfl rfl ?_
    refine r_sI B (st := []) (as := [.int (i2 x2)]) (c_X_isGap x2 _ hI22 h2) v mw_X_isGap wl_X10_161 ⟨Nat.le_of_ble_eq_true rfl, Nat.le_of_ble_eq_true rfl⟩ rfl rfl (Nat.le_of_ble_eq_true rfl) dX10_shift_15 (fun z23 I24 hz23 hI24 v => ?_)
    refine r_if_ne B (tgt := 23) dX10_shift_18 (by decide) hz23 (fun h => ?_) (fun h => ?_)
    · have v := v.1 h
      refine r_aload_n B dX10_shift_23 rfl rfl ?_
      refine r_getR B (C := RX10) (T := TX10) (N := 11) o_0 0 rfl win_X10 (by decide) rfl wf_X10_10 dX10_shift_24 ?_
      refine r_getR B (C := RX0) (T := TX0) (N := 9) (ca_1.1) 1 rfl win_X0 (by decide) rfl wf_X10_89 dX10_shift_27 ?_
      refine r_astore_n B dX10_shift_30 rfl (by decide) (lv' := [(3, .ref (eA E (1 + 5))), (0, .ref (eA E 0)), (1, .int (i2 x1)), (2, .int (i2 x2))]) rfl ?_
      refine r_sub [1, 2, 3, 0] rfl ?_
      refine r_aload_n B dX10_shift_31 rfl rfl ?_
      refine r_iload_n B dX10_shift_32 rfl rfl ?_
      refine r_aload_n B dX10_shift_33 rfl rfl ?_
      refine r_getR B (C := RX10) (T := TX10) (N := 11) o_0 9 rfl win_X10 (by decide) rfl wf_X10_64 dX10_shift_34 ?_
      refine r_cI B (st := []) (as := [.int (i2 x1), .ref (eA E 235)]) (T := TX8) (N := 4) (c_Th_pickAll (1 + 5) x1 235 _ (ca_1.2.2.1) a_235 hI24 h1) v (ca_1.2.2.1.1) rfl mw_Th_pickAll wl_X10_168 ⟨Nat.le_of_ble_eq_true rfl, Nat.le_of_ble_eq_true rfl⟩ rfl rfl (Nat.le_of_ble_eq_true rfl) dX10_shift_37 (fun z25 I26 hz25 hI26 v => ?_)
      refine r_istore B dX10_shift_40 (by decide) (lv' := [(4, .int (i2 z25)), (0, .ref (eA E 0)), (1, .int (i2 x1)), (2, .int (i2 x2)), (3, .ref (eA E (1 + 5)))]) rfl ?_
      refine r_sub [1, 2, 3, 4, 0] rfl ?_
      refine r_iload B dX10_shift_42 rfl ?_
      refine r_if_ne B (tgt := 50) dX10_shift_44 (by decide) hz25 (fun h => ?_) (fun h => ?_)
      · have v := v.1 h
        refine r_aload_n B dX10_shift_50 rfl rfl ?_
        refine r_iload_n B dX10_shift_51 rfl rfl ?_
        refine r_cI B (st := []) (as := [.int (i2 x1)]) (T := TX8) (N := 4) (c_Th_lastHourOf (1 + 5) x1 _ (ca_1.2.2.1) hI26 h1) v (ca_1.2.2.1.1) rfl mw_Th_lastHourOf wl_X10_172 ⟨Nat.le_of_ble_eq_true rfl, Nat.le_of_ble_eq_true rfl⟩ rfl rfl (Nat.le_of_ble_eq_true rfl) dX10_shift_52 (fun z27 I28 hz27 hI28 v => ?_)
        refine r_iload_n B dX10_shift_55 rfl rfl ?_
        refine r_iadd B dX10_shift_56 ?_
        refine r_ldc B (999999999) dX10_shift_57 wc_X10_175 (by decide) ?_
        obtain ⟨h29, v⟩ := v
        refine r_icmp_le B (tgt := 65) dX10_shift_59 (by decide) h29 ((rg_lit (by decide) (by decide))) (fun h => ?_) (fun h => ?_)
        · have v := v.1 h
          refine r_aload_n B dX10_shift_65 rfl rfl ?_
          refine r_getR B (C := RX10) (T := TX10) (N := 11) o_0 6 rfl win_X10 (by decide) rfl wf_X10_52 dX10_shift_66 ?_
          refine r_aload_n B dX10_shift_69 rfl rfl ?_
          refine r_getR B (C := RX10) (T := TX10) (N := 11) o_0 0 rfl win_X10 (by decide) rfl wf_X10_10 dX10_shift_70 ?_
          refine r_cV B (st := []) (as := [.ref (eA E 1)]) (T := TX1) (N := 3) (c_Hi_remember 1 _ ca_1 hI28 ) v o_39 rfl mw_Hi_remember wl_X10_112 ⟨Nat.le_of_ble_eq_true rfl, Nat.le_of_ble_eq_true rfl⟩ rfl rfl (Nat.le_of_ble_eq_true rfl) dX10_shift_73 (fun I30 hI30 v => ?_)
          refine r_iconst B dX10_shift_76 ?_
          refine r_istore B dX10_shift_77 (by decide) (lv' := [(5, .int (i2 0)), (0, .ref (eA E 0)), (1, .int (i2 x1)), (2, .int (i2 x2)), (3, .ref (eA E (1 + 5))), (4, .int (i2 z25))]) rfl ?_
          refine r_sub [1, 2, 3, 4, 5, 0] rfl ?_
          obtain ⟨f39, v⟩ := v
          refine r_sub [0, 2, 3, 4, 5] rfl ?_
          exact wL_X_shift_79 B hr hk h1 h2 hz25 f39 0 I30 hI30 ((rg_lit (by decide) (by decide))) v
        · have v := v.2 h
          refine r_bipush B dX10_shift_62 (by decide) ?_
          exact r_iret B hr hk rfl ((rg_lit (by decide) (by decide))) hI28 v dX10_shift_64
      · have v := v.2 h
        refine r_bipush B dX10_shift_47 (by decide) ?_
        exact r_iret B hr hk rfl ((rg_lit (by decide) (by decide))) hI26 v dX10_shift_49
    · have v := v.2 h
      refine r_iconst B dX10_shift_21 ?_
      exact r_iret B hr hk rfl ((rg_lit (by decide) (by decide))) hI24 v dX10_shift_22
set_option maxHeartbeats 4000000 in
set_option maxRecDepth 100000 in
theorem wL_Th_rename_5 {p : Program} {l : Launch} {e : Env} {s : State} {m : MethodId} {args : Array Value} {below : List Frame} {meth : Method} {c0 : Code} {E : En} {A : Nat → Prop} {c : Int} {x1 : Int} {x2 : Int} {Q : Int → Mm → Prop}  (B : Bd p (rmm 0 0) s m args c0 cX8_rename 5 RX8 E A 0 0) (hr : meth.sig.returnType = some .int) (hk : meth.locks = false) (hc : isTh c) (h1 : r32 x1) (h2 : r32 x2)   : ∀ (n : Nat) (x3 : Int) (x4 : Int) (I : Mm), rgM I → r32 x3 → r32 x4 → L_Th_rename_5 c x1 x2 Q n x3 x4 I → WI p l e (rmm 0 0) s m args below meth c0 E A 5 0 0 (qI below E A args s Q) I 5 [(0, .ref (eA E c)), (1, .int (i2 x1)), (2, .int (i2 x2)), (3, .int (i2 x3)), (4, .int (i2 x4))] [] := by
  intro n
  induction n with
  | zero => intro x3 x4 I _ _ _ v; exact absurd v id
  | succ n ih =>
    intro x3 x4 I hI h3 h4 v
    unfold L_Th_rename_5 at v
    refine r_iload B dX8_rename_5 rfl ?_
    refine r_aload_n B dX8_rename_7 rfl rfl ?_
    refine r_getI B (C := RX8) (T := TX8) (N := 4) (hc.1) 0 rfl win_X8 (by decide) rfl wf_X8_21 dX8_rename_8 (jj := 0) rfl ?_
    refine r_icmp_ge B (tgt := 42) dX8_rename_11 (by decide) h4 ((hI _ _)) (fun h => ?_) (fun h => ?_)
    · have v := v.1 h
      refine r_iload_n B dX8_rename_42 rfl rfl ?_
      exact r_iret B hr hk rfl h3 hI v dX8_rename_43
    · have v := v.2 h
      refine r_aload_n B dX8_rename_14 rfl rfl ?_
      refine r_getR B (C := RX8) (T := TX8) (N := 4) (hc.1) 2 rfl win_X8 (by decide) rfl wf_X8_15 dX8_rename_15 ?_
      refine r_iload B dX8_rename_18 rfl ?_
      obtain ⟨h21, v⟩ := v
      refine r_ald B (hc.2.2.1) (by decide) h21 dX8_rename_20 ?_
      refine r_iload_n B dX8_rename_21 rfl rfl ?_
      refine r_icmp_ne B (tgt := 36) dX8_rename_22 (by decide) ((hI _ _)) h1 (fun h => ?_) (fun h => ?_)
      · have v := v.1 h
        refine r_iinc B (q := 4) dX8_rename_36 (by decide) rfl (lv' := [(4, .int (i2 (x4 + 1))), (0, .ref (eA E c)), (1, .int (i2 x1)), (2, .int (i2 x2)), (3, .int (i2 x3))]) rfl ?_
        refine r_sub [1, 2, 3, 4, 0] rfl ?_
        refine r_goto B (tgt := 5) dX8_rename_39 (by decide) ?_
        obtain ⟨h22, v⟩ := v
        refine r_sub [0, 1, 2, 3, 4] rfl ?_
        exact ih x3 (x4 + 1) _ hI h3 h22 v
      · have v := v.2 h
        refine r_aload_n B dX8_rename_25 rfl rfl ?_
        refine r_getR B (C := RX8) (T := TX8) (N := 4) (hc.1) 2 rfl win_X8 (by decide) rfl wf_X8_15 dX8_rename_26 ?_
        refine r_iload B dX8_rename_29 rfl ?_
        refine r_iload_n B dX8_rename_31 rfl rfl ?_
        obtain ⟨h23, v⟩ := v
        refine r_ast B (hc.2.2.1) (by decide) h23 dX8_rename_32 ?_
        have hI24 : rgM (wrM I (c + 2) x4 x2) := rg_wr hI h2
        refine r_iinc B (q := 3) dX8_rename_33 (by decide) rfl (lv' := [(3, .int (i2 (x3 + 1))), (0, .ref (eA E c)), (1, .int (i2 x1)), (2, .int (i2 x2)), (4, .int (i2 x4))]) rfl ?_
        refine r_sub [1, 2, 3, 0, 4] rfl ?_
        refine r_iinc B (q := 4) dX8_rename_36 (by decide) rfl (lv' := [(4, .int (i2 (x4 + 1))), (0, .ref (eA E c)), (1, .int (i2 x1)), (2, .int (i2 x2)), (3, .int (i2 (x3 + 1)))]) rfl ?_
        refine r_sub [1, 2, 3, 4, 0] rfl ?_
        refine r_goto B (tgt := 5) dX8_rename_39 (by decide) ?_
        obtain ⟨h25, v⟩ := v
        obtain ⟨h26, v⟩ := v
        refine r_sub [0, 1, 2, 3, 4] rfl ?_
        exact ih (x3 + 1) (x4 + 1) _ hI24 h25 h26 v
set_option maxHeartbeats 4000000 in
set_option maxRecDepth 100000 in
theorem c_Th_rename {l : Launch} {E : En} {A : Nat → Prop} (c : Int) (x1 : Int) (x2 : Int) (I : Mm) (hc : isTh c) (hI : rgM I) (h1 : r32 x1) (h2 : r32 x2) : CI l E A yX8_rename cX8_rename 5 .int 0 0 [.ref (eA E c), .int (i2 x1), .int (i2 x2)] I (V_Th_rename c x1 x2 I) := by
  intro Q v
  refine mk_met (own := RX8) (lv0 := [(0, .ref (eA E c)), (1, .int (i2 x1)), (2, .int (i2 x2))]) (by decide) rfl (Nat.le_of_ble_eq_true rfl) rfl (fun p e s m args below meth c0 B hr hk => ?_)
  unfold V_Th_rename at v
  refine r_iconst B dX8_rename_0 ?_
  refine r_istore_n B dX8_rename_1 rfl (by decide) (lv' := [(3, .int (i2 0)), (0, .ref (eA E c)), (1, .int (i2 x1)), (2, .int (i2 x2))]) rfl ?_
  refine r_sub [1, 2, 3, 0] rfl ?_
  refine r_iconst B dX8_rename_2 ?_
  refine r_istore B dX8_rename_3 (by decide) (lv' := [(4, .int (i2 0)), (0, .ref (eA E c)), (1, .int (i2 x1)), (2, .int (i2 x2)), (3, .int (i2 0))]) rfl ?_
  refine r_sub [1, 2, 3, 4, 0] rfl ?_
  obtain ⟨f27, v⟩ := v
  refine r_sub [0, 1, 2, 3, 4] rfl ?_
  exact wL_Th_rename_5 B hr hk hc h1 h2 f27 0 0 I hI ((rg_lit (by decide) (by decide))) ((rg_lit (by decide) (by decide))) v
set_option maxHeartbeats 4000000 in
set_option maxRecDepth 100000 in
theorem c_X_merge {l : Launch} {E : En} {A : Nat → Prop} (x1 : Int) (x2 : Int) (I : Mm)  (hI : rgM I) (h1 : r32 x1) (h2 : r32 x2) : CI l E A yX10_merge cX10_merge 3 .int 4 123 [.ref (eA E 0), .int (i2 x1), .int (i2 x2)] I (V_X_merge x1 x2 I) := by
  intro Q v
  refine mk_met (own := RX10) (lv0 := [(0, .ref (eA E 0)), (1, .int (i2 x1)), (2, .int (i2 x2))]) (by decide) rfl (Nat.le_of_ble_eq_true rfl) rfl (fun p e s m args below meth c0 B hr hk => ?_)
  unfold V_X_merge at v
  refine r_aload_n B dX10_merge_0 rfl rfl ?_
  refine r_getR B (C := RX10) (T := TX10) (N := 11) o_0 0 rfl win_X10 (by decide) rfl wf_X10_10 dX10_merge_1 ?_
  refine r_getR B (C := RX0) (T := TX0) (N := 9) (ca_1.1) 0 rfl win_X0 (by decide) rfl wf_X10_101 dX10_merge_4 ?_
  refine r_iload_n B dX10_merge_7 rfl rfl ?_
  refine r_cI B (st := []) (as := [.int (i2 x1)]) (T := TX3) (N := 4) (c_Nm_has (1 + 1) x1 _ (ca_1.2.1) hI h1) v (ca_1.2.1.1) rfl mw_Nm_has wl_X10_118 ⟨Nat.le_of_ble_eq_true rfl, Nat.le_of_ble_eq_true rfl⟩ rfl rfl (Nat.le_of_ble_eq_true rfl) dX10_merge_8 (fun z21 I22 hz21 hI22 v => ?_)
  refine r_if_eq B (tgt := 33) dX10_merge_11 (by decide) hz21 (fun h => ?_) (fun h => ?_)
  · have v := v.1 h
    refine r_iconst B dX10_merge_33 ?_
    exact r_iret B hr hk rfl ((rg_lit (by decide) (by decide))) hI22 v dX10_merge_34
  · have v := v.2 h
    refine r_aload_n B dX10_merge_14 rfl rfl ?_
    refine r_getR B (C := RX10) (T := TX10) (N := 11) o_0 0 rfl win_X10 (by decide) rfl wf_X10_10 dX10_merge_15 ?_
    refine r_getR B (C := RX0) (T := TX0) (N := 9) (ca_1.1) 0 rfl win_X0 (by decide) rfl wf_X10_101 dX10_merge_18 ?_
    refine r_iload_n B dX10_merge_21 rfl rfl ?_
    refine r_cI B (st := []) (as := [.int (i2 x2)]) (T := TX3) (N := 4) (c_Nm_has (1 + 1) x2 _ (ca_1.2.1) hI22 h2) v (ca_1.2.1.1) rfl mw_Nm_has wl_X10_118 ⟨Nat.le_of_ble_eq_true rfl, Nat.le_of_ble_eq_true rfl⟩ rfl rfl (Nat.le_of_ble_eq_true rfl) dX10_merge_22 (fun z23 I24 hz23 hI24 v => ?_)
    refine r_if_eq B (tgt := 33) dX10_merge_25 (by decide) hz23 (fun h => ?_) (fun h => ?_)
    · have v := v.1 h
      refine r_iconst B dX10_merge_33 ?_
      exact r_iret B hr hk rfl ((rg_lit (by decide) (by decide))) hI24 v dX10_merge_34
    · have v := v.2 h
      refine r_iload_n B dX10_merge_28 rfl rfl ?_
      refine r_iload_n B dX10_merge_29 rfl rfl ?_
      refine r_icmp_ne B (tgt := 35) dX10_merge_30 (by decide) h1 h2 (fun h => ?_) (fun h => ?_)
      · have v := v.1 h
        refine r_aload_n B dX10_merge_35 rfl rfl ?_
        refine r_getR B (C := RX10) (T := TX10) (N := 11) o_0 0 rfl win_X10 (by decide) rfl wf_X10_10 dX10_merge_36 ?_
        refine r_getR B (C := RX0) (T := TX0) (N := 9) (ca_1.1) 1 rfl win_X0 (by decide) rfl wf_X10_89 dX10_merge_39 ?_
        refine r_iload_n B dX10_merge_42 rfl rfl ?_
        refine r_cI B (st := []) (as := [.int (i2 x1)]) (T := TX8) (N := 4) (c_Th_countOf (1 + 5) x1 _ (ca_1.2.2.1) hI24 h1) v (ca_1.2.2.1.1) rfl mw_Th_countOf wl_X10_148 ⟨Nat.le_of_ble_eq_true rfl, Nat.le_of_ble_eq_true rfl⟩ rfl rfl (Nat.le_of_ble_eq_true rfl) dX10_merge_43 (fun z25 I26 hz25 hI26 v => ?_)
        refine r_if_ne B (tgt := 52) dX10_merge_46 (by decide) hz25 (fun h => ?_) (fun h => ?_)
        · have v := v.1 h
          refine r_aload_n B dX10_merge_52 rfl rfl ?_
          refine r_getR B (C := RX10) (T := TX10) (N := 11) o_0 6 rfl win_X10 (by decide) rfl wf_X10_52 dX10_merge_53 ?_
          refine r_aload_n B dX10_merge_56 rfl rfl ?_
          refine r_getR B (C := RX10) (T := TX10) (N := 11) o_0 0 rfl win_X10 (by decide) rfl wf_X10_10 dX10_merge_57 ?_
          refine r_cV B (st := []) (as := [.ref (eA E 1)]) (T := TX1) (N := 3) (c_Hi_remember 1 _ ca_1 hI26 ) v o_39 rfl mw_Hi_remember wl_X10_112 ⟨Nat.le_of_ble_eq_true rfl, Nat.le_of_ble_eq_true rfl⟩ rfl rfl (Nat.le_of_ble_eq_true rfl) dX10_merge_60 (fun I27 hI27 v => ?_)
          refine r_aload_n B dX10_merge_63 rfl rfl ?_
          refine r_getR B (C := RX10) (T := TX10) (N := 11) o_0 0 rfl win_X10 (by decide) rfl wf_X10_10 dX10_merge_64 ?_
          refine r_getR B (C := RX0) (T := TX0) (N := 9) (ca_1.1) 1 rfl win_X0 (by decide) rfl wf_X10_89 dX10_merge_67 ?_
          refine r_iload_n B dX10_merge_70 rfl rfl ?_
          refine r_iload_n B dX10_merge_71 rfl rfl ?_
          refine r_cI B (st := []) (as := [.int (i2 x1), .int (i2 x2)]) (T := TX8) (N := 4) (c_Th_rename (1 + 5) x1 x2 _ (ca_1.2.2.1) hI27 h1 h2) v (ca_1.2.2.1.1) rfl mw_Th_rename wl_X10_176 ⟨Nat.le_of_ble_eq_true rfl, Nat.le_of_ble_eq_true rfl⟩ rfl rfl (Nat.le_of_ble_eq_true rfl) dX10_merge_72 (fun z28 I29 hz28 hI29 v => ?_)
          exact r_iret B hr hk rfl hz28 hI29 v dX10_merge_75
        · have v := v.2 h
          refine r_bipush B dX10_merge_49 (by decide) ?_
          exact r_iret B hr hk rfl ((rg_lit (by decide) (by decide))) hI26 v dX10_merge_51
      · have v := v.2 h
        refine r_iconst B dX10_merge_33 ?_
        exact r_iret B hr hk rfl ((rg_lit (by decide) (by decide))) hI24 v dX10_merge_34
set_option maxHeartbeats 4000000 in
set_option maxRecDepth 100000 in
theorem c_Th_firstFrom {l : Launch} {E : En} {A : Nat → Prop} (c : Int) (x1 : Int) (I : Mm) (hc : isTh c) (hI : rgM I) (h1 : r32 x1) : CI l E A yX8_firstFrom cX8_firstFrom 2 .int 1 27 [.ref (eA E c), .int (i2 x1)] I (V_Th_firstFrom c x1 I) := by
  intro Q v
  refine mk_met (own := RX8) (lv0 := [(0, .ref (eA E c)), (1, .int (i2 x1))]) (by decide) rfl (Nat.le_of_ble_eq_true rfl) rfl (fun p e s m args below meth c0 B hr hk => ?_)
  unfold V_Th_firstFrom at v
  refine r_aload_n B dX8_firstFrom_0 rfl rfl ?_
  refine r_iconst B dX8_firstFrom_1 ?_
  refine r_iload_n B dX8_firstFrom_2 rfl rfl ?_
  refine r_cI B (st := []) (as := [.int (i2 (-1)), .int (i2 x1)]) (T := TX8) (N := 4) (c_Th_placeFor c (-1) x1 _ hc hI ((rg_lit (by decide) (by decide))) h1) v (hc.1) rfl mw_Th_placeFor wl_X8_25 ⟨Nat.le_of_ble_eq_true rfl, Nat.le_of_ble_eq_true rfl⟩ rfl rfl (Nat.le_of_ble_eq_true rfl) dX8_firstFrom_3 (fun z21 I22 hz21 hI22 v => ?_)
  exact r_iret B hr hk rfl hz21 hI22 v dX8_firstFrom_6
set_option maxHeartbeats 4000000 in
set_option maxRecDepth 100000 in
theorem wL_X_cut_55 {p : Program} {l : Launch} {e : Env} {s : State} {m : MethodId} {args : Array Value} {below : List Frame} {meth : Method} {c0 : Code} {E : En} {A : Nat → Prop} {x1 : Int} {x2 : Int} {x3 : Int} {Q : Int → Mm → Prop}  (B : Bd p (rmm 4 129) s m args c0 cX10_cut 5 RX10 E A 0 0) (hr : meth.sig.returnType = some .int) (hk : meth.locks = false) (h1 : r32 x1) (h2 : r32 x2) (h3 : r32 x3)  : ∀ (n : Nat) (x4 : Int) (I : Mm), rgM I → r32 x4 → L_X_cut_55 x1 x2 x3 Q n x4 I → WI p l e (rmm 4 129) s m args below meth c0 E A 5 0 0 (qI below E A args s Q) I 55 [(0, .ref (eA E 0)), (2, .int (i2 x2)), (3, .int (i2 x3)), (4, .int (i2 x4))] [] := by
  intro n
  induction n with
  | zero => intro x4 I _ _ v; exact absurd v id
  | succ n ih =>
    intro x4 I hI h4 v
    unfold L_X_cut_55 at v
    refine r_iload B dX10_cut_55 rfl ?_
    refine r_iload_n B dX10_cut_57 rfl rfl ?_
    refine r_icmp_ge B (tgt := 75) dX10_cut_58 (by decide) h4 h3 (fun h => ?_) (fun h => ?_)
    · have v := v.1 h
      refine r_iload_n B dX10_cut_75 rfl rfl ?_
      exact r_iret B hr hk rfl h3 hI v dX10_cut_76
    · have v := v.2 h
      refine r_aload_n B dX10_cut_61 rfl rfl ?_
      refine r_getR B (C := RX10) (T := TX10) (N := 11) o_0 0 rfl win_X10 (by decide) rfl wf_X10_10 dX10_cut_62 ?_
      refine r_iload_n B dX10_cut_65 rfl rfl ?_
      refine r_cV B (st := []) (as := [.int (i2 x2)]) (T := TX0) (N := 9) (c_Ca_cancelAt 1 x2 _ ca_1 hI h2) v (ca_1.1) rfl mw_Ca_cancelAt wl_X10_145 ⟨Nat.le_of_ble_eq_true rfl, Nat.le_of_ble_eq_true rfl⟩ rfl rfl (Nat.le_of_ble_eq_true rfl) dX10_cut_66 (fun I27 hI27 v => ?_)
      refine r_iinc B (q := 3) dX10_cut_69 (by decide) rfl (lv' := [(4, .int (i2 (x4 + 1))), (0, .ref (eA E 0)), (2, .int (i2 x2)), (3, .int (i2 x3))]) rfl ?_
      refine r_sub [1, 2, 3, 0] rfl ?_
      refine r_goto B (tgt := 55) dX10_cut_72 (by decide) ?_
      obtain ⟨h28, v⟩ := v
      refine r_sub [0, 1, 2, 3] rfl ?_
      exact ih (x4 + 1) _ hI27 h28 v
set_option maxHeartbeats 4000000 in
set_option maxRecDepth 100000 in
theorem c_X_cut {l : Launch} {E : En} {A : Nat → Prop} (x1 : Int) (I : Mm)  (hI : rgM I) (h1 : r32 x1) : CI l E A yX10_cut cX10_cut 5 .int 4 129 [.ref (eA E 0), .int (i2 x1)] I (V_X_cut x1 I) := by
  intro Q v
  refine mk_met (own := RX10) (lv0 := [(0, .ref (eA E 0)), (1, .int (i2 x1))]) (by decide) rfl (Nat.le_of_ble_eq_true rfl) rfl (fun p e s m args below meth c0 B hr hk => ?_)
  unfold V_X_cut at v
  refine r_iload_n B dX10_cut_0 rfl rfl ?_
  refine r_sI B (st := []) (as := [.int (i2 x1)]) (c_X_isHour x1 _ hI h1) v mw_X_isHour wl_X10_122 ⟨Nat.le_of_ble_eq_true rfl, Nat.le_of_ble_eq_true rfl⟩ rfl rfl (Nat.le_of_ble_eq_true rfl) dX10_cut_1 (fun z21 I22 hz21 hI22 v => ?_)
  refine r_if_ne B (tgt := 9) dX10_cut_4 (by decide) hz21 (fun h => ?_) (fun h => ?_)
  · have v := v.1 h
    refine r_aload_n B dX10_cut_9 rfl rfl ?_
    refine r_getR B (C := RX10) (T := TX10) (N := 11) o_0 0 rfl win_X10 (by decide) rfl wf_X10_10 dX10_cut_10 ?_
    refine r_getR B (C := RX0) (T := TX0) (N := 9) (ca_1.1) 1 rfl win_X0 (by decide) rfl wf_X10_89 dX10_cut_13 ?_
    refine r_iload_n B dX10_cut_16 rfl rfl ?_
    refine r_cI B (st := []) (as := [.int (i2 x1)]) (T := TX8) (N := 4) (c_Th_firstFrom (1 + 5) x1 _ (ca_1.2.2.1) hI22 h1) v (ca_1.2.2.1.1) rfl mw_Th_firstFrom wl_X10_179 ⟨Nat.le_of_ble_eq_true rfl, Nat.le_of_ble_eq_true rfl⟩ rfl rfl (Nat.le_of_ble_eq_true rfl) dX10_cut_17 (fun z23 I24 hz23 hI24 v => ?_)
    refine r_istore_n B dX10_cut_20 rfl (by decide) (lv' := [(2, .int (i2 z23)), (0, .ref (eA E 0)), (1, .int (i2 x1))]) rfl ?_
    refine r_sub [1, 2, 0] rfl ?_
    refine r_aload_n B dX10_cut_21 rfl rfl ?_
    refine r_getR B (C := RX10) (T := TX10) (N := 11) o_0 0 rfl win_X10 (by decide) rfl wf_X10_10 dX10_cut_22 ?_
    refine r_getR B (C := RX0) (T := TX0) (N := 9) (ca_1.1) 1 rfl win_X0 (by decide) rfl wf_X10_89 dX10_cut_25 ?_
    refine r_getI B (C := RX8) (T := TX8) (N := 4) (ca_1.2.2.1.1) 0 rfl win_X8 (by decide) rfl wf_X10_93 dX10_cut_28 (jj := 0) rfl ?_
    refine r_iload_n B dX10_cut_31 rfl rfl ?_
    refine r_isub B dX10_cut_32 ?_
    refine r_istore_n B dX10_cut_33 rfl (by decide) (lv' := [(3, .int (i2 (I24 (1 + 5) 0 - z23))), (0, .ref (eA E 0)), (1, .int (i2 x1)), (2, .int (i2 z23))]) rfl ?_
    refine r_sub [1, 2, 3, 0] rfl ?_
    refine r_iload_n B dX10_cut_34 rfl rfl ?_
    obtain ⟨h25, v⟩ := v
    refine r_if_ne B (tgt := 41) dX10_cut_35 (by decide) h25 (fun h => ?_) (fun h => ?_)
    · have v := v.1 h
      refine r_aload_n B dX10_cut_41 rfl rfl ?_
      refine r_getR B (C := RX10) (T := TX10) (N := 11) o_0 6 rfl win_X10 (by decide) rfl wf_X10_52 dX10_cut_42 ?_
      refine r_aload_n B dX10_cut_45 rfl rfl ?_
      refine r_getR B (C := RX10) (T := TX10) (N := 11) o_0 0 rfl win_X10 (by decide) rfl wf_X10_10 dX10_cut_46 ?_
      refine r_cV B (st := []) (as := [.ref (eA E 1)]) (T := TX1) (N := 3) (c_Hi_remember 1 _ ca_1 hI24 ) v o_39 rfl mw_Hi_remember wl_X10_112 ⟨Nat.le_of_ble_eq_true rfl, Nat.le_of_ble_eq_true rfl⟩ rfl rfl (Nat.le_of_ble_eq_true rfl) dX10_cut_49 (fun I26 hI26 v => ?_)
      refine r_iconst B dX10_cut_52 ?_
      refine r_istore B dX10_cut_53 (by decide) (lv' := [(4, .int (i2 0)), (0, .ref (eA E 0)), (1, .int (i2 x1)), (2, .int (i2 z23)), (3, .int (i2 (I24 (1 + 5) 0 - z23)))]) rfl ?_
      refine r_sub [1, 2, 3, 4, 0] rfl ?_
      obtain ⟨f29, v⟩ := v
      refine r_sub [0, 2, 3, 4] rfl ?_
      exact wL_X_cut_55 B hr hk h1 hz23 h25 f29 0 I26 hI26 ((rg_lit (by decide) (by decide))) v
    · have v := v.2 h
      refine r_bipush B dX10_cut_38 (by decide) ?_
      exact r_iret B hr hk rfl ((rg_lit (by decide) (by decide))) hI24 v dX10_cut_40
  · have v := v.2 h
    refine r_iconst B dX10_cut_7 ?_
    exact r_iret B hr hk rfl ((rg_lit (by decide) (by decide))) hI22 v dX10_cut_8
set_option maxHeartbeats 4000000 in
set_option maxRecDepth 100000 in
theorem c_X_swap {l : Launch} {E : En} {A : Nat → Prop} (x1 : Int) (x2 : Int) (I : Mm)  (hI : rgM I) (h1 : r32 x1) (h2 : r32 x2) : CI l E A yX10_swap cX10_swap 10 .int 4 123 [.ref (eA E 0), .int (i2 x1), .int (i2 x2)] I (V_X_swap x1 x2 I) := by
  intro Q v
  refine mk_met (own := RX10) (lv0 := [(0, .ref (eA E 0)), (1, .int (i2 x1)), (2, .int (i2 x2))]) (by decide) rfl (Nat.le_of_ble_eq_true rfl) rfl (fun p e s m args below meth c0 B hr hk => ?_)
  unfold V_X_swap at v
  refine r_aload_n B dX10_swap_0 rfl rfl ?_
  refine r_getR B (C := RX10) (T := TX10) (N := 11) o_0 0 rfl win_X10 (by decide) rfl wf_X10_10 dX10_swap_1 ?_
  refine r_getR B (C := RX0) (T := TX0) (N := 9) (ca_1.1) 1 rfl win_X0 (by decide) rfl wf_X10_89 dX10_swap_4 ?_
  refine r_astore_n B dX10_swap_7 rfl (by decide) (lv' := [(3, .ref (eA E (1 + 5))), (0, .ref (eA E 0)), (1, .int (i2 x1)), (2, .int (i2 x2))]) rfl ?_
  refine r_sub [1, 2, 3, 0] rfl ?_
  refine r_aload_n B dX10_swap_8 rfl rfl ?_
  refine r_iload_n B dX10_swap_9 rfl rfl ?_
  refine r_cI B (st := []) (as := [.int (i2 x1)]) (T := TX8) (N := 4) (c_Th_placeOf (1 + 5) x1 _ (ca_1.2.2.1) hI h1) v (ca_1.2.2.1.1) rfl mw_Th_placeOf wl_X10_142 ⟨Nat.le_of_ble_eq_true rfl, Nat.le_of_ble_eq_true rfl⟩ rfl rfl (Nat.le_of_ble_eq_true rfl) dX10_swap_10 (fun z21 I22 hz21 hI22 v => ?_)
  refine r_istore B dX10_swap_13 (by decide) (lv' := [(4, .int (i2 z21)), (0, .ref (eA E 0)), (1, .int (i2 x1)), (2, .int (i2 x2)), (3, .ref (eA E (1 + 5)))]) rfl ?_
  refine r_sub [1, 2, 3, 4, 0] rfl ?_
  refine r_aload_n B dX10_swap_15 rfl rfl ?_
  refine r_iload_n B dX10_swap_16 rfl rfl ?_
  refine r_cI B (st := []) (as := [.int (i2 x2)]) (T := TX8) (N := 4) (c_Th_placeOf (1 + 5) x2 _ (ca_1.2.2.1) hI22 h2) v (ca_1.2.2.1.1) rfl mw_Th_placeOf wl_X10_142 ⟨Nat.le_of_ble_eq_true rfl, Nat.le_of_ble_eq_true rfl⟩ rfl rfl (Nat.le_of_ble_eq_true rfl) dX10_swap_17 (fun z23 I24 hz23 hI24 v => ?_)
  refine r_istore B dX10_swap_20 (by decide) (lv' := [(5, .int (i2 z23)), (0, .ref (eA E 0)), (1, .int (i2 x1)), (2, .int (i2 x2)), (3, .ref (eA E (1 + 5))), (4, .int (i2 z21))]) rfl ?_
  refine r_sub [1, 2, 3, 4, 5, 0] rfl ?_
  refine r_iload B dX10_swap_22 rfl ?_
  refine r_iconst B dX10_swap_24 ?_
  refine r_icmp_eq B (tgt := 41) dX10_swap_25 (by decide) hz21 ((rg_lit (by decide) (by decide))) (fun h => ?_) (fun h => ?_)
  · have v := v.1 h
    refine r_iconst B dX10_swap_41 ?_
    exact r_iret B hr hk rfl ((rg_lit (by decide) (by decide))) hI24 v dX10_swap_42
  · have v := v.2 h
    refine r_iload B dX10_swap_28 rfl ?_
    refine r_iconst B dX10_swap_30 ?_
    refine r_icmp_eq B (tgt := 41) dX10_swap_31 (by decide) hz23 ((rg_lit (by decide) (by decide))) (fun h => ?_) (fun h => ?_)
    · have v := v.1 h
      refine r_iconst B dX10_swap_41 ?_
      exact r_iret B hr hk rfl ((rg_lit (by decide) (by decide))) hI24 v dX10_swap_42
    · have v := v.2 h
      refine r_iload B dX10_swap_34 rfl ?_
      refine r_iload B dX10_swap_36 rfl ?_
      refine r_icmp_ne B (tgt := 43) dX10_swap_38 (by decide) hz21 hz23 (fun h => ?_) (fun h => ?_)
      · have v := v.1 h
        refine r_aload_n B dX10_swap_43 rfl rfl ?_
        refine r_getR B (C := RX8) (T := TX8) (N := 4) (ca_1.2.2.1.1) 3 rfl win_X8 (by decide) rfl wf_X10_154 dX10_swap_44 ?_
        refine r_iload B dX10_swap_47 rfl ?_
        obtain ⟨h25, v⟩ := v
        refine r_ald B (ca_1.2.2.1.2.2.2) (by decide) h25 dX10_swap_49 ?_
        refine r_istore B dX10_swap_50 (by decide) (lv' := [(6, .int (i2 (I24 (1 + 5 + 3) z21))), (0, .ref (eA E 0)), (1, .int (i2 x1)), (2, .int (i2 x2)), (3, .ref (eA E (1 + 5))), (4, .int (i2 z21)), (5, .int (i2 z23))]) rfl ?_
        refine r_sub [1, 2, 3, 4, 5, 6, 0] rfl ?_
        refine r_aload_n B dX10_swap_52 rfl rfl ?_
        refine r_getR B (C := RX8) (T := TX8) (N := 4) (ca_1.2.2.1.1) 3 rfl win_X8 (by decide) rfl wf_X10_154 dX10_swap_53 ?_
        refine r_iload B dX10_swap_56 rfl ?_
        obtain ⟨h26, v⟩ := v
        refine r_ald B (ca_1.2.2.1.2.2.2) (by decide) h26 dX10_swap_58 ?_
        refine r_istore B dX10_swap_59 (by decide) (lv' := [(7, .int (i2 (I24 (1 + 5 + 3) z23))), (0, .ref (eA E 0)), (1, .int (i2 x1)), (2, .int (i2 x2)), (3, .ref (eA E (1 + 5))), (4, .int (i2 z21)), (5, .int (i2 z23)), (6, .int (i2 (I24 (1 + 5 + 3) z21)))]) rfl ?_
        refine r_sub [1, 2, 3, 4, 5, 6, 7, 0] rfl ?_
        refine r_iload B dX10_swap_61 rfl ?_
        refine r_iload B dX10_swap_63 rfl ?_
        refine r_icmp_ne B (tgt := 71) dX10_swap_65 (by decide) ((hI24 _ _)) ((hI24 _ _)) (fun h => ?_) (fun h => ?_)
        · have v := v.1 h
          refine r_aload_n B dX10_swap_71 rfl rfl ?_
          refine r_getR B (C := RX8) (T := TX8) (N := 4) (ca_1.2.2.1.1) 2 rfl win_X8 (by decide) rfl wf_X10_182 dX10_swap_72 ?_
          refine r_iload B dX10_swap_75 rfl ?_
          obtain ⟨h27, v⟩ := v
          refine r_ald B (ca_1.2.2.1.2.2.1) (by decide) h27 dX10_swap_77 ?_
          refine r_istore B dX10_swap_78 (by decide) (lv' := [(8, .int (i2 (I24 (1 + 5 + 2) z21))), (0, .ref (eA E 0)), (1, .int (i2 x1)), (2, .int (i2 x2)), (3, .ref (eA E (1 + 5))), (4, .int (i2 z21)), (5, .int (i2 z23)), (6, .int (i2 (I24 (1 + 5 + 3) z21))), (7, .int (i2 (I24 (1 + 5 + 3) z23)))]) rfl ?_
          refine r_sub [1, 2, 3, 4, 5, 6, 7, 8, 0] rfl ?_
          refine r_aload_n B dX10_swap_80 rfl rfl ?_
          refine r_getR B (C := RX8) (T := TX8) (N := 4) (ca_1.2.2.1.1) 2 rfl win_X8 (by decide) rfl wf_X10_182 dX10_swap_81 ?_
          refine r_iload B dX10_swap_84 rfl ?_
          obtain ⟨h28, v⟩ := v
          refine r_ald B (ca_1.2.2.1.2.2.1) (by decide) h28 dX10_swap_86 ?_
          refine r_istore B dX10_swap_87 (by decide) (lv' := [(9, .int (i2 (I24 (1 + 5 + 2) z23))), (0, .ref (eA E 0)), (1, .int (i2 x1)), (2, .int (i2 x2)), (3, .ref (eA E (1 + 5))), (4, .int (i2 z21)), (5, .int (i2 z23)), (6, .int (i2 (I24 (1 + 5 + 3) z21))), (7, .int (i2 (I24 (1 + 5 + 3) z23))), (8, .int (i2 (I24 (1 + 5 + 2) z21)))]) rfl ?_
          refine r_sub [1, 2, 3, 4, 5, 6, 7, 8, 9, 0] rfl ?_
          refine r_aload_n B dX10_swap_89 rfl rfl ?_
          refine r_getR B (C := RX10) (T := TX10) (N := 11) o_0 6 rfl win_X10 (by decide) rfl wf_X10_52 dX10_swap_90 ?_
          refine r_aload_n B dX10_swap_93 rfl rfl ?_
          refine r_getR B (C := RX10) (T := TX10) (N := 11) o_0 0 rfl win_X10 (by decide) rfl wf_X10_10 dX10_swap_94 ?_
          refine r_cV B (st := []) (as := [.ref (eA E 1)]) (T := TX1) (N := 3) (c_Hi_remember 1 _ ca_1 hI24 ) v o_39 rfl mw_Hi_remember wl_X10_112 ⟨Nat.le_of_ble_eq_true rfl, Nat.le_of_ble_eq_true rfl⟩ rfl rfl (Nat.le_of_ble_eq_true rfl) dX10_swap_97 (fun I29 hI29 v => ?_)
          refine r_aload_n B dX10_swap_100 rfl rfl ?_
          refine r_getR B (C := RX10) (T := TX10) (N := 11) o_0 0 rfl win_X10 (by decide) rfl wf_X10_10 dX10_swap_101 ?_
          refine r_iload B dX10_swap_104 rfl ?_
          refine r_cV B (st := []) (as := [.int (i2 z21)]) (T := TX0) (N := 9) (c_Ca_goes 1 z21 _ ca_1 hI29 hz21) v (ca_1.1) rfl mw_Ca_goes wl_X10_184 ⟨Nat.le_of_ble_eq_true rfl, Nat.le_of_ble_eq_true rfl⟩ rfl rfl (Nat.le_of_ble_eq_true rfl) dX10_swap_106 (fun I30 hI30 v => ?_)
          refine r_aload_n B dX10_swap_109 rfl rfl ?_
          refine r_getR B (C := RX10) (T := TX10) (N := 11) o_0 0 rfl win_X10 (by decide) rfl wf_X10_10 dX10_swap_110 ?_
          refine r_aload_n B dX10_swap_113 rfl rfl ?_
          refine r_iload_n B dX10_swap_114 rfl rfl ?_
          refine r_cI B (st := [.ref (eA E 1)]) (as := [.int (i2 x2)]) (T := TX8) (N := 4) (c_Th_placeOf (1 + 5) x2 _ (ca_1.2.2.1) hI30 h2) v (ca_1.2.2.1.1) rfl mw_Th_placeOf wl_X10_142 ⟨Nat.le_of_ble_eq_true rfl, Nat.le_of_ble_eq_true rfl⟩ rfl rfl (Nat.le_of_ble_eq_true rfl) dX10_swap_115 (fun z31 I32 hz31 hI32 v => ?_)
          refine r_cV B (st := []) (as := [.int (i2 z31)]) (T := TX0) (N := 9) (c_Ca_goes 1 z31 _ ca_1 hI32 hz31) v (ca_1.1) rfl mw_Ca_goes wl_X10_184 ⟨Nat.le_of_ble_eq_true rfl, Nat.le_of_ble_eq_true rfl⟩ rfl rfl (Nat.le_of_ble_eq_true rfl) dX10_swap_118 (fun I33 hI33 v => ?_)
          refine r_aload_n B dX10_swap_121 rfl rfl ?_
          refine r_getR B (C := RX10) (T := TX10) (N := 11) o_0 0 rfl win_X10 (by decide) rfl wf_X10_10 dX10_swap_122 ?_
          refine r_iload_n B dX10_swap_125 rfl rfl ?_
          refine r_iload B dX10_swap_126 rfl ?_
          refine r_iload B dX10_swap_128 rfl ?_
          refine r_cV B (st := []) (as := [.int (i2 x1), .int (i2 (I24 (1 + 5 + 2) z21)), .int (i2 (I24 (1 + 5 + 3) z23))]) (T := TX0) (N := 9) (c_Ca_comes 1 x1 (I24 (1 + 5 + 2) z21) (I24 (1 + 5 + 3) z23) _ ca_1 hI33 h1 ((hI24 _ _)) ((hI24 _ _))) v (ca_1.1) rfl mw_Ca_comes wl_X10_187 ⟨Nat.le_of_ble_eq_true rfl, Nat.le_of_ble_eq_true rfl⟩ rfl rfl (Nat.le_of_ble_eq_true rfl) dX10_swap_130 (fun I34 hI34 v => ?_)
          refine r_aload_n B dX10_swap_133 rfl rfl ?_
          refine r_getR B (C := RX10) (T := TX10) (N := 11) o_0 0 rfl win_X10 (by decide) rfl wf_X10_10 dX10_swap_134 ?_
          refine r_iload_n B dX10_swap_137 rfl rfl ?_
          refine r_iload B dX10_swap_138 rfl ?_
          refine r_iload B dX10_swap_140 rfl ?_
          refine r_cV B (st := []) (as := [.int (i2 x2), .int (i2 (I24 (1 + 5 + 2) z23)), .int (i2 (I24 (1 + 5 + 3) z21))]) (T := TX0) (N := 9) (c_Ca_comes 1 x2 (I24 (1 + 5 + 2) z23) (I24 (1 + 5 + 3) z21) _ ca_1 hI34 h2 ((hI24 _ _)) ((hI24 _ _))) v (ca_1.1) rfl mw_Ca_comes wl_X10_187 ⟨Nat.le_of_ble_eq_true rfl, Nat.le_of_ble_eq_true rfl⟩ rfl rfl (Nat.le_of_ble_eq_true rfl) dX10_swap_142 (fun I35 hI35 v => ?_)
          refine r_iconst B dX10_swap_145 ?_
          exact r_iret B hr hk rfl ((rg_lit (by decide) (by decide))) hI35 v dX10_swap_146
        · have v := v.2 h
          refine r_bipush B dX10_swap_68 (by decide) ?_
          exact r_iret B hr hk rfl ((rg_lit (by decide) (by decide))) hI24 v dX10_swap_70
      · have v := v.2 h
        refine r_iconst B dX10_swap_41 ?_
        exact r_iret B hr hk rfl ((rg_lit (by decide) (by decide))) hI24 v dX10_swap_42
set_option maxHeartbeats 4000000 in
set_option maxRecDepth 100000 in
theorem c_X_rule {l : Launch} {E : En} {A : Nat → Prop} (x1 : Int) (x2 : Int) (x3 : Int) (I : Mm)  (hI : rgM I) (h1 : r32 x1) (h2 : r32 x2) (h3 : r32 x3) : CI l E A yX10_rule cX10_rule 4 .int 4 123 [.ref (eA E 0), .int (i2 x1), .int (i2 x2), .int (i2 x3)] I (V_X_rule x1 x2 x3 I) := by
  intro Q v
  refine mk_met (own := RX10) (lv0 := [(0, .ref (eA E 0)), (1, .int (i2 x1)), (2, .int (i2 x2)), (3, .int (i2 x3))]) (by decide) rfl (Nat.le_of_ble_eq_true rfl) rfl (fun p e s m args below meth c0 B hr hk => ?_)
  unfold V_X_rule at v
  refine r_aload_n B dX10_rule_0 rfl rfl ?_
  refine r_getR B (C := RX10) (T := TX10) (N := 11) o_0 0 rfl win_X10 (by decide) rfl wf_X10_10 dX10_rule_1 ?_
  refine r_getR B (C := RX0) (T := TX0) (N := 9) (ca_1.1) 0 rfl win_X0 (by decide) rfl wf_X10_101 dX10_rule_4 ?_
  refine r_iload_n B dX10_rule_7 rfl rfl ?_
  refine r_cI B (st := []) (as := [.int (i2 x1)]) (T := TX3) (N := 4) (c_Nm_has (1 + 1) x1 _ (ca_1.2.1) hI h1) v (ca_1.2.1.1) rfl mw_Nm_has wl_X10_118 ⟨Nat.le_of_ble_eq_true rfl, Nat.le_of_ble_eq_true rfl⟩ rfl rfl (Nat.le_of_ble_eq_true rfl) dX10_rule_8 (fun z21 I22 hz21 hI22 v => ?_)
  refine r_if_eq B (tgt := 35) dX10_rule_11 (by decide) hz21 (fun h => ?_) (fun h => ?_)
  · have v := v.1 h
    refine r_iconst B dX10_rule_35 ?_
    exact r_iret B hr hk rfl ((rg_lit (by decide) (by decide))) hI22 v dX10_rule_36
  · have v := v.2 h
    refine r_aload_n B dX10_rule_14 rfl rfl ?_
    refine r_getR B (C := RX10) (T := TX10) (N := 11) o_0 0 rfl win_X10 (by decide) rfl wf_X10_10 dX10_rule_15 ?_
    refine r_getR B (C := RX0) (T := TX0) (N := 9) (ca_1.1) 0 rfl win_X0 (by decide) rfl wf_X10_101 dX10_rule_18 ?_
    refine r_iload_n B dX10_rule_21 rfl rfl ?_
    refine r_cI B (st := []) (as := [.int (i2 x2)]) (T := TX3) (N := 4) (c_Nm_has (1 + 1) x2 _ (ca_1.2.1) hI22 h2) v (ca_1.2.1.1) rfl mw_Nm_has wl_X10_118 ⟨Nat.le_of_ble_eq_true rfl, Nat.le_of_ble_eq_true rfl⟩ rfl rfl (Nat.le_of_ble_eq_true rfl) dX10_rule_22 (fun z23 I24 hz23 hI24 v => ?_)
    refine r_if_eq B (tgt := 35) dX10_rule_25 (by decide) hz23 (fun h => ?_) (fun h => ?_)
    · have v := v.1 h
      refine r_iconst B dX10_rule_35 ?_
      exact r_iret B hr hk rfl ((rg_lit (by decide) (by decide))) hI24 v dX10_rule_36
    · have v := v.2 h
      refine r_iload_n B dX10_rule_28 rfl rfl ?_
      refine r_sI B (st := []) (as := [.int (i2 x3)]) (c_X_isGap x3 _ hI24 h3) v mw_X_isGap wl_X10_161 ⟨Nat.le_of_ble_eq_true rfl, Nat.le_of_ble_eq_true rfl⟩ rfl rfl (Nat.le_of_ble_eq_true rfl) dX10_rule_29 (fun z25 I26 hz25 hI26 v => ?_)
      refine r_if_ne B (tgt := 37) dX10_rule_32 (by decide) hz25 (fun h => ?_) (fun h => ?_)
      · have v := v.1 h
        refine r_aload_n B dX10_rule_37 rfl rfl ?_
        refine r_getR B (C := RX10) (T := TX10) (N := 11) o_0 0 rfl win_X10 (by decide) rfl wf_X10_10 dX10_rule_38 ?_
        refine r_getR B (C := RX0) (T := TX0) (N := 9) (ca_1.1) 2 rfl win_X0 (by decide) rfl wf_X10_191 dX10_rule_41 ?_
        refine r_getI B (C := RX5) (T := TX5) (N := 4) (ca_1.2.2.2.1.1) 0 rfl win_X5 (by decide) rfl wf_X10_195 dX10_rule_44 (jj := 0) rfl ?_
        refine r_bipush B dX10_rule_47 (by decide) ?_
        refine r_icmp_lt B (tgt := 55) dX10_rule_49 (by decide) ((hI26 _ _)) ((rg_lit (by decide) (by decide))) (fun h => ?_) (fun h => ?_)
        · have v := v.1 h
          refine r_aload_n B dX10_rule_55 rfl rfl ?_
          refine r_getR B (C := RX10) (T := TX10) (N := 11) o_0 6 rfl win_X10 (by decide) rfl wf_X10_52 dX10_rule_56 ?_
          refine r_aload_n B dX10_rule_59 rfl rfl ?_
          refine r_getR B (C := RX10) (T := TX10) (N := 11) o_0 0 rfl win_X10 (by decide) rfl wf_X10_10 dX10_rule_60 ?_
          refine r_cV B (st := []) (as := [.ref (eA E 1)]) (T := TX1) (N := 3) (c_Hi_remember 1 _ ca_1 hI26 ) v o_39 rfl mw_Hi_remember wl_X10_112 ⟨Nat.le_of_ble_eq_true rfl, Nat.le_of_ble_eq_true rfl⟩ rfl rfl (Nat.le_of_ble_eq_true rfl) dX10_rule_63 (fun I27 hI27 v => ?_)
          refine r_aload_n B dX10_rule_66 rfl rfl ?_
          refine r_getR B (C := RX10) (T := TX10) (N := 11) o_0 0 rfl win_X10 (by decide) rfl wf_X10_10 dX10_rule_67 ?_
          refine r_getR B (C := RX0) (T := TX0) (N := 9) (ca_1.1) 2 rfl win_X0 (by decide) rfl wf_X10_191 dX10_rule_70 ?_
          refine r_iload_n B dX10_rule_73 rfl rfl ?_
          refine r_iload_n B dX10_rule_74 rfl rfl ?_
          refine r_iload_n B dX10_rule_75 rfl rfl ?_
          refine r_cI B (st := []) (as := [.int (i2 x1), .int (i2 x2), .int (i2 x3)]) (T := TX5) (N := 4) (c_Ru_add (1 + 9) x1 x2 x3 _ (ca_1.2.2.2.1) hI27 h1 h2 h3) v (ca_1.2.2.2.1.1) rfl mw_Ru_add wl_X10_198 ⟨Nat.le_of_ble_eq_true rfl, Nat.le_of_ble_eq_true rfl⟩ rfl rfl (Nat.le_of_ble_eq_true rfl) dX10_rule_76 (fun z28 I29 hz28 hI29 v => ?_)
          exact r_iret B hr hk rfl hz28 hI29 v dX10_rule_79
        · have v := v.2 h
          refine r_bipush B dX10_rule_52 (by decide) ?_
          exact r_iret B hr hk rfl ((rg_lit (by decide) (by decide))) hI26 v dX10_rule_54
      · have v := v.2 h
        refine r_iconst B dX10_rule_35 ?_
        exact r_iret B hr hk rfl ((rg_lit (by decide) (by decide))) hI26 v dX10_rule_36
set_option maxHeartbeats 4000000 in
set_option maxRecDepth 100000 in
theorem c_Ru_has {l : Launch} {E : En} {A : Nat → Prop} (c : Int) (x1 : Int) (I : Mm) (hc : isRu c) (hI : rgM I) (h1 : r32 x1) : CI l E A yX5_has cX5_has 2 .boolean 0 0 [.ref (eA E c), .int (i2 x1)] I (V_Ru_has c x1 I) := by
  intro Q v
  refine mk_met (own := RX5) (lv0 := [(0, .ref (eA E c)), (1, .int (i2 x1))]) (by decide) rfl (Nat.le_of_ble_eq_true rfl) rfl (fun p e s m args below meth c0 B hr hk => ?_)
  unfold V_Ru_has at v
  refine r_iload_n B dX5_has_0 rfl rfl ?_
  refine r_if_lt B (tgt := 16) dX5_has_1 (by decide) h1 (fun h => ?_) (fun h => ?_)
  · have v := v.1 h
    refine r_iconst B dX5_has_16 ?_
    exact r_iret B hr hk rfl ((rg_lit (by decide) (by decide))) hI v dX5_has_17
  · have v := v.2 h
    refine r_iload_n B dX5_has_4 rfl rfl ?_
    refine r_aload_n B dX5_has_5 rfl rfl ?_
    refine r_getI B (C := RX5) (T := TX5) (N := 4) (hc.1) 0 rfl win_X5 (by decide) rfl wf_X5_21 dX5_has_6 (jj := 0) rfl ?_
    refine r_icmp_ge B (tgt := 16) dX5_has_9 (by decide) h1 ((hI _ _)) (fun h => ?_) (fun h => ?_)
    · have v := v.1 h
      refine r_iconst B dX5_has_16 ?_
      exact r_iret B hr hk rfl ((rg_lit (by decide) (by decide))) hI v dX5_has_17
    · have v := v.2 h
      refine r_iconst B dX5_has_12 ?_
      refine r_goto B (tgt := 17) dX5_has_13 (by decide) ?_
      exact r_iret B hr hk rfl ((rg_lit (by decide) (by decide))) hI v dX5_has_17
set_option maxHeartbeats 4000000 in
set_option maxRecDepth 100000 in
theorem wL_Ru_removeAt_21 {p : Program} {l : Launch} {e : Env} {s : State} {m : MethodId} {args : Array Value} {below : List Frame} {meth : Method} {c0 : Code} {E : En} {A : Nat → Prop} {c : Int} {x1 : Int} {Q : Mm → Prop}  (B : Bd p (rmm 1 21) s m args c0 cX5_removeAt 3 RX5 E A 0 0) (hr : meth.sig.returnType = none) (hk : meth.locks = false) (hc : isRu c) (h1 : r32 x1)   : ∀ (n : Nat) (x2 : Int) (I : Mm), rgM I → r32 x2 → L_Ru_removeAt_21 c x1 Q n x2 I → WI p l e (rmm 1 21) s m args below meth c0 E A 3 0 0 (qV below E A args s Q) I 21 [(0, .ref (eA E c)), (2, .int (i2 x2))] [] := by
  intro n
  induction n with
  | zero => intro x2 I _ _ v; exact absurd v id
  | succ n ih =>
    intro x2 I hI h2 v
    unfold L_Ru_removeAt_21 at v
    refine r_iload_n B dX5_removeAt_21 rfl rfl ?_
    refine r_aload_n B dX5_removeAt_22 rfl rfl ?_
    refine r_getI B (C := RX5) (T := TX5) (N := 4) (hc.1) 0 rfl win_X5 (by decide) rfl wf_X5_21 dX5_removeAt_23 (jj := 0) rfl ?_
    refine r_icmp_ge B (tgt := 77) dX5_removeAt_26 (by decide) h2 ((hI _ _)) (fun h => ?_) (fun h => ?_)
    · have v := v.1 h
      exact r_vret B hr hk hI v dX5_removeAt_77
    · have v := v.2 h
      refine r_aload_n B dX5_removeAt_29 rfl rfl ?_
      refine r_getR B (C := RX5) (T := TX5) (N := 4) (hc.1) 1 rfl win_X5 (by decide) rfl wf_X5_9 dX5_removeAt_30 ?_
      refine r_iload_n B dX5_removeAt_33 rfl rfl ?_
      refine r_aload_n B dX5_removeAt_34 rfl rfl ?_
      refine r_getR B (C := RX5) (T := TX5) (N := 4) (hc.1) 1 rfl win_X5 (by decide) rfl wf_X5_9 dX5_removeAt_35 ?_
      refine r_iload_n B dX5_removeAt_38 rfl rfl ?_
      refine r_iconst B dX5_removeAt_39 ?_
      refine r_iadd B dX5_removeAt_40 ?_
      obtain ⟨h25, v⟩ := v
      refine r_ald B (hc.2.1) (by decide) h25 dX5_removeAt_41 ?_
      obtain ⟨h26, v⟩ := v
      refine r_ast B (hc.2.1) (by decide) h26 dX5_removeAt_42 ?_
      have hI27 : rgM (wrM I (c + 1) x2 (I (c + 1) (x2 + 1))) := rg_wr hI ((hI _ _))
      refine r_aload_n B dX5_removeAt_43 rfl rfl ?_
      refine r_getR B (C := RX5) (T := TX5) (N := 4) (hc.1) 2 rfl win_X5 (by decide) rfl wf_X5_15 dX5_removeAt_44 ?_
      refine r_iload_n B dX5_removeAt_47 rfl rfl ?_
      refine r_aload_n B dX5_removeAt_48 rfl rfl ?_
      refine r_getR B (C := RX5) (T := TX5) (N := 4) (hc.1) 2 rfl win_X5 (by decide) rfl wf_X5_15 dX5_removeAt_49 ?_
      refine r_iload_n B dX5_removeAt_52 rfl rfl ?_
      refine r_iconst B dX5_removeAt_53 ?_
      refine r_iadd B dX5_removeAt_54 ?_
      obtain ⟨h28, v⟩ := v
      refine r_ald B (hc.2.2.1) (by decide) h28 dX5_removeAt_55 ?_
      obtain ⟨h29, v⟩ := v
      refine r_ast B (hc.2.2.1) (by decide) h29 dX5_removeAt_56 ?_
      have hI30 : rgM (wrM ((wrM I (c + 1) x2 (I (c + 1) (x2 + 1)))) (c + 2) x2 ((wrM I (c + 1) x2 (I (c + 1) (x2 + 1))) (c + 2) (x2 + 1))) := rg_wr hI27 ((hI27 _ _))
      refine r_aload_n B dX5_removeAt_57 rfl rfl ?_
      refine r_getR B (C := RX5) (T := TX5) (N := 4) (hc.1) 3 rfl win_X5 (by decide) rfl wf_X5_18 dX5_removeAt_58 ?_
      refine r_iload_n B dX5_removeAt_61 rfl rfl ?_
      refine r_aload_n B dX5_removeAt_62 rfl rfl ?_
      refine r_getR B (C := RX5) (T := TX5) (N := 4) (hc.1) 3 rfl win_X5 (by decide) rfl wf_X5_18 dX5_removeAt_63 ?_
      refine r_iload_n B dX5_removeAt_66 rfl rfl ?_
      refine r_iconst B dX5_removeAt_67 ?_
      refine r_iadd B dX5_removeAt_68 ?_
      obtain ⟨h31, v⟩ := v
      refine r_ald B (hc.2.2.2) (by decide) h31 dX5_removeAt_69 ?_
      obtain ⟨h32, v⟩ := v
      refine r_ast B (hc.2.2.2) (by decide) h32 dX5_removeAt_70 ?_
      have hI33 : rgM (wrM ((wrM ((wrM I (c + 1) x2 (I (c + 1) (x2 + 1)))) (c + 2) x2 ((wrM I (c + 1) x2 (I (c + 1) (x2 + 1))) (c + 2) (x2 + 1)))) (c + 3) x2 ((wrM ((wrM I (c + 1) x2 (I (c + 1) (x2 + 1)))) (c + 2) x2 ((wrM I (c + 1) x2 (I (c + 1) (x2 + 1))) (c + 2) (x2 + 1))) (c + 3) (x2 + 1))) := rg_wr hI30 ((hI30 _ _))
      refine r_iinc B (q := 1) dX5_removeAt_71 (by decide) rfl (lv' := [(2, .int (i2 (x2 + 1))), (0, .ref (eA E c))]) rfl ?_
      refine r_sub [1, 0] rfl ?_
      refine r_goto B (tgt := 21) dX5_removeAt_74 (by decide) ?_
      obtain ⟨h34, v⟩ := v
      refine r_sub [0, 1] rfl ?_
      exact ih (x2 + 1) _ hI33 h34 v
set_option maxHeartbeats 4000000 in
set_option maxRecDepth 100000 in
theorem c_Ru_removeAt {l : Launch} {E : En} {A : Nat → Prop} (c : Int) (x1 : Int) (I : Mm) (hc : isRu c) (hI : rgM I) (h1 : r32 x1) : CV l E A yX5_removeAt cX5_removeAt 3 1 21 [.ref (eA E c), .int (i2 x1)] I (V_Ru_removeAt c x1 I) := by
  intro Q v
  refine mk_met (own := RX5) (lv0 := [(0, .ref (eA E c)), (1, .int (i2 x1))]) (by decide) rfl (Nat.le_of_ble_eq_true rfl) rfl (fun p e s m args below meth c0 B hr hk => ?_)
  unfold V_Ru_removeAt at v
  refine r_aload_n B dX5_removeAt_0 rfl rfl ?_
  refine r_iload_n B dX5_removeAt_1 rfl rfl ?_
  refine r_cI B (st := []) (as := [.int (i2 x1)]) (T := TX5) (N := 4) (c_Ru_has c x1 _ hc hI h1) v (hc.1) rfl mw_Ru_has wl_X5_25 ⟨Nat.le_of_ble_eq_true rfl, Nat.le_of_ble_eq_true rfl⟩ rfl rfl (Nat.le_of_ble_eq_true rfl) dX5_removeAt_2 (fun z21 I22 hz21 hI22 v => ?_)
  refine r_if_ne B (tgt := 9) dX5_removeAt_5 (by decide) hz21 (fun h => ?_) (fun h => ?_)
  · have v := v.1 h
    refine r_aload_n B dX5_removeAt_9 rfl rfl ?_
    refine r_dup B dX5_removeAt_10 rfl ?_
    refine r_getI B (C := RX5) (T := TX5) (N := 4) (hc.1) 0 rfl win_X5 (by decide) rfl wf_X5_21 dX5_removeAt_11 (jj := 0) rfl ?_
    refine r_iconst B dX5_removeAt_14 ?_
    refine r_isub B dX5_removeAt_15 ?_
    obtain ⟨h23, v⟩ := v
    refine r_putI B (C := RX5) (T := TX5) (N := 4) (hc.1) 0 rfl win_X5 tyX5 tyX5_ok nmX5 (by decide) rfl rfl rfl wf_X5_21 dX5_removeAt_16 (jj := 0) rfl ?_
    have hI24 : rgM (wrM I22 c 0 (I22 c 0 - 1)) := rg_wr hI22 h23
    refine r_iload_n B dX5_removeAt_19 rfl rfl ?_
    refine r_istore_n B dX5_removeAt_20 rfl (by decide) (lv' := [(2, .int (i2 x1)), (0, .ref (eA E c)), (1, .int (i2 x1))]) rfl ?_
    refine r_sub [1, 2, 0] rfl ?_
    obtain ⟨f35, v⟩ := v
    refine r_sub [0, 2] rfl ?_
    exact wL_Ru_removeAt_21 B hr hk hc h1 f35 x1 _ hI24 h1 v
  · have v := v.2 h
    exact r_vret B hr hk hI22 v dX5_removeAt_8
set_option maxHeartbeats 4000000 in
set_option maxRecDepth 100000 in
theorem c_X_unrule {l : Launch} {E : En} {A : Nat → Prop} (x1 : Int) (I : Mm)  (hI : rgM I) (h1 : r32 x1) : CI l E A yX10_unrule cX10_unrule 2 .int 4 123 [.ref (eA E 0), .int (i2 x1)] I (V_X_unrule x1 I) := by
  intro Q v
  refine mk_met (own := RX10) (lv0 := [(0, .ref (eA E 0)), (1, .int (i2 x1))]) (by decide) rfl (Nat.le_of_ble_eq_true rfl) rfl (fun p e s m args below meth c0 B hr hk => ?_)
  unfold V_X_unrule at v
  refine r_aload_n B dX10_unrule_0 rfl rfl ?_
  refine r_getR B (C := RX10) (T := TX10) (N := 11) o_0 0 rfl win_X10 (by decide) rfl wf_X10_10 dX10_unrule_1 ?_
  refine r_getR B (C := RX0) (T := TX0) (N := 9) (ca_1.1) 2 rfl win_X0 (by decide) rfl wf_X10_191 dX10_unrule_4 ?_
  refine r_iload_n B dX10_unrule_7 rfl rfl ?_
  refine r_cI B (st := []) (as := [.int (i2 x1)]) (T := TX5) (N := 4) (c_Ru_has (1 + 9) x1 _ (ca_1.2.2.2.1) hI h1) v (ca_1.2.2.2.1.1) rfl mw_Ru_has wl_X10_202 ⟨Nat.le_of_ble_eq_true rfl, Nat.le_of_ble_eq_true rfl⟩ rfl rfl (Nat.le_of_ble_eq_true rfl) dX10_unrule_8 (fun z21 I22 hz21 hI22 v => ?_)
  refine r_if_ne B (tgt := 16) dX10_unrule_11 (by decide) hz21 (fun h => ?_) (fun h => ?_)
  · have v := v.1 h
    refine r_aload_n B dX10_unrule_16 rfl rfl ?_
    refine r_getR B (C := RX10) (T := TX10) (N := 11) o_0 6 rfl win_X10 (by decide) rfl wf_X10_52 dX10_unrule_17 ?_
    refine r_aload_n B dX10_unrule_20 rfl rfl ?_
    refine r_getR B (C := RX10) (T := TX10) (N := 11) o_0 0 rfl win_X10 (by decide) rfl wf_X10_10 dX10_unrule_21 ?_
    refine r_cV B (st := []) (as := [.ref (eA E 1)]) (T := TX1) (N := 3) (c_Hi_remember 1 _ ca_1 hI22 ) v o_39 rfl mw_Hi_remember wl_X10_112 ⟨Nat.le_of_ble_eq_true rfl, Nat.le_of_ble_eq_true rfl⟩ rfl rfl (Nat.le_of_ble_eq_true rfl) dX10_unrule_24 (fun I23 hI23 v => ?_)
    refine r_aload_n B dX10_unrule_27 rfl rfl ?_
    refine r_getR B (C := RX10) (T := TX10) (N := 11) o_0 0 rfl win_X10 (by decide) rfl wf_X10_10 dX10_unrule_28 ?_
    refine r_getR B (C := RX0) (T := TX0) (N := 9) (ca_1.1) 2 rfl win_X0 (by decide) rfl wf_X10_191 dX10_unrule_31 ?_
    refine r_iload_n B dX10_unrule_34 rfl rfl ?_
    refine r_cV B (st := []) (as := [.int (i2 x1)]) (T := TX5) (N := 4) (c_Ru_removeAt (1 + 9) x1 _ (ca_1.2.2.2.1) hI23 h1) v (ca_1.2.2.2.1.1) rfl mw_Ru_removeAt wl_X10_203 ⟨Nat.le_of_ble_eq_true rfl, Nat.le_of_ble_eq_true rfl⟩ rfl rfl (Nat.le_of_ble_eq_true rfl) dX10_unrule_35 (fun I24 hI24 v => ?_)
    refine r_aload_n B dX10_unrule_38 rfl rfl ?_
    refine r_getR B (C := RX10) (T := TX10) (N := 11) o_0 0 rfl win_X10 (by decide) rfl wf_X10_10 dX10_unrule_39 ?_
    refine r_getR B (C := RX0) (T := TX0) (N := 9) (ca_1.1) 2 rfl win_X0 (by decide) rfl wf_X10_191 dX10_unrule_42 ?_
    refine r_getI B (C := RX5) (T := TX5) (N := 4) (ca_1.2.2.2.1.1) 0 rfl win_X5 (by decide) rfl wf_X10_195 dX10_unrule_45 (jj := 0) rfl ?_
    exact r_iret B hr hk rfl ((hI24 _ _)) hI24 v dX10_unrule_48
  · have v := v.2 h
    refine r_iconst B dX10_unrule_14 ?_
    exact r_iret B hr hk rfl ((rg_lit (by decide) (by decide))) hI22 v dX10_unrule_15
set_option maxHeartbeats 4000000 in
set_option maxRecDepth 100000 in
theorem c_X_isWidth {l : Launch} {E : En} {A : Nat → Prop} (x0 : Int) (I : Mm)  (hI : rgM I) (h0 : r32 x0) : CI l E A yX10_isWidth cX10_isWidth 1 .boolean 0 0 [.int (i2 x0)] I (V_X_isWidth x0 I) := by
  intro Q v
  refine mk_met (own := RX10) (lv0 := [(0, .int (i2 x0))]) (by decide) rfl (Nat.le_of_ble_eq_true rfl) rfl (fun p e s m args below meth c0 B hr hk => ?_)
  unfold V_X_isWidth at v
  refine r_iload_n B dX10_isWidth_0 rfl rfl ?_
  refine r_iconst B dX10_isWidth_1 ?_
  refine r_icmp_lt B (tgt := 16) dX10_isWidth_2 (by decide) h0 ((rg_lit (by decide) (by decide))) (fun h => ?_) (fun h => ?_)
  · have v := v.1 h
    refine r_iconst B dX10_isWidth_16 ?_
    exact r_iret B hr hk rfl ((rg_lit (by decide) (by decide))) hI v dX10_isWidth_17
  · have v := v.2 h
    refine r_iload_n B dX10_isWidth_5 rfl rfl ?_
    refine r_ldcw B (99999999) dX10_isWidth_6 wc_X10_371 (by decide) ?_
    refine r_icmp_gt B (tgt := 16) dX10_isWidth_9 (by decide) h0 ((rg_lit (by decide) (by decide))) (fun h => ?_) (fun h => ?_)
    · have v := v.1 h
      refine r_iconst B dX10_isWidth_16 ?_
      exact r_iret B hr hk rfl ((rg_lit (by decide) (by decide))) hI v dX10_isWidth_17
    · have v := v.2 h
      refine r_iconst B dX10_isWidth_12 ?_
      refine r_goto B (tgt := 17) dX10_isWidth_13 (by decide) ?_
      exact r_iret B hr hk rfl ((rg_lit (by decide) (by decide))) hI v dX10_isWidth_17
set_option maxHeartbeats 4000000 in
set_option maxRecDepth 100000 in
theorem wJ_X_resize_43 {p : Program} {l : Launch} {e : Env} {s : State} {m : MethodId} {args : Array Value} {below : List Frame} {meth : Method} {c0 : Code} {E : En} {A : Nat → Prop} {x1 : Int} {x2 : Int} {Q : Int → Mm → Prop}  (B : Bd p (rmm 4 123) s m args c0 cX10_resize 4 RX10 E A 0 0) (hr : meth.sig.returnType = some .int) (hk : meth.locks = false) (h1 : r32 x1) (h2 : r32 x2)   : ∀ (x3 : Int) (I : Mm), rgM I → r32 x3 → J_X_resize_43 x1 x2 Q x3 I → WI p l e (rmm 4 123) s m args below meth c0 E A 4 0 0 (qI below E A args s Q) I 43 [(0, .ref (eA E 0)), (1, .int (i2 x1)), (2, .int (i2 x2)), (3, .int (i2 x3))] [] := by
  intro x3 I hI h3 v
  unfold J_X_resize_43 at v
  refine r_aload_n B dX10_resize_43 rfl rfl ?_
  refine r_getR B (C := RX10) (T := TX10) (N := 11) o_0 6 rfl win_X10 (by decide) rfl wf_X10_52 dX10_resize_44 ?_
  refine r_aload_n B dX10_resize_47 rfl rfl ?_
  refine r_getR B (C := RX10) (T := TX10) (N := 11) o_0 0 rfl win_X10 (by decide) rfl wf_X10_10 dX10_resize_48 ?_
  refine r_cV B (st := []) (as := [.ref (eA E 1)]) (T := TX1) (N := 3) (c_Hi_remember 1 _ ca_1 hI ) v o_39 rfl mw_Hi_remember wl_X10_112 ⟨Nat.le_of_ble_eq_true rfl, Nat.le_of_ble_eq_true rfl⟩ rfl rfl (Nat.le_of_ble_eq_true rfl) dX10_resize_51 (fun I25 hI25 v => ?_)
  refine r_aload_n B dX10_resize_54 rfl rfl ?_
  refine r_getR B (C := RX10) (T := TX10) (N := 11) o_0 0 rfl win_X10 (by decide) rfl wf_X10_10 dX10_resize_55 ?_
  refine r_iload_n B dX10_resize_58 rfl rfl ?_
  refine r_iload_n B dX10_resize_59 rfl rfl ?_
  refine r_cV B (st := []) (as := [.int (i2 x1), .int (i2 x2)]) (T := TX0) (N := 9) (c_Ca_lay 1 x1 x2 _ ca_1 hI25 h1 h2) v (ca_1.1) rfl mw_Ca_lay wl_X10_218 ⟨Nat.le_of_ble_eq_true rfl, Nat.le_of_ble_eq_true rfl⟩ rfl rfl (Nat.le_of_ble_eq_true rfl) dX10_resize_60 (fun I26 hI26 v => ?_)
  refine r_iload_n B dX10_resize_63 rfl rfl ?_
  exact r_iret B hr hk rfl h3 hI26 v dX10_resize_64
set_option maxHeartbeats 4000000 in
set_option maxRecDepth 100000 in
theorem c_X_resize {l : Launch} {E : En} {A : Nat → Prop} (x1 : Int) (x2 : Int) (I : Mm)  (hI : rgM I) (h1 : r32 x1) (h2 : r32 x2) : CI l E A yX10_resize cX10_resize 4 .int 4 123 [.ref (eA E 0), .int (i2 x1), .int (i2 x2)] I (V_X_resize x1 x2 I) := by
  intro Q v
  refine mk_met (own := RX10) (lv0 := [(0, .ref (eA E 0)), (1, .int (i2 x1)), (2, .int (i2 x2))]) (by decide) rfl (Nat.le_of_ble_eq_true rfl) rfl (fun p e s m args below meth c0 B hr hk => ?_)
  unfold V_X_resize at v
  refine r_iload_n B dX10_resize_0 rfl rfl ?_
  refine r_sI B (st := []) (as := [.int (i2 x1)]) (c_X_isRows x1 _ hI h1) v mw_X_isRows wl_X10_206 ⟨Nat.le_of_ble_eq_true rfl, Nat.le_of_ble_eq_true rfl⟩ rfl rfl (Nat.le_of_ble_eq_true rfl) dX10_resize_1 (fun z21 I22 hz21 hI22 v => ?_)
  refine r_if_eq B (tgt := 14) dX10_resize_4 (by decide) hz21 (fun h => ?_) (fun h => ?_)
  · have v := v.1 h
    refine r_iconst B dX10_resize_14 ?_
    exact r_iret B hr hk rfl ((rg_lit (by decide) (by decide))) hI22 v dX10_resize_15
  · have v := v.2 h
    refine r_iload_n B dX10_resize_7 rfl rfl ?_
    refine r_sI B (st := []) (as := [.int (i2 x2)]) (c_X_isWidth x2 _ hI22 h2) v mw_X_isWidth wl_X10_209 ⟨Nat.le_of_ble_eq_true rfl, Nat.le_of_ble_eq_true rfl⟩ rfl rfl (Nat.le_of_ble_eq_true rfl) dX10_resize_8 (fun z23 I24 hz23 hI24 v => ?_)
    refine r_if_ne B (tgt := 16) dX10_resize_11 (by decide) hz23 (fun h => ?_) (fun h => ?_)
    · have v := v.1 h
      refine r_aload_n B dX10_resize_16 rfl rfl ?_
      refine r_getR B (C := RX10) (T := TX10) (N := 11) o_0 0 rfl win_X10 (by decide) rfl wf_X10_10 dX10_resize_17 ?_
      refine r_getI B (C := RX0) (T := TX0) (N := 9) (ca_1.1) 5 rfl win_X0 (by decide) rfl wf_X10_212 dX10_resize_20 (jj := 5) rfl ?_
      refine r_istore_n B dX10_resize_23 rfl (by decide) (lv' := [(3, .int (i2 (I24 1 5))), (0, .ref (eA E 0)), (1, .int (i2 x1)), (2, .int (i2 x2))]) rfl ?_
      refine r_sub [1, 2, 3, 0] rfl ?_
      refine r_iload_n B dX10_resize_24 rfl rfl ?_
      refine r_iload_n B dX10_resize_25 rfl rfl ?_
      refine r_icmp_ne B (tgt := 43) dX10_resize_26 (by decide) h1 ((hI24 _ _)) (fun h => ?_) (fun h => ?_)
      · have v := v.1 h
        refine r_sub [0, 1, 2, 3] rfl ?_
        exact wJ_X_resize_43 B hr hk h1 h2 (I24 1 5) I24 hI24 ((hI24 _ _)) v
      · have v := v.2 h
        refine r_iload_n B dX10_resize_29 rfl rfl ?_
        refine r_aload_n B dX10_resize_30 rfl rfl ?_
        refine r_getR B (C := RX10) (T := TX10) (N := 11) o_0 0 rfl win_X10 (by decide) rfl wf_X10_10 dX10_resize_31 ?_
        refine r_getI B (C := RX0) (T := TX0) (N := 9) (ca_1.1) 6 rfl win_X0 (by decide) rfl wf_X10_215 dX10_resize_34 (jj := 6) rfl ?_
        refine r_icmp_ne B (tgt := 43) dX10_resize_37 (by decide) h2 ((hI24 _ _)) (fun h => ?_) (fun h => ?_)
        · have v := v.1 h
          refine r_sub [0, 1, 2, 3] rfl ?_
          exact wJ_X_resize_43 B hr hk h1 h2 (I24 1 5) I24 hI24 ((hI24 _ _)) v
        · have v := v.2 h
          refine r_bipush B dX10_resize_40 (by decide) ?_
          exact r_iret B hr hk rfl ((rg_lit (by decide) (by decide))) hI24 v dX10_resize_42
    · have v := v.2 h
      refine r_iconst B dX10_resize_14 ?_
      exact r_iret B hr hk rfl ((rg_lit (by decide) (by decide))) hI24 v dX10_resize_15
set_option maxHeartbeats 4000000 in
set_option maxRecDepth 100000 in
theorem c_Hi_bringBack {l : Launch} {E : En} {A : Nat → Prop} (c1 : Int) (I : Mm) (hc1 : isCa c1) (hI : rgM I)  : CV l E A yX1_bringBack cX1_bringBack 2 3 102 [.ref (eA E 39), .ref (eA E c1)] I (V_Hi_bringBack c1 I) := by
  intro Q v
  refine mk_met (own := RX1) (lv0 := [(0, .ref (eA E 39)), (1, .ref (eA E c1))]) (by decide) rfl (Nat.le_of_ble_eq_true rfl) rfl (fun p e s m args below meth c0 B hr hk => ?_)
  unfold V_Hi_bringBack at v
  refine r_aload_n B dX1_bringBack_0 rfl rfl ?_
  refine r_getI B (C := RX1) (T := TX1) (N := 3) o_39 0 rfl win_X1 (by decide) rfl wf_X1_26 dX1_bringBack_1 (jj := 0) rfl ?_
  refine r_iconst B dX1_bringBack_4 ?_
  refine r_icmp_ge B (tgt := 9) dX1_bringBack_5 (by decide) ((hI _ _)) ((rg_lit (by decide) (by decide))) (fun h => ?_) (fun h => ?_)
  · have v := v.1 h
    refine r_aload_n B dX1_bringBack_9 rfl rfl ?_
    refine r_aload_n B dX1_bringBack_10 rfl rfl ?_
    refine r_getI B (C := RX1) (T := TX1) (N := 3) o_39 1 rfl win_X1 (by decide) rfl wf_X1_18 dX1_bringBack_11 (jj := 1) rfl ?_
    refine r_bipush B dX1_bringBack_14 (by decide) ?_
    refine r_iadd B dX1_bringBack_16 ?_
    refine r_iconst B dX1_bringBack_17 ?_
    refine r_isub B dX1_bringBack_18 ?_
    refine r_bipush B dX1_bringBack_19 (by decide) ?_
    obtain ⟨h21, v⟩ := v
    obtain ⟨h22, v⟩ := v
    refine r_irem B dX1_bringBack_21 h21 ((rg_lit (by decide) (by decide))) (show 0 ≤ ((I 39 1 + 10) - 1) ∧ (0 : Int) < 10 from ⟨h22, by decide⟩) ?_
    refine r_putI B (C := RX1) (T := TX1) (N := 3) o_39 1 rfl win_X1 tyX1 tyX1_ok nmX1 (by decide) rfl rfl rfl wf_X1_18 dX1_bringBack_22 (jj := 1) rfl ?_
    have hI23 : rgM (wrM I 39 1 (((I 39 1 + 10) - 1) % 10)) := rg_wr hI ((rg_rem ((rg_lit (by decide) (by decide))) (show 0 ≤ ((I 39 1 + 10) - 1) ∧ (0 : Int) < 10 from ⟨h22, by decide⟩).2))
    refine r_aload_n B dX1_bringBack_25 rfl rfl ?_
    refine r_aload_n B dX1_bringBack_26 rfl rfl ?_
    refine r_getR B (C := RX1) (T := TX1) (N := 3) o_39 2 rfl win_X1 (by decide) rfl wf_X1_11 dX1_bringBack_27 ?_
    refine r_aload_n B dX1_bringBack_30 rfl rfl ?_
    refine r_getI B (C := RX1) (T := TX1) (N := 3) o_39 1 rfl win_X1 (by decide) rfl wf_X1_18 dX1_bringBack_31 (jj := 1) rfl ?_
    obtain ⟨h24, v⟩ := v
    refine r_aald B (b := 41) (n := 10) q_40.1 q_40.2.1 (by decide) q_40.2.2 h24 dX1_bringBack_34 ?_
    refine r_cV B (st := []) (as := [.ref (eA E (41 + 16 * (wrM I 39 1 (((I 39 1 + 10) - 1) % 10)) 39 1))]) (T := TX0) (N := 9) (c_Ca_copyFrom c1 (41 + 16 * (wrM I 39 1 (((I 39 1 + 10) - 1) % 10)) 39 1) _ hc1 ((ca_hist h24)) hI23 ) v (hc1.1) rfl mw_Ca_copyFrom wl_X1_22 ⟨Nat.le_of_ble_eq_true rfl, Nat.le_of_ble_eq_true rfl⟩ rfl rfl (Nat.le_of_ble_eq_true rfl) dX1_bringBack_35 (fun I25 hI25 v => ?_)
    refine r_aload_n B dX1_bringBack_38 rfl rfl ?_
    refine r_dup B dX1_bringBack_39 rfl ?_
    refine r_getI B (C := RX1) (T := TX1) (N := 3) o_39 0 rfl win_X1 (by decide) rfl wf_X1_26 dX1_bringBack_40 (jj := 0) rfl ?_
    refine r_iconst B dX1_bringBack_43 ?_
    refine r_isub B dX1_bringBack_44 ?_
    obtain ⟨h26, v⟩ := v
    refine r_putI B (C := RX1) (T := TX1) (N := 3) o_39 0 rfl win_X1 tyX1 tyX1_ok nmX1 (by decide) rfl rfl rfl wf_X1_26 dX1_bringBack_45 (jj := 0) rfl ?_
    have hI27 : rgM (wrM I25 39 0 (I25 39 0 - 1)) := rg_wr hI25 h26
    exact r_vret B hr hk hI27 v dX1_bringBack_48
  · have v := v.2 h
    exact r_vret B hr hk hI v dX1_bringBack_8
set_option maxHeartbeats 4000000 in
set_option maxRecDepth 100000 in
theorem c_X_undo {l : Launch} {E : En} {A : Nat → Prop}  (I : Mm)  (hI : rgM I)  : CI l E A yX10_undo cX10_undo 1 .int 4 123 [.ref (eA E 0)] I (V_X_undo  I) := by
  intro Q v
  refine mk_met (own := RX10) (lv0 := [(0, .ref (eA E 0))]) (by decide) rfl (Nat.le_of_ble_eq_true rfl) rfl (fun p e s m args below meth c0 B hr hk => ?_)
  unfold V_X_undo at v
  refine r_aload_n B dX10_undo_0 rfl rfl ?_
  refine r_getR B (C := RX10) (T := TX10) (N := 11) o_0 6 rfl win_X10 (by decide) rfl wf_X10_52 dX10_undo_1 ?_
  refine r_getI B (C := RX1) (T := TX1) (N := 3) o_39 0 rfl win_X1 (by decide) rfl wf_X10_221 dX10_undo_4 (jj := 0) rfl ?_
  refine r_iconst B dX10_undo_7 ?_
  refine r_icmp_ge B (tgt := 13) dX10_undo_8 (by decide) ((hI _ _)) ((rg_lit (by decide) (by decide))) (fun h => ?_) (fun h => ?_)
  · have v := v.1 h
    refine r_aload_n B dX10_undo_13 rfl rfl ?_
    refine r_getR B (C := RX10) (T := TX10) (N := 11) o_0 6 rfl win_X10 (by decide) rfl wf_X10_52 dX10_undo_14 ?_
    refine r_aload_n B dX10_undo_17 rfl rfl ?_
    refine r_getR B (C := RX10) (T := TX10) (N := 11) o_0 0 rfl win_X10 (by decide) rfl wf_X10_10 dX10_undo_18 ?_
    refine r_cV B (st := []) (as := [.ref (eA E 1)]) (T := TX1) (N := 3) (c_Hi_bringBack 1 _ ca_1 hI ) v o_39 rfl mw_Hi_bringBack wl_X10_222 ⟨Nat.le_of_ble_eq_true rfl, Nat.le_of_ble_eq_true rfl⟩ rfl rfl (Nat.le_of_ble_eq_true rfl) dX10_undo_21 (fun I21 hI21 v => ?_)
    refine r_aload_n B dX10_undo_24 rfl rfl ?_
    refine r_getR B (C := RX10) (T := TX10) (N := 11) o_0 6 rfl win_X10 (by decide) rfl wf_X10_52 dX10_undo_25 ?_
    refine r_getI B (C := RX1) (T := TX1) (N := 3) o_39 0 rfl win_X1 (by decide) rfl wf_X10_221 dX10_undo_28 (jj := 0) rfl ?_
    exact r_iret B hr hk rfl ((hI21 _ _)) hI21 v dX10_undo_31
  · have v := v.2 h
    refine r_iconst B dX10_undo_11 ?_
    exact r_iret B hr hk rfl ((rg_lit (by decide) (by decide))) hI v dX10_undo_12
set_option maxHeartbeats 4000000 in
set_option maxRecDepth 100000 in
theorem c_X_isShelf {l : Launch} {E : En} {A : Nat → Prop} (x0 : Int) (I : Mm)  (hI : rgM I) (h0 : r32 x0) : CI l E A yX10_isShelf cX10_isShelf 1 .boolean 0 0 [.int (i2 x0)] I (V_X_isShelf x0 I) := by
  intro Q v
  refine mk_met (own := RX10) (lv0 := [(0, .int (i2 x0))]) (by decide) rfl (Nat.le_of_ble_eq_true rfl) rfl (fun p e s m args below meth c0 B hr hk => ?_)
  unfold V_X_isShelf at v
  refine r_iload_n B dX10_isShelf_0 rfl rfl ?_
  refine r_if_lt B (tgt := 13) dX10_isShelf_1 (by decide) h0 (fun h => ?_) (fun h => ?_)
  · have v := v.1 h
    refine r_iconst B dX10_isShelf_13 ?_
    exact r_iret B hr hk rfl ((rg_lit (by decide) (by decide))) hI v dX10_isShelf_14
  · have v := v.2 h
    refine r_iload_n B dX10_isShelf_4 rfl rfl ?_
    refine r_iconst B dX10_isShelf_5 ?_
    refine r_icmp_ge B (tgt := 13) dX10_isShelf_6 (by decide) h0 ((rg_lit (by decide) (by decide))) (fun h => ?_) (fun h => ?_)
    · have v := v.1 h
      refine r_iconst B dX10_isShelf_13 ?_
      exact r_iret B hr hk rfl ((rg_lit (by decide) (by decide))) hI v dX10_isShelf_14
    · have v := v.2 h
      refine r_iconst B dX10_isShelf_9 ?_
      refine r_goto B (tgt := 14) dX10_isShelf_10 (by decide) ?_
      exact r_iret B hr hk rfl ((rg_lit (by decide) (by decide))) hI v dX10_isShelf_14
set_option maxHeartbeats 4000000 in
set_option maxRecDepth 100000 in
theorem c_X_keep {l : Launch} {E : En} {A : Nat → Prop} (x1 : Int) (I : Mm)  (hI : rgM I) (h1 : r32 x1) : CI l E A yX10_keep cX10_keep 2 .int 3 102 [.ref (eA E 0), .int (i2 x1)] I (V_X_keep x1 I) := by
  intro Q v
  refine mk_met (own := RX10) (lv0 := [(0, .ref (eA E 0)), (1, .int (i2 x1))]) (by decide) rfl (Nat.le_of_ble_eq_true rfl) rfl (fun p e s m args below meth c0 B hr hk => ?_)
  unfold V_X_keep at v
  refine r_iload_n B dX10_keep_0 rfl rfl ?_
  refine r_sI B (st := []) (as := [.int (i2 x1)]) (c_X_isShelf x1 _ hI h1) v mw_X_isShelf wl_X10_225 ⟨Nat.le_of_ble_eq_true rfl, Nat.le_of_ble_eq_true rfl⟩ rfl rfl (Nat.le_of_ble_eq_true rfl) dX10_keep_1 (fun z21 I22 hz21 hI22 v => ?_)
  refine r_if_ne B (tgt := 9) dX10_keep_4 (by decide) hz21 (fun h => ?_) (fun h => ?_)
  · have v := v.1 h
    refine r_aload_n B dX10_keep_9 rfl rfl ?_
    refine r_getR B (C := RX10) (T := TX10) (N := 11) o_0 7 rfl win_X10 (by decide) rfl wf_X10_56 dX10_keep_10 ?_
    refine r_iload_n B dX10_keep_13 rfl rfl ?_
    obtain ⟨h23, v⟩ := v
    refine r_aald B (b := 202) (n := 2) q_201.1 q_201.2.1 (by decide) q_201.2.2 h23 dX10_keep_14 ?_
    refine r_aload_n B dX10_keep_15 rfl rfl ?_
    refine r_getR B (C := RX10) (T := TX10) (N := 11) o_0 0 rfl win_X10 (by decide) rfl wf_X10_10 dX10_keep_16 ?_
    refine r_cV B (st := []) (as := [.ref (eA E 1)]) (T := TX0) (N := 9) (c_Ca_copyFrom (202 + 16 * x1) 1 _ ((ca_shel h23)) ca_1 hI22 ) v ((ca_shel h23).1) rfl mw_Ca_copyFrom wl_X10_82 ⟨Nat.le_of_ble_eq_true rfl, Nat.le_of_ble_eq_true rfl⟩ rfl rfl (Nat.le_of_ble_eq_true rfl) dX10_keep_19 (fun I24 hI24 v => ?_)
    refine r_aload_n B dX10_keep_22 rfl rfl ?_
    refine r_dup B dX10_keep_23 rfl ?_
    refine r_getI B (C := RX10) (T := TX10) (N := 11) o_0 10 rfl win_X10 (by decide) rfl wf_X10_67 dX10_keep_24 (jj := 10) rfl ?_
    refine r_iconst B dX10_keep_27 ?_
    refine r_iload_n B dX10_keep_28 rfl rfl ?_
    refine r_ishl B dX10_keep_29 ?_
    refine r_ior B dX10_keep_30 ?_
    refine r_putI B (C := RX10) (T := TX10) (N := 11) o_0 10 rfl win_X10 tyX10 tyX10_ok nmX10 (by decide) rfl rfl rfl wf_X10_67 dX10_keep_31 (jj := 10) rfl ?_
    have hI25 : rgM (wrM I24 0 10 (bOr (I24 0 10) (bShl 1 x1))) := rg_wr hI24 ((rg_or _ _))
    refine r_aload_n B dX10_keep_34 rfl rfl ?_
    refine r_getR B (C := RX10) (T := TX10) (N := 11) o_0 0 rfl win_X10 (by decide) rfl wf_X10_10 dX10_keep_35 ?_
    refine r_getR B (C := RX0) (T := TX0) (N := 9) (ca_1.1) 1 rfl win_X0 (by decide) rfl wf_X10_89 dX10_keep_38 ?_
    refine r_getI B (C := RX8) (T := TX8) (N := 4) (ca_1.2.2.1.1) 0 rfl win_X8 (by decide) rfl wf_X10_93 dX10_keep_41 (jj := 0) rfl ?_
    exact r_iret B hr hk rfl ((hI25 _ _)) hI25 v dX10_keep_44
  · have v := v.2 h
    refine r_iconst B dX10_keep_7 ?_
    exact r_iret B hr hk rfl ((rg_lit (by decide) (by decide))) hI22 v dX10_keep_8
set_option maxHeartbeats 4000000 in
set_option maxRecDepth 100000 in
theorem c_X_isKept {l : Launch} {E : En} {A : Nat → Prop} (x1 : Int) (I : Mm)  (hI : rgM I) (h1 : r32 x1) : CI l E A yX10_isKept cX10_isKept 2 .boolean 0 0 [.ref (eA E 0), .int (i2 x1)] I (V_X_isKept x1 I) := by
  intro Q v
  refine mk_met (own := RX10) (lv0 := [(0, .ref (eA E 0)), (1, .int (i2 x1))]) (by decide) rfl (Nat.le_of_ble_eq_true rfl) rfl (fun p e s m args below meth c0 B hr hk => ?_)
  unfold V_X_isKept at v
  refine r_aload_n B dX10_isKept_0 rfl rfl ?_
  refine r_getI B (C := RX10) (T := TX10) (N := 11) o_0 10 rfl win_X10 (by decide) rfl wf_X10_67 dX10_isKept_1 (jj := 10) rfl ?_
  refine r_iload_n B dX10_isKept_4 rfl rfl ?_
  refine r_ishr B dX10_isKept_5 ?_
  refine r_iconst B dX10_isKept_6 ?_
  refine r_iand B dX10_isKept_7 ?_
  refine r_iconst B dX10_isKept_8 ?_
  refine r_icmp_ne B (tgt := 16) dX10_isKept_9 (by decide) ((rg_and _ _)) ((rg_lit (by decide) (by decide))) (fun h => ?_) (fun h => ?_)
  · have v := v.1 h
    refine r_iconst B dX10_isKept_16 ?_
    exact r_iret B hr hk rfl ((rg_lit (by decide) (by decide))) hI v dX10_isKept_17
  · have v := v.2 h
    refine r_iconst B dX10_isKept_12 ?_
    refine r_goto B (tgt := 17) dX10_isKept_13 (by decide) ?_
    exact r_iret B hr hk rfl ((rg_lit (by decide) (by decide))) hI v dX10_isKept_17
set_option maxHeartbeats 4000000 in
set_option maxRecDepth 100000 in
theorem c_X_back {l : Launch} {E : En} {A : Nat → Prop} (x1 : Int) (I : Mm)  (hI : rgM I) (h1 : r32 x1) : CI l E A yX10_back cX10_back 2 .int 3 102 [.ref (eA E 0), .int (i2 x1)] I (V_X_back x1 I) := by
  intro Q v
  refine mk_met (own := RX10) (lv0 := [(0, .ref (eA E 0)), (1, .int (i2 x1))]) (by decide) rfl (Nat.le_of_ble_eq_true rfl) rfl (fun p e s m args below meth c0 B hr hk => ?_)
  unfold V_X_back at v
  refine r_iload_n B dX10_back_0 rfl rfl ?_
  refine r_sI B (st := []) (as := [.int (i2 x1)]) (c_X_isShelf x1 _ hI h1) v mw_X_isShelf wl_X10_225 ⟨Nat.le_of_ble_eq_true rfl, Nat.le_of_ble_eq_true rfl⟩ rfl rfl (Nat.le_of_ble_eq_true rfl) dX10_back_1 (fun z21 I22 hz21 hI22 v => ?_)
  refine r_if_ne B (tgt := 9) dX10_back_4 (by decide) hz21 (fun h => ?_) (fun h => ?_)
  · have v := v.1 h
    refine r_aload_n B dX10_back_9 rfl rfl ?_
    refine r_iload_n B dX10_back_10 rfl rfl ?_
    refine r_cI B (st := []) (as := [.int (i2 x1)]) (T := TX10) (N := 11) (c_X_isKept x1 _ hI22 h1) v o_0 rfl mw_X_isKept wl_X10_228 ⟨Nat.le_of_ble_eq_true rfl, Nat.le_of_ble_eq_true rfl⟩ rfl rfl (Nat.le_of_ble_eq_true rfl) dX10_back_11 (fun z23 I24 hz23 hI24 v => ?_)
    refine r_if_ne B (tgt := 20) dX10_back_14 (by decide) hz23 (fun h => ?_) (fun h => ?_)
    · have v := v.1 h
      refine r_aload_n B dX10_back_20 rfl rfl ?_
      refine r_getR B (C := RX10) (T := TX10) (N := 11) o_0 0 rfl win_X10 (by decide) rfl wf_X10_10 dX10_back_21 ?_
      refine r_aload_n B dX10_back_24 rfl rfl ?_
      refine r_getR B (C := RX10) (T := TX10) (N := 11) o_0 7 rfl win_X10 (by decide) rfl wf_X10_56 dX10_back_25 ?_
      refine r_iload_n B dX10_back_28 rfl rfl ?_
      obtain ⟨h25, v⟩ := v
      refine r_aald B (b := 202) (n := 2) q_201.1 q_201.2.1 (by decide) q_201.2.2 h25 dX10_back_29 ?_
      refine r_cV B (st := []) (as := [.ref (eA E (202 + 16 * x1))]) (T := TX0) (N := 9) (c_Ca_copyFrom 1 (202 + 16 * x1) _ ca_1 ((ca_shel h25)) hI24 ) v (ca_1.1) rfl mw_Ca_copyFrom wl_X10_82 ⟨Nat.le_of_ble_eq_true rfl, Nat.le_of_ble_eq_true rfl⟩ rfl rfl (Nat.le_of_ble_eq_true rfl) dX10_back_30 (fun I26 hI26 v => ?_)
      refine r_aload_n B dX10_back_33 rfl rfl ?_
      refine r_getR B (C := RX10) (T := TX10) (N := 11) o_0 6 rfl win_X10 (by decide) rfl wf_X10_52 dX10_back_34 ?_
      refine r_cV B (st := []) (as := []) (T := TX1) (N := 3) (c_Hi_forget _ hI26 ) v o_39 rfl mw_Hi_forget wl_X10_86 ⟨Nat.le_of_ble_eq_true rfl, Nat.le_of_ble_eq_true rfl⟩ rfl rfl (Nat.le_of_ble_eq_true rfl) dX10_back_37 (fun I27 hI27 v => ?_)
      refine r_aload_n B dX10_back_40 rfl rfl ?_
      refine r_getR B (C := RX10) (T := TX10) (N := 11) o_0 0 rfl win_X10 (by decide) rfl wf_X10_10 dX10_back_41 ?_
      refine r_getR B (C := RX0) (T := TX0) (N := 9) (ca_1.1) 1 rfl win_X0 (by decide) rfl wf_X10_89 dX10_back_44 ?_
      refine r_getI B (C := RX8) (T := TX8) (N := 4) (ca_1.2.2.1.1) 0 rfl win_X8 (by decide) rfl wf_X10_93 dX10_back_47 (jj := 0) rfl ?_
      exact r_iret B hr hk rfl ((hI27 _ _)) hI27 v dX10_back_50
    · have v := v.2 h
      refine r_bipush B dX10_back_17 (by decide) ?_
      exact r_iret B hr hk rfl ((rg_lit (by decide) (by decide))) hI24 v dX10_back_19
  · have v := v.2 h
    refine r_iconst B dX10_back_7 ?_
    exact r_iret B hr hk rfl ((rg_lit (by decide) (by decide))) hI22 v dX10_back_8
set_option maxHeartbeats 4000000 in
set_option maxRecDepth 100000 in
theorem c_X_rowOf {l : Launch} {E : En} {A : Nat → Prop} (x0 : Int) (x1 : Int) (x2 : Int) (I : Mm)  (hI : rgM I) (h0 : r32 x0) (h1 : r32 x1) (h2 : r32 x2) : CI l E A yX10_rowOf cX10_rowOf 3 .int 1 21 [.int (i2 x0), .int (i2 x1), .int (i2 x2)] I (V_X_rowOf x0 x1 x2 I) := by
  intro Q v
  refine mk_met (own := RX10) (lv0 := [(0, .int (i2 x0)), (1, .int (i2 x1)), (2, .int (i2 x2))]) (by decide) rfl (Nat.le_of_ble_eq_true rfl) rfl (fun p e s m args below meth c0 B hr hk => ?_)
  unfold V_X_rowOf at v
  refine r_iload_n B dX10_rowOf_0 rfl rfl ?_
  refine r_iconst B dX10_rowOf_1 ?_
  refine r_icmp_lt B (tgt := 9) dX10_rowOf_2 (by decide) h1 ((rg_lit (by decide) (by decide))) (fun h => ?_) (fun h => ?_)
  · have v := v.1 h
    refine r_iconst B dX10_rowOf_9 ?_
    refine r_goto B (tgt := 20) dX10_rowOf_10 (by decide) ?_
    exact r_iret B hr hk rfl ((rg_lit (by decide) (by decide))) hI v dX10_rowOf_20
  · have v := v.2 h
    refine r_iload_n B dX10_rowOf_5 rfl rfl ?_
    refine r_if_ge B (tgt := 13) dX10_rowOf_6 (by decide) h0 (fun h => ?_) (fun h => ?_)
    · have v := v.1 h
      refine r_iload_n B dX10_rowOf_13 rfl rfl ?_
      refine r_iload_n B dX10_rowOf_14 rfl rfl ?_
      refine r_sI B (st := []) (as := [.int (i2 x0), .int (i2 x2)]) (c_X_dayOf x0 x2 _ hI h0 h2) v mw_X_dayOf wl_X10_315 ⟨Nat.le_of_ble_eq_true rfl, Nat.le_of_ble_eq_true rfl⟩ rfl rfl (Nat.le_of_ble_eq_true rfl) dX10_rowOf_15 (fun z21 I22 hz21 hI22 v => ?_)
      refine r_iload_n B dX10_rowOf_18 rfl rfl ?_
      obtain ⟨h23, v⟩ := v
      refine r_irem B dX10_rowOf_19 hz21 h1 h23 ?_
      exact r_iret B hr hk rfl ((rg_rem h1 h23.2)) hI22 v dX10_rowOf_20
    · have v := v.2 h
      refine r_iconst B dX10_rowOf_9 ?_
      refine r_goto B (tgt := 20) dX10_rowOf_10 (by decide) ?_
      exact r_iret B hr hk rfl ((rg_lit (by decide) (by decide))) hI v dX10_rowOf_20
set_option maxHeartbeats 4000000 in
set_option maxRecDepth 100000 in
theorem c_Ca_rowAt {l : Launch} {E : En} {A : Nat → Prop} (c : Int) (x1 : Int) (I : Mm) (hc : isCa c) (hI : rgM I) (h1 : r32 x1) : CI l E A yX0_rowAt cX0_rowAt 2 .int 2 43 [.ref (eA E c), .int (i2 x1)] I (V_Ca_rowAt c x1 I) := by
  intro Q v
  refine mk_met (own := RX0) (lv0 := [(0, .ref (eA E c)), (1, .int (i2 x1))]) (by decide) rfl (Nat.le_of_ble_eq_true rfl) rfl (fun p e s m args below meth c0 B hr hk => ?_)
  unfold V_Ca_rowAt at v
  refine r_aload_n B dX0_rowAt_0 rfl rfl ?_
  refine r_getR B (C := RX0) (T := TX0) (N := 9) (hc.1) 1 rfl win_X0 (by decide) rfl wf_X0_21 dX0_rowAt_1 ?_
  refine r_iload_n B dX0_rowAt_4 rfl rfl ?_
  refine r_cI B (st := []) (as := [.int (i2 x1)]) (T := TX8) (N := 4) (c_Th_has (c + 5) x1 _ (hc.2.2.1) hI h1) v (hc.2.2.1.1) rfl mw_Th_has wl_X0_99 ⟨Nat.le_of_ble_eq_true rfl, Nat.le_of_ble_eq_true rfl⟩ rfl rfl (Nat.le_of_ble_eq_true rfl) dX0_rowAt_5 (fun z21 I22 hz21 hI22 v => ?_)
  refine r_if_ne B (tgt := 15) dX0_rowAt_8 (by decide) hz21 (fun h => ?_) (fun h => ?_)
  · have v := v.1 h
    refine r_aload_n B dX0_rowAt_15 rfl rfl ?_
    refine r_getR B (C := RX0) (T := TX0) (N := 9) (hc.1) 1 rfl win_X0 (by decide) rfl wf_X0_21 dX0_rowAt_16 ?_
    refine r_getR B (C := RX8) (T := TX8) (N := 4) (hc.2.2.1.1) 3 rfl win_X8 (by decide) rfl wf_X0_120 dX0_rowAt_19 ?_
    refine r_iload_n B dX0_rowAt_22 rfl rfl ?_
    obtain ⟨h23, v⟩ := v
    refine r_ald B (hc.2.2.1.2.2.2) (by decide) h23 dX0_rowAt_23 ?_
    refine r_aload_n B dX0_rowAt_24 rfl rfl ?_
    refine r_getI B (C := RX0) (T := TX0) (N := 9) (hc.1) 5 rfl win_X0 (by decide) rfl wf_X0_43 dX0_rowAt_25 (jj := 5) rfl ?_
    refine r_aload_n B dX0_rowAt_28 rfl rfl ?_
    refine r_getI B (C := RX0) (T := TX0) (N := 9) (hc.1) 6 rfl win_X0 (by decide) rfl wf_X0_47 dX0_rowAt_29 (jj := 6) rfl ?_
    refine r_nI B (st := []) (as := [.int (i2 (I22 (c + 5 + 3) x1)), .int (i2 (I22 c 5)), .int (i2 (I22 c 6))]) (host := "DayRows") (c_X_rowOf (I22 (c + 5 + 3) x1) (I22 c 5) (I22 c 6) _ hI22 ((hI22 _ _)) ((hI22 _ _)) ((hI22 _ _))) v mw_X_rowOf (by decide) ⟨Nat.le_of_ble_eq_true rfl, Nat.le_of_ble_eq_true rfl⟩ rfl rfl (Nat.le_of_ble_eq_true rfl) dX0_rowAt_32 (fun z24 I25 hz24 hI25 v => ?_)
    exact r_iret B hr hk rfl hz24 hI25 v dX0_rowAt_35
  · have v := v.2 h
    refine r_iconst B dX0_rowAt_11 ?_
    refine r_goto B (tgt := 35) dX0_rowAt_12 (by decide) ?_
    exact r_iret B hr hk rfl ((rg_lit (by decide) (by decide))) hI22 v dX0_rowAt_35
set_option maxHeartbeats 4000000 in
set_option maxRecDepth 100000 in
theorem c_X_next {l : Launch} {E : En} {A : Nat → Prop} (x1 : Int) (x2 : Int) (I : Mm)  (hI : rgM I) (h1 : r32 x1) (h2 : r32 x2) : CI l E A yX10_next cX10_next 3 .int 3 64 [.ref (eA E 0), .int (i2 x1), .int (i2 x2)] I (V_X_next x1 x2 I) := by
  intro Q v
  refine mk_met (own := RX10) (lv0 := [(0, .ref (eA E 0)), (1, .int (i2 x1)), (2, .int (i2 x2))]) (by decide) rfl (Nat.le_of_ble_eq_true rfl) rfl (fun p e s m args below meth c0 B hr hk => ?_)
  unfold V_X_next at v
  refine r_aload_n B dX10_next_0 rfl rfl ?_
  refine r_getR B (C := RX10) (T := TX10) (N := 11) o_0 0 rfl win_X10 (by decide) rfl wf_X10_10 dX10_next_1 ?_
  refine r_getR B (C := RX0) (T := TX0) (N := 9) (ca_1.1) 1 rfl win_X0 (by decide) rfl wf_X10_89 dX10_next_4 ?_
  refine r_iload_n B dX10_next_7 rfl rfl ?_
  refine r_cI B (st := []) (as := [.int (i2 x1)]) (T := TX8) (N := 4) (c_Th_has (1 + 5) x1 _ (ca_1.2.2.1) hI h1) v (ca_1.2.2.1.1) rfl mw_Th_has wl_X10_231 ⟨Nat.le_of_ble_eq_true rfl, Nat.le_of_ble_eq_true rfl⟩ rfl rfl (Nat.le_of_ble_eq_true rfl) dX10_next_8 (fun z21 I22 hz21 hI22 v => ?_)
  refine r_if_ne B (tgt := 16) dX10_next_11 (by decide) hz21 (fun h => ?_) (fun h => ?_)
  · have v := v.1 h
    refine r_iload_n B dX10_next_16 rfl rfl ?_
    have hsw : x2 = 0 ∨ x2 = 1 ∨ x2 = 2 ∨ x2 = 3 ∨ (x2 < 0 ∨ 3 < x2) := by omega
    rcases hsw with hcs | hcs | hcs | hcs | hcs
    · have v := v.1 hcs
      refine r_tabIn B (tgt := 48) dX10_next_17 h2 0 hcs (by decide) (by decide) rfl (by decide) ?_
      refine r_aload_n B dX10_next_48 rfl rfl ?_
      refine r_getR B (C := RX10) (T := TX10) (N := 11) o_0 0 rfl win_X10 (by decide) rfl wf_X10_10 dX10_next_49 ?_
      refine r_getR B (C := RX0) (T := TX0) (N := 9) (ca_1.1) 1 rfl win_X0 (by decide) rfl wf_X10_89 dX10_next_52 ?_
      refine r_getR B (C := RX8) (T := TX8) (N := 4) (ca_1.2.2.1.1) 1 rfl win_X8 (by decide) rfl wf_X10_232 dX10_next_55 ?_
      refine r_iload_n B dX10_next_58 rfl rfl ?_
      obtain ⟨h23, v⟩ := v
      refine r_ald B (ca_1.2.2.1.2.1) (by decide) h23 dX10_next_59 ?_
      exact r_iret B hr hk rfl ((hI22 _ _)) hI22 v dX10_next_60
    · have v := v.2.1 hcs
      refine r_tabIn B (tgt := 61) dX10_next_17 h2 1 hcs (by decide) (by decide) rfl (by decide) ?_
      refine r_aload_n B dX10_next_61 rfl rfl ?_
      refine r_getR B (C := RX10) (T := TX10) (N := 11) o_0 0 rfl win_X10 (by decide) rfl wf_X10_10 dX10_next_62 ?_
      refine r_getR B (C := RX0) (T := TX0) (N := 9) (ca_1.1) 1 rfl win_X0 (by decide) rfl wf_X10_89 dX10_next_65 ?_
      refine r_getR B (C := RX8) (T := TX8) (N := 4) (ca_1.2.2.1.1) 2 rfl win_X8 (by decide) rfl wf_X10_182 dX10_next_68 ?_
      refine r_iload_n B dX10_next_71 rfl rfl ?_
      obtain ⟨h24, v⟩ := v
      refine r_ald B (ca_1.2.2.1.2.2.1) (by decide) h24 dX10_next_72 ?_
      exact r_iret B hr hk rfl ((hI22 _ _)) hI22 v dX10_next_73
    · have v := v.2.2.1 hcs
      refine r_tabIn B (tgt := 74) dX10_next_17 h2 2 hcs (by decide) (by decide) rfl (by decide) ?_
      refine r_aload_n B dX10_next_74 rfl rfl ?_
      refine r_getR B (C := RX10) (T := TX10) (N := 11) o_0 0 rfl win_X10 (by decide) rfl wf_X10_10 dX10_next_75 ?_
      refine r_getR B (C := RX0) (T := TX0) (N := 9) (ca_1.1) 1 rfl win_X0 (by decide) rfl wf_X10_89 dX10_next_78 ?_
      refine r_getR B (C := RX8) (T := TX8) (N := 4) (ca_1.2.2.1.1) 3 rfl win_X8 (by decide) rfl wf_X10_154 dX10_next_81 ?_
      refine r_iload_n B dX10_next_84 rfl rfl ?_
      obtain ⟨h25, v⟩ := v
      refine r_ald B (ca_1.2.2.1.2.2.2) (by decide) h25 dX10_next_85 ?_
      exact r_iret B hr hk rfl ((hI22 _ _)) hI22 v dX10_next_86
    · have v := v.2.2.2.1 hcs
      refine r_tabIn B (tgt := 87) dX10_next_17 h2 3 hcs (by decide) (by decide) rfl (by decide) ?_
      refine r_aload_n B dX10_next_87 rfl rfl ?_
      refine r_getR B (C := RX10) (T := TX10) (N := 11) o_0 0 rfl win_X10 (by decide) rfl wf_X10_10 dX10_next_88 ?_
      refine r_iload_n B dX10_next_91 rfl rfl ?_
      refine r_cI B (st := []) (as := [.int (i2 x1)]) (T := TX0) (N := 9) (c_Ca_rowAt 1 x1 _ ca_1 hI22 h1) v (ca_1.1) rfl mw_Ca_rowAt wl_X10_235 ⟨Nat.le_of_ble_eq_true rfl, Nat.le_of_ble_eq_true rfl⟩ rfl rfl (Nat.le_of_ble_eq_true rfl) dX10_next_92 (fun z26 I27 hz26 hI27 v => ?_)
      exact r_iret B hr hk rfl hz26 hI27 v dX10_next_95
    · have v := v.2.2.2.2 hcs
      refine r_tabOut B (tgt := 96) dX10_next_17 h2 hcs (by decide) ?_
      refine r_iconst B dX10_next_96 ?_
      exact r_iret B hr hk rfl ((rg_lit (by decide) (by decide))) hI22 v dX10_next_97
  · have v := v.2 h
    refine r_iconst B dX10_next_14 ?_
    exact r_iret B hr hk rfl ((rg_lit (by decide) (by decide))) hI22 v dX10_next_15
set_option maxHeartbeats 4000000 in
set_option maxRecDepth 100000 in
theorem wL_Ca_countInRow_5 {p : Program} {l : Launch} {e : Env} {s : State} {m : MethodId} {args : Array Value} {below : List Frame} {meth : Method} {c0 : Code} {E : En} {A : Nat → Prop} {c : Int} {x1 : Int} {x2 : Int} {Q : Int → Mm → Prop}  (B : Bd p (rmm 3 64) s m args c0 cX0_countInRow 5 RX0 E A 0 0) (hr : meth.sig.returnType = some .int) (hk : meth.locks = false) (hc : isCa c) (h1 : r32 x1) (h2 : r32 x2)   : ∀ (n : Nat) (x3 : Int) (x4 : Int) (I : Mm), rgM I → r32 x3 → r32 x4 → L_Ca_countInRow_5 c x1 x2 Q n x3 x4 I → WI p l e (rmm 3 64) s m args below meth c0 E A 5 0 0 (qI below E A args s Q) I 5 [(0, .ref (eA E c)), (1, .int (i2 x1)), (2, .int (i2 x2)), (3, .int (i2 x3)), (4, .int (i2 x4))] [] := by
  intro n
  induction n with
  | zero => intro x3 x4 I _ _ _ v; exact absurd v id
  | succ n ih =>
    intro x3 x4 I hI h3 h4 v
    unfold L_Ca_countInRow_5 at v
    refine r_iload B dX0_countInRow_5 rfl ?_
    refine r_iload_n B dX0_countInRow_7 rfl rfl ?_
    refine r_icmp_ge B (tgt := 30) dX0_countInRow_8 (by decide) h4 h2 (fun h => ?_) (fun h => ?_)
    · have v := v.1 h
      refine r_iload_n B dX0_countInRow_30 rfl rfl ?_
      exact r_iret B hr hk rfl h3 hI v dX0_countInRow_31
    · have v := v.2 h
      refine r_aload_n B dX0_countInRow_11 rfl rfl ?_
      refine r_iload B dX0_countInRow_12 rfl ?_
      refine r_cI B (st := []) (as := [.int (i2 x4)]) (T := TX0) (N := 9) (c_Ca_rowAt c x4 _ hc hI h4) v (hc.1) rfl mw_Ca_rowAt wl_X0_146 ⟨Nat.le_of_ble_eq_true rfl, Nat.le_of_ble_eq_true rfl⟩ rfl rfl (Nat.le_of_ble_eq_true rfl) dX0_countInRow_14 (fun z21 I22 hz21 hI22 v => ?_)
      refine r_iload_n B dX0_countInRow_17 rfl rfl ?_
      refine r_icmp_ne B (tgt := 24) dX0_countInRow_18 (by decide) hz21 h1 (fun h => ?_) (fun h => ?_)
      · have v := v.1 h
        refine r_iinc B (q := 4) dX0_countInRow_24 (by decide) rfl (lv' := [(4, .int (i2 (x4 + 1))), (0, .ref (eA E c)), (1, .int (i2 x1)), (2, .int (i2 x2)), (3, .int (i2 x3))]) rfl ?_
        refine r_sub [1, 2, 3, 4, 0] rfl ?_
        refine r_goto B (tgt := 5) dX0_countInRow_27 (by decide) ?_
        obtain ⟨h23, v⟩ := v
        refine r_sub [0, 1, 2, 3, 4] rfl ?_
        exact ih x3 (x4 + 1) _ hI22 h3 h23 v
      · have v := v.2 h
        refine r_iinc B (q := 3) dX0_countInRow_21 (by decide) rfl (lv' := [(3, .int (i2 (x3 + 1))), (0, .ref (eA E c)), (1, .int (i2 x1)), (2, .int (i2 x2)), (4, .int (i2 x4))]) rfl ?_
        refine r_sub [1, 2, 3, 0, 4] rfl ?_
        refine r_iinc B (q := 4) dX0_countInRow_24 (by decide) rfl (lv' := [(4, .int (i2 (x4 + 1))), (0, .ref (eA E c)), (1, .int (i2 x1)), (2, .int (i2 x2)), (3, .int (i2 (x3 + 1)))]) rfl ?_
        refine r_sub [1, 2, 3, 4, 0] rfl ?_
        refine r_goto B (tgt := 5) dX0_countInRow_27 (by decide) ?_
        obtain ⟨h24, v⟩ := v
        obtain ⟨h25, v⟩ := v
        refine r_sub [0, 1, 2, 3, 4] rfl ?_
        exact ih (x3 + 1) (x4 + 1) _ hI22 h24 h25 v
set_option maxHeartbeats 4000000 in
set_option maxRecDepth 100000 in
theorem c_Ca_countInRow {l : Launch} {E : En} {A : Nat → Prop} (c : Int) (x1 : Int) (x2 : Int) (I : Mm) (hc : isCa c) (hI : rgM I) (h1 : r32 x1) (h2 : r32 x2) : CI l E A yX0_countInRow cX0_countInRow 5 .int 3 64 [.ref (eA E c), .int (i2 x1), .int (i2 x2)] I (V_Ca_countInRow c x1 x2 I) := by
  intro Q v
  refine mk_met (own := RX0) (lv0 := [(0, .ref (eA E c)), (1, .int (i2 x1)), (2, .int (i2 x2))]) (by decide) rfl (Nat.le_of_ble_eq_true rfl) rfl (fun p e s m args below meth c0 B hr hk => ?_)
  unfold V_Ca_countInRow at v
  refine r_iconst B dX0_countInRow_0 ?_
  refine r_istore_n B dX0_countInRow_1 rfl (by decide) (lv' := [(3, .int (i2 0)), (0, .ref (eA E c)), (1, .int (i2 x1)), (2, .int (i2 x2))]) rfl ?_
  refine r_sub [1, 2, 3, 0] rfl ?_
  refine r_iconst B dX0_countInRow_2 ?_
  refine r_istore B dX0_countInRow_3 (by decide) (lv' := [(4, .int (i2 0)), (0, .ref (eA E c)), (1, .int (i2 x1)), (2, .int (i2 x2)), (3, .int (i2 0))]) rfl ?_
  refine r_sub [1, 2, 3, 4, 0] rfl ?_
  obtain ⟨f26, v⟩ := v
  refine r_sub [0, 1, 2, 3, 4] rfl ?_
  exact wL_Ca_countInRow_5 B hr hk hc h1 h2 f26 0 0 I hI ((rg_lit (by decide) (by decide))) ((rg_lit (by decide) (by decide))) v
set_option maxHeartbeats 4000000 in
set_option maxRecDepth 100000 in
theorem c_X_of {l : Launch} {E : En} {A : Nat → Prop} (x1 : Int) (x2 : Int) (I : Mm)  (hI : rgM I) (h1 : r32 x1) (h2 : r32 x2) : CI l E A yX10_of cX10_of 4 .int 4 88 [.ref (eA E 0), .int (i2 x1), .int (i2 x2)] I (V_X_of x1 x2 I) := by
  intro Q v
  refine mk_met (own := RX10) (lv0 := [(0, .ref (eA E 0)), (1, .int (i2 x1)), (2, .int (i2 x2))]) (by decide) rfl (Nat.le_of_ble_eq_true rfl) rfl (fun p e s m args below meth c0 B hr hk => ?_)
  unfold V_X_of at v
  refine r_aload_n B dX10_of_0 rfl rfl ?_
  refine r_getR B (C := RX10) (T := TX10) (N := 11) o_0 0 rfl win_X10 (by decide) rfl wf_X10_10 dX10_of_1 ?_
  refine r_getR B (C := RX0) (T := TX0) (N := 9) (ca_1.1) 1 rfl win_X0 (by decide) rfl wf_X10_89 dX10_of_4 ?_
  refine r_iload_n B dX10_of_7 rfl rfl ?_
  refine r_cI B (st := []) (as := [.int (i2 x1)]) (T := TX8) (N := 4) (c_Th_placeOf (1 + 5) x1 _ (ca_1.2.2.1) hI h1) v (ca_1.2.2.1.1) rfl mw_Th_placeOf wl_X10_142 ⟨Nat.le_of_ble_eq_true rfl, Nat.le_of_ble_eq_true rfl⟩ rfl rfl (Nat.le_of_ble_eq_true rfl) dX10_of_8 (fun z21 I22 hz21 hI22 v => ?_)
  refine r_istore_n B dX10_of_11 rfl (by decide) (lv' := [(3, .int (i2 z21)), (0, .ref (eA E 0)), (1, .int (i2 x1)), (2, .int (i2 x2))]) rfl ?_
  refine r_sub [1, 2, 3, 0] rfl ?_
  refine r_iload_n B dX10_of_12 rfl rfl ?_
  refine r_iconst B dX10_of_13 ?_
  refine r_icmp_ne B (tgt := 19) dX10_of_14 (by decide) hz21 ((rg_lit (by decide) (by decide))) (fun h => ?_) (fun h => ?_)
  · have v := v.1 h
    refine r_iload_n B dX10_of_19 rfl rfl ?_
    have hsw : x2 = 0 ∨ x2 = 1 ∨ x2 = 2 ∨ x2 = 3 ∨ x2 = 4 ∨ (x2 < 0 ∨ 4 < x2) := by omega
    rcases hsw with hcs | hcs | hcs | hcs | hcs | hcs
    · have v := v.1 hcs
      refine r_tabIn B (tgt := 56) dX10_of_20 h2 0 hcs (by decide) (by decide) rfl (by decide) ?_
      refine r_iload_n B dX10_of_56 rfl rfl ?_
      exact r_iret B hr hk rfl hz21 hI22 v dX10_of_57
    · have v := v.2.1 hcs
      refine r_tabIn B (tgt := 58) dX10_of_20 h2 1 hcs (by decide) (by decide) rfl (by decide) ?_
      refine r_aload_n B dX10_of_58 rfl rfl ?_
      refine r_getR B (C := RX10) (T := TX10) (N := 11) o_0 0 rfl win_X10 (by decide) rfl wf_X10_10 dX10_of_59 ?_
      refine r_getR B (C := RX0) (T := TX0) (N := 9) (ca_1.1) 1 rfl win_X0 (by decide) rfl wf_X10_89 dX10_of_62 ?_
      refine r_getR B (C := RX8) (T := TX8) (N := 4) (ca_1.2.2.1.1) 2 rfl win_X8 (by decide) rfl wf_X10_182 dX10_of_65 ?_
      refine r_iload_n B dX10_of_68 rfl rfl ?_
      obtain ⟨h23, v⟩ := v
      refine r_ald B (ca_1.2.2.1.2.2.1) (by decide) h23 dX10_of_69 ?_
      exact r_iret B hr hk rfl ((hI22 _ _)) hI22 v dX10_of_70
    · have v := v.2.2.1 hcs
      refine r_tabIn B (tgt := 71) dX10_of_20 h2 2 hcs (by decide) (by decide) rfl (by decide) ?_
      refine r_aload_n B dX10_of_71 rfl rfl ?_
      refine r_getR B (C := RX10) (T := TX10) (N := 11) o_0 0 rfl win_X10 (by decide) rfl wf_X10_10 dX10_of_72 ?_
      refine r_getR B (C := RX0) (T := TX0) (N := 9) (ca_1.1) 1 rfl win_X0 (by decide) rfl wf_X10_89 dX10_of_75 ?_
      refine r_getR B (C := RX8) (T := TX8) (N := 4) (ca_1.2.2.1.1) 3 rfl win_X8 (by decide) rfl wf_X10_154 dX10_of_78 ?_
      refine r_iload_n B dX10_of_81 rfl rfl ?_
      obtain ⟨h24, v⟩ := v
      refine r_ald B (ca_1.2.2.1.2.2.2) (by decide) h24 dX10_of_82 ?_
      exact r_iret B hr hk rfl ((hI22 _ _)) hI22 v dX10_of_83
    · have v := v.2.2.2.1 hcs
      refine r_tabIn B (tgt := 84) dX10_of_20 h2 3 hcs (by decide) (by decide) rfl (by decide) ?_
      refine r_aload_n B dX10_of_84 rfl rfl ?_
      refine r_getR B (C := RX10) (T := TX10) (N := 11) o_0 0 rfl win_X10 (by decide) rfl wf_X10_10 dX10_of_85 ?_
      refine r_iload_n B dX10_of_88 rfl rfl ?_
      refine r_cI B (st := []) (as := [.int (i2 z21)]) (T := TX0) (N := 9) (c_Ca_rowAt 1 z21 _ ca_1 hI22 hz21) v (ca_1.1) rfl mw_Ca_rowAt wl_X10_235 ⟨Nat.le_of_ble_eq_true rfl, Nat.le_of_ble_eq_true rfl⟩ rfl rfl (Nat.le_of_ble_eq_true rfl) dX10_of_89 (fun z25 I26 hz25 hI26 v => ?_)
      exact r_iret B hr hk rfl hz25 hI26 v dX10_of_92
    · have v := v.2.2.2.2.1 hcs
      refine r_tabIn B (tgt := 93) dX10_of_20 h2 4 hcs (by decide) (by decide) rfl (by decide) ?_
      refine r_aload_n B dX10_of_93 rfl rfl ?_
      refine r_getR B (C := RX10) (T := TX10) (N := 11) o_0 0 rfl win_X10 (by decide) rfl wf_X10_10 dX10_of_94 ?_
      refine r_aload_n B dX10_of_97 rfl rfl ?_
      refine r_getR B (C := RX10) (T := TX10) (N := 11) o_0 0 rfl win_X10 (by decide) rfl wf_X10_10 dX10_of_98 ?_
      refine r_iload_n B dX10_of_101 rfl rfl ?_
      refine r_cI B (st := [.ref (eA E 1)]) (as := [.int (i2 z21)]) (T := TX0) (N := 9) (c_Ca_rowAt 1 z21 _ ca_1 hI22 hz21) v (ca_1.1) rfl mw_Ca_rowAt wl_X10_235 ⟨Nat.le_of_ble_eq_true rfl, Nat.le_of_ble_eq_true rfl⟩ rfl rfl (Nat.le_of_ble_eq_true rfl) dX10_of_102 (fun z27 I28 hz27 hI28 v => ?_)
      refine r_iload_n B dX10_of_105 rfl rfl ?_
      refine r_cI B (st := []) (as := [.int (i2 z27), .int (i2 z21)]) (T := TX0) (N := 9) (c_Ca_countInRow 1 z27 z21 _ ca_1 hI28 hz27 hz21) v (ca_1.1) rfl mw_Ca_countInRow wl_X10_238 ⟨Nat.le_of_ble_eq_true rfl, Nat.le_of_ble_eq_true rfl⟩ rfl rfl (Nat.le_of_ble_eq_true rfl) dX10_of_106 (fun z29 I30 hz29 hI30 v => ?_)
      exact r_iret B hr hk rfl hz29 hI30 v dX10_of_109
    · have v := v.2.2.2.2.2 hcs
      refine r_tabOut B (tgt := 110) dX10_of_20 h2 hcs (by decide) ?_
      refine r_iconst B dX10_of_110 ?_
      exact r_iret B hr hk rfl ((rg_lit (by decide) (by decide))) hI22 v dX10_of_111
  · have v := v.2 h
    refine r_iconst B dX10_of_17 ?_
    exact r_iret B hr hk rfl ((rg_lit (by decide) (by decide))) hI22 v dX10_of_18
set_option maxHeartbeats 4000000 in
set_option maxRecDepth 100000 in
theorem wL_Ca_placeInRow_5 {p : Program} {l : Launch} {e : Env} {s : State} {m : MethodId} {args : Array Value} {below : List Frame} {meth : Method} {c0 : Code} {E : En} {A : Nat → Prop} {c : Int} {x1 : Int} {x2 : Int} {Q : Int → Mm → Prop}  (B : Bd p (rmm 3 64) s m args c0 cX0_placeInRow 5 RX0 E A 0 0) (hr : meth.sig.returnType = some .int) (hk : meth.locks = false) (hc : isCa c) (h1 : r32 x1) (h2 : r32 x2)   : ∀ (n : Nat) (x3 : Int) (x4 : Int) (I : Mm), rgM I → r32 x3 → r32 x4 → L_Ca_placeInRow_5 c x1 x2 Q n x3 x4 I → WI p l e (rmm 3 64) s m args below meth c0 E A 5 0 0 (qI below E A args s Q) I 5 [(0, .ref (eA E c)), (1, .int (i2 x1)), (2, .int (i2 x2)), (3, .int (i2 x3)), (4, .int (i2 x4))] [] := by
  intro n
  induction n with
  | zero => intro x3 x4 I _ _ _ v; exact absurd v id
  | succ n ih =>
    intro x3 x4 I hI h3 h4 v
    unfold L_Ca_placeInRow_5 at v
    refine r_iload B dX0_placeInRow_5 rfl ?_
    refine r_aload_n B dX0_placeInRow_7 rfl rfl ?_
    refine r_getR B (C := RX0) (T := TX0) (N := 9) (hc.1) 1 rfl win_X0 (by decide) rfl wf_X0_21 dX0_placeInRow_8 ?_
    refine r_getI B (C := RX8) (T := TX8) (N := 4) (hc.2.2.1.1) 0 rfl win_X8 (by decide) rfl wf_X0_53 dX0_placeInRow_11 (jj := 0) rfl ?_
    refine r_icmp_ge B (tgt := 44) dX0_placeInRow_14 (by decide) h4 ((hI _ _)) (fun h => ?_) (fun h => ?_)
    · have v := v.1 h
      refine r_iconst B dX0_placeInRow_44 ?_
      exact r_iret B hr hk rfl ((rg_lit (by decide) (by decide))) hI v dX0_placeInRow_45
    · have v := v.2 h
      refine r_aload_n B dX0_placeInRow_17 rfl rfl ?_
      refine r_iload B dX0_placeInRow_18 rfl ?_
      refine r_cI B (st := []) (as := [.int (i2 x4)]) (T := TX0) (N := 9) (c_Ca_rowAt c x4 _ hc hI h4) v (hc.1) rfl mw_Ca_rowAt wl_X0_146 ⟨Nat.le_of_ble_eq_true rfl, Nat.le_of_ble_eq_true rfl⟩ rfl rfl (Nat.le_of_ble_eq_true rfl) dX0_placeInRow_20 (fun z21 I22 hz21 hI22 v => ?_)
      refine r_iload_n B dX0_placeInRow_23 rfl rfl ?_
      refine r_icmp_ne B (tgt := 38) dX0_placeInRow_24 (by decide) hz21 h1 (fun h => ?_) (fun h => ?_)
      · have v := v.1 h
        refine r_iinc B (q := 4) dX0_placeInRow_38 (by decide) rfl (lv' := [(4, .int (i2 (x4 + 1))), (0, .ref (eA E c)), (1, .int (i2 x1)), (2, .int (i2 x2)), (3, .int (i2 x3))]) rfl ?_
        refine r_sub [1, 2, 3, 4, 0] rfl ?_
        refine r_goto B (tgt := 5) dX0_placeInRow_41 (by decide) ?_
        obtain ⟨h23, v⟩ := v
        refine r_sub [0, 1, 2, 3, 4] rfl ?_
        exact ih x3 (x4 + 1) _ hI22 h3 h23 v
      · have v := v.2 h
        refine r_iload_n B dX0_placeInRow_27 rfl rfl ?_
        refine r_iload_n B dX0_placeInRow_28 rfl rfl ?_
        refine r_icmp_ne B (tgt := 35) dX0_placeInRow_29 (by decide) h3 h2 (fun h => ?_) (fun h => ?_)
        · have v := v.1 h
          refine r_iinc B (q := 3) dX0_placeInRow_35 (by decide) rfl (lv' := [(3, .int (i2 (x3 + 1))), (0, .ref (eA E c)), (1, .int (i2 x1)), (2, .int (i2 x2)), (4, .int (i2 x4))]) rfl ?_
          refine r_sub [1, 2, 3, 0, 4] rfl ?_
          refine r_iinc B (q := 4) dX0_placeInRow_38 (by decide) rfl (lv' := [(4, .int (i2 (x4 + 1))), (0, .ref (eA E c)), (1, .int (i2 x1)), (2, .int (i2 x2)), (3, .int (i2 (x3 + 1)))]) rfl ?_
          refine r_sub [1, 2, 3, 4, 0] rfl ?_
          refine r_goto B (tgt := 5) dX0_placeInRow_41 (by decide) ?_
          obtain ⟨h24, v⟩ := v
          obtain ⟨h25, v⟩ := v
          refine r_sub [0, 1, 2, 3, 4] rfl ?_
          exact ih (x3 + 1) (x4 + 1) _ hI22 h24 h25 v
        · have v := v.2 h
          refine r_iload B dX0_placeInRow_32 rfl ?_
          exact r_iret B hr hk rfl h4 hI22 v dX0_placeInRow_34
set_option maxHeartbeats 4000000 in
set_option maxRecDepth 100000 in
theorem c_Ca_placeInRow {l : Launch} {E : En} {A : Nat → Prop} (c : Int) (x1 : Int) (x2 : Int) (I : Mm) (hc : isCa c) (hI : rgM I) (h1 : r32 x1) (h2 : r32 x2) : CI l E A yX0_placeInRow cX0_placeInRow 5 .int 3 64 [.ref (eA E c), .int (i2 x1), .int (i2 x2)] I (V_Ca_placeInRow c x1 x2 I) := by
  intro Q v
  refine mk_met (own := RX0) (lv0 := [(0, .ref (eA E c)), (1, .int (i2 x1)), (2, .int (i2 x2))]) (by decide) rfl (Nat.le_of_ble_eq_true rfl) rfl (fun p e s m args below meth c0 B hr hk => ?_)
  unfold V_Ca_placeInRow at v
  refine r_iconst B dX0_placeInRow_0 ?_
  refine r_istore_n B dX0_placeInRow_1 rfl (by decide) (lv' := [(3, .int (i2 0)), (0, .ref (eA E c)), (1, .int (i2 x1)), (2, .int (i2 x2))]) rfl ?_
  refine r_sub [1, 2, 3, 0] rfl ?_
  refine r_iconst B dX0_placeInRow_2 ?_
  refine r_istore B dX0_placeInRow_3 (by decide) (lv' := [(4, .int (i2 0)), (0, .ref (eA E c)), (1, .int (i2 x1)), (2, .int (i2 x2)), (3, .int (i2 0))]) rfl ?_
  refine r_sub [1, 2, 3, 4, 0] rfl ?_
  obtain ⟨f26, v⟩ := v
  refine r_sub [0, 1, 2, 3, 4] rfl ?_
  exact wL_Ca_placeInRow_5 B hr hk hc h1 h2 f26 0 0 I hI ((rg_lit (by decide) (by decide))) ((rg_lit (by decide) (by decide))) v
