set_option maxHeartbeats 4000000 in
set_option maxRecDepth 100000 in
theorem c_bitCount {l : Launch} {E : En} {A : Nat → Prop} (x0 : Int) (I : Mm)  (hI : rgM I) (h0 : r32 x0) : CI l E A yJ6_bitCount_0f7a4 cJ6_bitCount_0f7a4 1 .int 0 0 [.int (i2 x0)] I (V_bitCount x0 I) := by
  intro Q v
  refine mk_met (own := RJ6) (lv0 := [(0, .int (i2 x0))]) (by decide) rfl (Nat.le_of_ble_eq_true rfl) rfl (fun p e s m args below meth c0 B hr hk => ?_)
  unfold V_bitCount at v
  refine r_iload_n B dJ6_bitCount_0f7a4_0 rfl rfl ?_
  refine r_iload_n B dJ6_bitCount_0f7a4_1 rfl rfl ?_
  refine r_iconst B dJ6_bitCount_0f7a4_2 ?_
  refine r_iushr B dJ6_bitCount_0f7a4_3 ?_
  refine r_ldcw B (1431655765) dJ6_bitCount_0f7a4_4 wc_J6_265 (by decide) ?_
  refine r_iand B dJ6_bitCount_0f7a4_7 ?_
  refine r_isub B dJ6_bitCount_0f7a4_8 ?_
  refine r_name (fun y21 ey21 => ?_)
  have v := v y21 ey21
  refine r_istore_n B dJ6_bitCount_0f7a4_9 rfl (by decide) (lv' := [(0, .int (i2 y21))]) rfl ?_
  refine r_iload_n B dJ6_bitCount_0f7a4_10 rfl rfl ?_
  refine r_ldcw B (858993459) dJ6_bitCount_0f7a4_11 wc_J6_266 (by decide) ?_
  refine r_iand B dJ6_bitCount_0f7a4_14 ?_
  refine r_iload_n B dJ6_bitCount_0f7a4_15 rfl rfl ?_
  refine r_iconst B dJ6_bitCount_0f7a4_16 ?_
  refine r_iushr B dJ6_bitCount_0f7a4_17 ?_
  refine r_ldcw B (858993459) dJ6_bitCount_0f7a4_18 wc_J6_266 (by decide) ?_
  refine r_iand B dJ6_bitCount_0f7a4_21 ?_
  refine r_iadd B dJ6_bitCount_0f7a4_22 ?_
  refine r_name (fun y22 ey22 => ?_)
  have v := v y22 ey22
  refine r_istore_n B dJ6_bitCount_0f7a4_23 rfl (by decide) (lv' := [(0, .int (i2 y22))]) rfl ?_
  refine r_iload_n B dJ6_bitCount_0f7a4_24 rfl rfl ?_
  refine r_iload_n B dJ6_bitCount_0f7a4_25 rfl rfl ?_
  refine r_iconst B dJ6_bitCount_0f7a4_26 ?_
  refine r_iushr B dJ6_bitCount_0f7a4_27 ?_
  refine r_iadd B dJ6_bitCount_0f7a4_28 ?_
  refine r_ldcw B (252645135) dJ6_bitCount_0f7a4_29 wc_J6_267 (by decide) ?_
  refine r_iand B dJ6_bitCount_0f7a4_32 ?_
  refine r_name (fun y23 ey23 => ?_)
  have v := v y23 ey23
  have hy23 : r32 y23 := by rw [ey23]; exact (rg_and _ _)
  refine r_istore_n B dJ6_bitCount_0f7a4_33 rfl (by decide) (lv' := [(0, .int (i2 y23))]) rfl ?_
  refine r_iload_n B dJ6_bitCount_0f7a4_34 rfl rfl ?_
  refine r_iload_n B dJ6_bitCount_0f7a4_35 rfl rfl ?_
  refine r_bipush B dJ6_bitCount_0f7a4_36 (by decide) ?_
  refine r_iushr B dJ6_bitCount_0f7a4_38 ?_
  refine r_iadd B dJ6_bitCount_0f7a4_39 ?_
  refine r_istore_n B dJ6_bitCount_0f7a4_40 rfl (by decide) (lv' := [(0, .int (i2 (y23 + bUshr y23 8)))]) rfl ?_
  refine r_iload_n B dJ6_bitCount_0f7a4_41 rfl rfl ?_
  refine r_iload_n B dJ6_bitCount_0f7a4_42 rfl rfl ?_
  refine r_bipush B dJ6_bitCount_0f7a4_43 (by decide) ?_
  refine r_iushr B dJ6_bitCount_0f7a4_45 ?_
  refine r_iadd B dJ6_bitCount_0f7a4_46 ?_
  refine r_name (fun y24 ey24 => ?_)
  have v := v y24 ey24
  refine r_istore_n B dJ6_bitCount_0f7a4_47 rfl (by decide) (lv' := [(0, .int (i2 y24))]) rfl ?_
  refine r_iload_n B dJ6_bitCount_0f7a4_48 rfl rfl ?_
  refine r_bipush B dJ6_bitCount_0f7a4_49 (by decide) ?_
  refine r_iand B dJ6_bitCount_0f7a4_51 ?_
  exact r_iret B hr hk rfl ((rg_and _ _)) hI v dJ6_bitCount_0f7a4_52
set_option maxHeartbeats 4000000 in
set_option maxRecDepth 100000 in
theorem wL_Ta_addFour_3 {p : Program} {l : Launch} {e : Env} {s : State} {m : MethodId} {args : Array Value} {below : List Frame} {meth : Method} {c0 : Code} {E : En} {A : Nat → Prop} {x1 : Int} {Q : Mm → Prop}  (B : Bd p (rmm 0 0) s m args c0 cX6_addFour 3 RX6 E A 0 0) (hr : meth.sig.returnType = none) (hk : meth.locks = false) (h1 : r32 x1)   : ∀ (n : Nat) (x2 : Int) (I : Mm), rgM I → r32 x2 → L_Ta_addFour_3 x1 Q n x2 I → WI p l e (rmm 0 0) s m args below meth c0 E A 3 0 0 (qV below E A args s Q) I 3 [(0, .ref (eA E 33)), (1, .int (i2 x1)), (2, .int (i2 x2))] [] := by
  intro n
  induction n with
  | zero => intro x2 I _ _ v; exact absurd v id
  | succ n ih =>
    intro x2 I hI h2 v
    unfold L_Ta_addFour_3 at v
    refine r_iload_n B dX6_addFour_3 rfl rfl ?_
    refine r_if_lt B (tgt := 46) dX6_addFour_4 (by decide) h2 (fun h => ?_) (fun h => ?_)
    · have v := v.1 h
      exact r_vret B hr hk hI v dX6_addFour_46
    · have v := v.2 h
      refine r_aload_n B dX6_addFour_7 rfl rfl ?_
      refine r_getI B (C := RX6) (T := TX6) (N := 2) o_33 0 rfl win_X6 (by decide) rfl wf_X6_15 dX6_addFour_8 (jj := 0) rfl ?_
      refine r_sipush B dX6_addFour_11 (by decide) ?_
      refine r_icmp_ge B (tgt := 46) dX6_addFour_14 (by decide) ((hI _ _)) ((rg_lit (by decide) (by decide))) (fun h => ?_) (fun h => ?_)
      · have v := v.1 h
        exact r_vret B hr hk hI v dX6_addFour_46
      · have v := v.2 h
        refine r_aload_n B dX6_addFour_17 rfl rfl ?_
        refine r_getR B (C := RX6) (T := TX6) (N := 2) o_33 1 rfl win_X6 (by decide) rfl wf_X6_9 dX6_addFour_18 ?_
        refine r_aload_n B dX6_addFour_21 rfl rfl ?_
        refine r_getI B (C := RX6) (T := TX6) (N := 2) o_33 0 rfl win_X6 (by decide) rfl wf_X6_15 dX6_addFour_22 (jj := 0) rfl ?_
        refine r_iload_n B dX6_addFour_25 rfl rfl ?_
        refine r_iload_n B dX6_addFour_26 rfl rfl ?_
        refine r_ishr B dX6_addFour_27 ?_
        refine r_i2b B dX6_addFour_28 ?_
        obtain ⟨h21, v⟩ := v
        refine r_bst B a_34 (by decide) h21 dX6_addFour_29 ?_
        have hI22 : rgM (wrM I 34 (I 33 0) (bByte (bShr x1 x2))) := rg_wr hI ((rg_byte _))
        refine r_aload_n B dX6_addFour_30 rfl rfl ?_
        refine r_dup B dX6_addFour_31 rfl ?_
        refine r_getI B (C := RX6) (T := TX6) (N := 2) o_33 0 rfl win_X6 (by decide) rfl wf_X6_15 dX6_addFour_32 (jj := 0) rfl ?_
        refine r_iconst B dX6_addFour_35 ?_
        refine r_iadd B dX6_addFour_36 ?_
        obtain ⟨h23, v⟩ := v
        refine r_putI B (C := RX6) (T := TX6) (N := 2) o_33 0 rfl win_X6 tyX6 tyX6_ok nmX6 (by decide) rfl rfl rfl wf_X6_15 dX6_addFour_37 (jj := 0) rfl ?_
        have hI24 : rgM (wrM ((wrM I 34 (I 33 0) (bByte (bShr x1 x2)))) 33 0 ((wrM I 34 (I 33 0) (bByte (bShr x1 x2))) 33 0 + 1)) := rg_wr hI22 h23
        refine r_iinc B (q := 2) dX6_addFour_40 (by decide) rfl (lv' := [(2, .int (i2 (x2 + (-8)))), (0, .ref (eA E 33)), (1, .int (i2 x1))]) rfl ?_
        refine r_sub [1, 2, 0] rfl ?_
        refine r_goto B (tgt := 3) dX6_addFour_43 (by decide) ?_
        obtain ⟨h25, v⟩ := v
        refine r_sub [0, 1, 2] rfl ?_
        exact ih (x2 + (-8)) _ hI24 h25 v
set_option maxHeartbeats 4000000 in
set_option maxRecDepth 100000 in
theorem c_Ta_addFour {l : Launch} {E : En} {A : Nat → Prop} (x1 : Int) (I : Mm)  (hI : rgM I) (h1 : r32 x1) : CV l E A yX6_addFour cX6_addFour 3 0 0 [.ref (eA E 33), .int (i2 x1)] I (V_Ta_addFour x1 I) := by
  intro Q v
  refine mk_met (own := RX6) (lv0 := [(0, .ref (eA E 33)), (1, .int (i2 x1))]) (by decide) rfl (Nat.le_of_ble_eq_true rfl) rfl (fun p e s m args below meth c0 B hr hk => ?_)
  unfold V_Ta_addFour at v
  refine r_bipush B dX6_addFour_0 (by decide) ?_
  refine r_istore_n B dX6_addFour_2 rfl (by decide) (lv' := [(2, .int (i2 24)), (0, .ref (eA E 33)), (1, .int (i2 x1))]) rfl ?_
  refine r_sub [1, 2, 0] rfl ?_
  obtain ⟨f26, v⟩ := v
  refine r_sub [0, 1, 2] rfl ?_
  exact wL_Ta_addFour_3 B hr hk h1 f26 24 I hI ((rg_lit (by decide) (by decide))) v
set_option maxHeartbeats 4000000 in
set_option maxRecDepth 100000 in
theorem c_X_feed {l : Launch} {E : En} {A : Nat → Prop} (x1 : Int) (x2 : Int) (x3 : Int) (x4 : Int) (x5 : Int) (I : Mm)  (hI : rgM I) (h1 : r32 x1) (h2 : r32 x2) (h3 : r32 x3) (h4 : r32 x4) (h5 : r32 x5) : CI l E A yX10_feed cX10_feed 6 .int 1 22 [.ref (eA E 0), .int (i2 x1), .int (i2 x2), .int (i2 x3), .int (i2 x4), .int (i2 x5)] I (V_X_feed x1 x2 x3 x4 x5 I) := by
  intro Q v
  refine mk_met (own := RX10) (lv0 := [(0, .ref (eA E 0)), (1, .int (i2 x1)), (2, .int (i2 x2)), (3, .int (i2 x3)), (4, .int (i2 x4)), (5, .int (i2 x5))]) (by decide) rfl (Nat.le_of_ble_eq_true rfl) rfl (fun p e s m args below meth c0 B hr hk => ?_)
  unfold V_X_feed at v
  refine r_aload_n B dX10_feed_0 rfl rfl ?_
  refine r_getR B (C := RX10) (T := TX10) (N := 11) o_0 2 rfl win_X10 (by decide) rfl wf_X10_22 dX10_feed_1 ?_
  refine r_getI B (C := RX6) (T := TX6) (N := 2) o_33 0 rfl win_X6 (by decide) rfl wf_X10_71 dX10_feed_4 (jj := 0) rfl ?_
  refine r_bipush B dX10_feed_7 (by decide) ?_
  refine r_iadd B dX10_feed_9 ?_
  refine r_sipush B dX10_feed_10 (by decide) ?_
  obtain ⟨h21, v⟩ := v
  refine r_icmp_le B (tgt := 18) dX10_feed_13 (by decide) h21 ((rg_lit (by decide) (by decide))) (fun h => ?_) (fun h => ?_)
  · have v := v.1 h
    refine r_aload_n B dX10_feed_18 rfl rfl ?_
    refine r_getR B (C := RX10) (T := TX10) (N := 11) o_0 2 rfl win_X10 (by decide) rfl wf_X10_22 dX10_feed_19 ?_
    refine r_iload_n B dX10_feed_22 rfl rfl ?_
    refine r_cV B (st := []) (as := [.int (i2 x1)]) (T := TX6) (N := 2) (c_Ta_addFour x1 _ hI h1) v o_33 rfl mw_Ta_addFour wl_X10_74 ⟨Nat.le_of_ble_eq_true rfl, Nat.le_of_ble_eq_true rfl⟩ rfl rfl (Nat.le_of_ble_eq_true rfl) dX10_feed_23 (fun I22 hI22 v => ?_)
    refine r_aload_n B dX10_feed_26 rfl rfl ?_
    refine r_getR B (C := RX10) (T := TX10) (N := 11) o_0 2 rfl win_X10 (by decide) rfl wf_X10_22 dX10_feed_27 ?_
    refine r_iload_n B dX10_feed_30 rfl rfl ?_
    refine r_cV B (st := []) (as := [.int (i2 x2)]) (T := TX6) (N := 2) (c_Ta_addFour x2 _ hI22 h2) v o_33 rfl mw_Ta_addFour wl_X10_74 ⟨Nat.le_of_ble_eq_true rfl, Nat.le_of_ble_eq_true rfl⟩ rfl rfl (Nat.le_of_ble_eq_true rfl) dX10_feed_31 (fun I23 hI23 v => ?_)
    refine r_aload_n B dX10_feed_34 rfl rfl ?_
    refine r_getR B (C := RX10) (T := TX10) (N := 11) o_0 2 rfl win_X10 (by decide) rfl wf_X10_22 dX10_feed_35 ?_
    refine r_iload_n B dX10_feed_38 rfl rfl ?_
    refine r_cV B (st := []) (as := [.int (i2 x3)]) (T := TX6) (N := 2) (c_Ta_addFour x3 _ hI23 h3) v o_33 rfl mw_Ta_addFour wl_X10_74 ⟨Nat.le_of_ble_eq_true rfl, Nat.le_of_ble_eq_true rfl⟩ rfl rfl (Nat.le_of_ble_eq_true rfl) dX10_feed_39 (fun I24 hI24 v => ?_)
    refine r_aload_n B dX10_feed_42 rfl rfl ?_
    refine r_getR B (C := RX10) (T := TX10) (N := 11) o_0 2 rfl win_X10 (by decide) rfl wf_X10_22 dX10_feed_43 ?_
    refine r_iload B dX10_feed_46 rfl ?_
    refine r_cV B (st := []) (as := [.int (i2 x4)]) (T := TX6) (N := 2) (c_Ta_addFour x4 _ hI24 h4) v o_33 rfl mw_Ta_addFour wl_X10_74 ⟨Nat.le_of_ble_eq_true rfl, Nat.le_of_ble_eq_true rfl⟩ rfl rfl (Nat.le_of_ble_eq_true rfl) dX10_feed_48 (fun I25 hI25 v => ?_)
    refine r_aload_n B dX10_feed_51 rfl rfl ?_
    refine r_getR B (C := RX10) (T := TX10) (N := 11) o_0 2 rfl win_X10 (by decide) rfl wf_X10_22 dX10_feed_52 ?_
    refine r_iload B dX10_feed_55 rfl ?_
    refine r_cV B (st := []) (as := [.int (i2 x5)]) (T := TX6) (N := 2) (c_Ta_addFour x5 _ hI25 h5) v o_33 rfl mw_Ta_addFour wl_X10_74 ⟨Nat.le_of_ble_eq_true rfl, Nat.le_of_ble_eq_true rfl⟩ rfl rfl (Nat.le_of_ble_eq_true rfl) dX10_feed_57 (fun I26 hI26 v => ?_)
    refine r_aload_n B dX10_feed_60 rfl rfl ?_
    refine r_getR B (C := RX10) (T := TX10) (N := 11) o_0 2 rfl win_X10 (by decide) rfl wf_X10_22 dX10_feed_61 ?_
    refine r_getI B (C := RX6) (T := TX6) (N := 2) o_33 0 rfl win_X6 (by decide) rfl wf_X10_71 dX10_feed_64 (jj := 0) rfl ?_
    exact r_iret B hr hk rfl ((hI26 _ _)) hI26 v dX10_feed_67
  · have v := v.2 h
    refine r_iconst B dX10_feed_16 ?_
    exact r_iret B hr hk rfl ((rg_lit (by decide) (by decide))) hI v dX10_feed_17
set_option maxHeartbeats 4000000 in
set_option maxRecDepth 100000 in
theorem c_X_end {l : Launch} {E : En} {A : Nat → Prop} (x1 : Int) (I : Mm)  (hI : rgM I) (h1 : r32 x1) : CI l E A yX10_end cX10_end 2 .int 0 0 [.ref (eA E 0), .int (i2 x1)] I (V_X_end x1 I) := by
  intro Q v
  refine mk_met (own := RX10) (lv0 := [(0, .ref (eA E 0)), (1, .int (i2 x1))]) (by decide) rfl (Nat.le_of_ble_eq_true rfl) rfl (fun p e s m args below meth c0 B hr hk => ?_)
  unfold V_X_end at v
  refine r_iload_n B dX10_end_0 rfl rfl ?_
  refine r_if_lt B (tgt := 15) dX10_end_1 (by decide) h1 (fun h => ?_) (fun h => ?_)
  · have v := v.1 h
    refine r_iconst B dX10_end_15 ?_
    exact r_iret B hr hk rfl ((rg_lit (by decide) (by decide))) hI v dX10_end_16
  · have v := v.2 h
    refine r_iload_n B dX10_end_4 rfl rfl ?_
    refine r_aload_n B dX10_end_5 rfl rfl ?_
    refine r_getR B (C := RX10) (T := TX10) (N := 11) o_0 2 rfl win_X10 (by decide) rfl wf_X10_22 dX10_end_6 ?_
    refine r_getI B (C := RX6) (T := TX6) (N := 2) o_33 0 rfl win_X6 (by decide) rfl wf_X10_71 dX10_end_9 (jj := 0) rfl ?_
    refine r_icmp_le B (tgt := 17) dX10_end_12 (by decide) h1 ((hI _ _)) (fun h => ?_) (fun h => ?_)
    · have v := v.1 h
      refine r_aload_n B dX10_end_17 rfl rfl ?_
      refine r_getR B (C := RX10) (T := TX10) (N := 11) o_0 2 rfl win_X10 (by decide) rfl wf_X10_22 dX10_end_18 ?_
      refine r_iload_n B dX10_end_21 rfl rfl ?_
      refine r_putI B (C := RX6) (T := TX6) (N := 2) o_33 0 rfl win_X6 tyX6 tyX6_ok nmX6 (by decide) rfl rfl rfl wf_X10_71 dX10_end_22 (jj := 0) rfl ?_
      have hI21 : rgM (wrM I 33 0 x1) := rg_wr hI h1
      refine r_iload_n B dX10_end_25 rfl rfl ?_
      exact r_iret B hr hk rfl h1 hI21 v dX10_end_26
    · have v := v.2 h
      refine r_iconst B dX10_end_15 ?_
      exact r_iret B hr hk rfl ((rg_lit (by decide) (by decide))) hI v dX10_end_16
set_option maxHeartbeats 4000000 in
set_option maxRecDepth 100000 in
theorem c_Lo_empty {l : Launch} {E : En} {A : Nat → Prop} (c : Int) (I : Mm) (hc : isLo c) (hI : rgM I)  : CV l E A yX2_empty cX2_empty 1 0 0 [.ref (eA E c)] I (V_Lo_empty c I) := by
  intro Q v
  refine mk_met (own := RX2) (lv0 := [(0, .ref (eA E c))]) (by decide) rfl (Nat.le_of_ble_eq_true rfl) rfl (fun p e s m args below meth c0 B hr hk => ?_)
  unfold V_Lo_empty at v
  refine r_aload_n B dX2_empty_0 rfl rfl ?_
  refine r_iconst B dX2_empty_1 ?_
  refine r_putI B (C := RX2) (T := TX2) (N := 3) (hc.1) 0 rfl win_X2 tyX2 tyX2_ok nmX2 (by decide) rfl rfl rfl wf_X2_19 dX2_empty_2 (jj := 0) rfl ?_
  have hI21 : rgM (wrM I c 0 0) := rg_wr hI ((rg_lit (by decide) (by decide)))
  refine r_aload_n B dX2_empty_5 rfl rfl ?_
  refine r_iconst B dX2_empty_6 ?_
  refine r_putI B (C := RX2) (T := TX2) (N := 3) (hc.1) 1 rfl win_X2 tyX2 tyX2_ok nmX2 (by decide) rfl rfl rfl wf_X2_15 dX2_empty_7 (jj := 1) rfl ?_
  have hI22 : rgM (wrM ((wrM I c 0 0)) c 1 0) := rg_wr hI21 ((rg_lit (by decide) (by decide)))
  exact r_vret B hr hk hI22 v dX2_empty_10
set_option maxHeartbeats 4000000 in
set_option maxRecDepth 100000 in
theorem wL_Ca_reset_33 {p : Program} {l : Launch} {e : Env} {s : State} {m : MethodId} {args : Array Value} {below : List Frame} {meth : Method} {c0 : Code} {E : En} {A : Nat → Prop} {c : Int} {Q : Mm → Prop}  (B : Bd p (rmm 1 20) s m args c0 cX0_reset 2 RX0 E A 0 0) (hr : meth.sig.returnType = none) (hk : meth.locks = false) (hc : isCa c)   : ∀ (n : Nat) (x1 : Int) (I : Mm), rgM I → r32 x1 → L_Ca_reset_33 c Q n x1 I → WI p l e (rmm 1 20) s m args below meth c0 E A 2 0 0 (qV below E A args s Q) I 33 [(0, .ref (eA E c)), (1, .int (i2 x1))] [] := by
  intro n
  induction n with
  | zero => intro x1 I _ _ v; exact absurd v id
  | succ n ih =>
    intro x1 I hI h1 v
    unfold L_Ca_reset_33 at v
    refine r_iload_n B dX0_reset_33 rfl rfl ?_
    refine r_bipush B dX0_reset_34 (by decide) ?_
    refine r_icmp_ge B (tgt := 52) dX0_reset_36 (by decide) h1 ((rg_lit (by decide) (by decide))) (fun h => ?_) (fun h => ?_)
    · have v := v.1 h
      refine r_aload_n B dX0_reset_52 rfl rfl ?_
      refine r_iconst B dX0_reset_53 ?_
      refine r_putI B (C := RX0) (T := TX0) (N := 9) (hc.1) 5 rfl win_X0 tyX0 tyX0_ok nmX0 (by decide) rfl rfl rfl wf_X0_43 dX0_reset_54 (jj := 5) rfl ?_
      have hI25 : rgM (wrM I c 5 4) := rg_wr hI ((rg_lit (by decide) (by decide)))
      refine r_aload_n B dX0_reset_57 rfl rfl ?_
      refine r_bipush B dX0_reset_58 (by decide) ?_
      refine r_putI B (C := RX0) (T := TX0) (N := 9) (hc.1) 6 rfl win_X0 tyX0 tyX0_ok nmX0 (by decide) rfl rfl rfl wf_X0_47 dX0_reset_60 (jj := 6) rfl ?_
      have hI26 : rgM (wrM ((wrM I c 5 4)) c 6 10) := rg_wr hI25 ((rg_lit (by decide) (by decide)))
      refine r_aload_n B dX0_reset_63 rfl rfl ?_
      refine r_iconst B dX0_reset_64 ?_
      refine r_putI B (C := RX0) (T := TX0) (N := 9) (hc.1) 7 rfl win_X0 tyX0 tyX0_ok nmX0 (by decide) rfl rfl rfl wf_X0_58 dX0_reset_65 (jj := 7) rfl ?_
      have hI27 : rgM (wrM ((wrM ((wrM I c 5 4)) c 6 10)) c 7 0) := rg_wr hI26 ((rg_lit (by decide) (by decide)))
      refine r_aload_n B dX0_reset_68 rfl rfl ?_
      refine r_iconst B dX0_reset_69 ?_
      refine r_putI B (C := RX0) (T := TX0) (N := 9) (hc.1) 8 rfl win_X0 tyX0 tyX0_ok nmX0 (by decide) rfl rfl rfl wf_X0_61 dX0_reset_70 (jj := 8) rfl ?_
      have hI28 : rgM (wrM ((wrM ((wrM ((wrM I c 5 4)) c 6 10)) c 7 0)) c 8 0) := rg_wr hI27 ((rg_lit (by decide) (by decide)))
      exact r_vret B hr hk hI28 v dX0_reset_73
    · have v := v.2 h
      refine r_aload_n B dX0_reset_39 rfl rfl ?_
      refine r_getR B (C := RX0) (T := TX0) (N := 9) (hc.1) 4 rfl win_X0 (by decide) rfl wf_X0_39 dX0_reset_40 ?_
      refine r_iload_n B dX0_reset_43 rfl rfl ?_
      refine r_iconst B dX0_reset_44 ?_
      obtain ⟨h29, v⟩ := v
      refine r_ast B (hc.2.2.2.2.2) (by decide) h29 dX0_reset_45 ?_
      have hI30 : rgM (wrM I (c + 15) x1 0) := rg_wr hI ((rg_lit (by decide) (by decide)))
      refine r_iinc B (q := 1) dX0_reset_46 (by decide) rfl (lv' := [(1, .int (i2 (x1 + 1))), (0, .ref (eA E c))]) rfl ?_
      refine r_sub [1, 0] rfl ?_
      refine r_goto B (tgt := 33) dX0_reset_49 (by decide) ?_
      obtain ⟨h31, v⟩ := v
      refine r_sub [0, 1] rfl ?_
      exact ih (x1 + 1) _ hI30 h31 v
set_option maxHeartbeats 4000000 in
set_option maxRecDepth 100000 in
theorem c_Ca_reset {l : Launch} {E : En} {A : Nat → Prop} (c : Int) (I : Mm) (hc : isCa c) (hI : rgM I)  : CV l E A yX0_reset cX0_reset 2 1 20 [.ref (eA E c)] I (V_Ca_reset c I) := by
  intro Q v
  refine mk_met (own := RX0) (lv0 := [(0, .ref (eA E c))]) (by decide) rfl (Nat.le_of_ble_eq_true rfl) rfl (fun p e s m args below meth c0 B hr hk => ?_)
  unfold V_Ca_reset at v
  refine r_aload_n B dX0_reset_0 rfl rfl ?_
  refine r_getR B (C := RX0) (T := TX0) (N := 9) (hc.1) 0 rfl win_X0 (by decide) rfl wf_X0_12 dX0_reset_1 ?_
  refine r_iconst B dX0_reset_4 ?_
  refine r_putI B (C := RX3) (T := TX3) (N := 4) (hc.2.1.1) 0 rfl win_X3 tyX3 tyX3_ok nmX3 (by decide) rfl rfl rfl wf_X0_50 dX0_reset_5 (jj := 0) rfl ?_
  have hI21 : rgM (wrM I (c + 1) 0 0) := rg_wr hI ((rg_lit (by decide) (by decide)))
  refine r_aload_n B dX0_reset_8 rfl rfl ?_
  refine r_getR B (C := RX0) (T := TX0) (N := 9) (hc.1) 1 rfl win_X0 (by decide) rfl wf_X0_21 dX0_reset_9 ?_
  refine r_iconst B dX0_reset_12 ?_
  refine r_putI B (C := RX8) (T := TX8) (N := 4) (hc.2.2.1.1) 0 rfl win_X8 tyX8 tyX8_ok nmX8 (by decide) rfl rfl rfl wf_X0_53 dX0_reset_13 (jj := 0) rfl ?_
  have hI22 : rgM (wrM ((wrM I (c + 1) 0 0)) (c + 5) 0 0) := rg_wr hI21 ((rg_lit (by decide) (by decide)))
  refine r_aload_n B dX0_reset_16 rfl rfl ?_
  refine r_getR B (C := RX0) (T := TX0) (N := 9) (hc.1) 2 rfl win_X0 (by decide) rfl wf_X0_28 dX0_reset_17 ?_
  refine r_iconst B dX0_reset_20 ?_
  refine r_putI B (C := RX5) (T := TX5) (N := 4) (hc.2.2.2.1.1) 0 rfl win_X5 tyX5 tyX5_ok nmX5 (by decide) rfl rfl rfl wf_X0_54 dX0_reset_21 (jj := 0) rfl ?_
  have hI23 : rgM (wrM ((wrM ((wrM I (c + 1) 0 0)) (c + 5) 0 0)) (c + 9) 0 0) := rg_wr hI22 ((rg_lit (by decide) (by decide)))
  refine r_aload_n B dX0_reset_24 rfl rfl ?_
  refine r_getR B (C := RX0) (T := TX0) (N := 9) (hc.1) 3 rfl win_X0 (by decide) rfl wf_X0_35 dX0_reset_25 ?_
  refine r_cV B (st := []) (as := []) (T := TX2) (N := 3) (c_Lo_empty (c + 13) _ (hc.2.2.2.2.1) hI23 ) v (hc.2.2.2.2.1.1) rfl mw_Lo_empty wl_X0_55 ⟨Nat.le_of_ble_eq_true rfl, Nat.le_of_ble_eq_true rfl⟩ rfl rfl (Nat.le_of_ble_eq_true rfl) dX0_reset_28 (fun I24 hI24 v => ?_)
  refine r_iconst B dX0_reset_31 ?_
  refine r_istore_n B dX0_reset_32 rfl (by decide) (lv' := [(1, .int (i2 0)), (0, .ref (eA E c))]) rfl ?_
  refine r_sub [1, 0] rfl ?_
  obtain ⟨f32, v⟩ := v
  refine r_sub [0, 1] rfl ?_
  exact wL_Ca_reset_33 B hr hk hc f32 0 I24 hI24 ((rg_lit (by decide) (by decide))) v
set_option maxHeartbeats 4000000 in
set_option maxRecDepth 100000 in
theorem c_Ta_at {l : Launch} {E : En} {A : Nat → Prop} (x1 : Int) (I : Mm)  (hI : rgM I) (h1 : r32 x1) : CI l E A yX6_at cX6_at 2 .int 0 0 [.ref (eA E 33), .int (i2 x1)] I (V_Ta_at x1 I) := by
  intro Q v
  refine mk_met (own := RX6) (lv0 := [(0, .ref (eA E 33)), (1, .int (i2 x1))]) (by decide) rfl (Nat.le_of_ble_eq_true rfl) rfl (fun p e s m args below meth c0 B hr hk => ?_)
  unfold V_Ta_at at v
  refine r_iload_n B dX6_at_0 rfl rfl ?_
  refine r_if_lt B (tgt := 12) dX6_at_1 (by decide) h1 (fun h => ?_) (fun h => ?_)
  · have v := v.1 h
    refine r_iconst B dX6_at_12 ?_
    refine r_goto B (tgt := 26) dX6_at_13 (by decide) ?_
    exact r_iret B hr hk rfl ((rg_lit (by decide) (by decide))) hI v dX6_at_26
  · have v := v.2 h
    refine r_iload_n B dX6_at_4 rfl rfl ?_
    refine r_aload_n B dX6_at_5 rfl rfl ?_
    refine r_getI B (C := RX6) (T := TX6) (N := 2) o_33 0 rfl win_X6 (by decide) rfl wf_X6_15 dX6_at_6 (jj := 0) rfl ?_
    refine r_icmp_lt B (tgt := 16) dX6_at_9 (by decide) h1 ((hI _ _)) (fun h => ?_) (fun h => ?_)
    · have v := v.1 h
      refine r_aload_n B dX6_at_16 rfl rfl ?_
      refine r_getR B (C := RX6) (T := TX6) (N := 2) o_33 1 rfl win_X6 (by decide) rfl wf_X6_9 dX6_at_17 ?_
      refine r_iload_n B dX6_at_20 rfl rfl ?_
      obtain ⟨h21, v⟩ := v
      refine r_bld B a_34 (by decide) h21 dX6_at_21 ?_
      refine r_sipush B dX6_at_22 (by decide) ?_
      refine r_iand B dX6_at_25 ?_
      exact r_iret B hr hk rfl ((rg_and _ _)) hI v dX6_at_26
    · have v := v.2 h
      refine r_iconst B dX6_at_12 ?_
      refine r_goto B (tgt := 26) dX6_at_13 (by decide) ?_
      exact r_iret B hr hk rfl ((rg_lit (by decide) (by decide))) hI v dX6_at_26
set_option maxHeartbeats 4000000 in
set_option maxRecDepth 100000 in
theorem wL_Re_skipBlanks_0 {p : Program} {l : Launch} {e : Env} {s : State} {m : MethodId} {args : Array Value} {below : List Frame} {meth : Method} {c0 : Code} {E : En} {A : Nat → Prop}  {Q : Mm → Prop}  (B : Bd p (rmm 1 21) s m args c0 cX4_skipBlanks 1 RX4 E A 0 0) (hr : meth.sig.returnType = none) (hk : meth.locks = false)    : ∀ (n : Nat) (I : Mm), rgM I → L_Re_skipBlanks_0 Q n I → WI p l e (rmm 1 21) s m args below meth c0 E A 1 0 0 (qV below E A args s Q) I 0 [(0, .ref (eA E 35))] [] := by
  intro n
  induction n with
  | zero => intro  I _  v; exact absurd v id
  | succ n ih =>
    intro  I hI  v
    unfold L_Re_skipBlanks_0 at v
    refine r_aload_n B dX4_skipBlanks_0 rfl rfl ?_
    refine r_getI B (C := RX4) (T := TX4) (N := 4) o_35 2 rfl win_X4 (by decide) rfl wf_X4_24 dX4_skipBlanks_1 (jj := 2) rfl ?_
    refine r_aload_n B dX4_skipBlanks_4 rfl rfl ?_
    refine r_getR B (C := RX4) (T := TX4) (N := 4) o_35 0 rfl win_X4 (by decide) rfl wf_X4_9 dX4_skipBlanks_5 ?_
    refine r_getI B (C := RX6) (T := TX6) (N := 2) o_33 0 rfl win_X6 (by decide) rfl wf_X4_37 dX4_skipBlanks_8 (jj := 0) rfl ?_
    refine r_icmp_ge B (tgt := 43) dX4_skipBlanks_11 (by decide) ((hI _ _)) ((hI _ _)) (fun h => ?_) (fun h => ?_)
    · have v := v.1 h
      exact r_vret B hr hk hI v dX4_skipBlanks_43
    · have v := v.2 h
      refine r_aload_n B dX4_skipBlanks_14 rfl rfl ?_
      refine r_getR B (C := RX4) (T := TX4) (N := 4) o_35 0 rfl win_X4 (by decide) rfl wf_X4_9 dX4_skipBlanks_15 ?_
      refine r_aload_n B dX4_skipBlanks_18 rfl rfl ?_
      refine r_getI B (C := RX4) (T := TX4) (N := 4) o_35 2 rfl win_X4 (by decide) rfl wf_X4_24 dX4_skipBlanks_19 (jj := 2) rfl ?_
      refine r_cI B (st := []) (as := [.int (i2 (I 35 2))]) (T := TX6) (N := 2) (c_Ta_at (I 35 2) _ hI ((hI _ _))) v o_33 rfl mw_Ta_at wl_X4_42 ⟨Nat.le_of_ble_eq_true rfl, Nat.le_of_ble_eq_true rfl⟩ rfl rfl (Nat.le_of_ble_eq_true rfl) dX4_skipBlanks_22 (fun z21 I22 hz21 hI22 v => ?_)
      refine r_bipush B dX4_skipBlanks_25 (by decide) ?_
      refine r_icmp_ne B (tgt := 43) dX4_skipBlanks_27 (by decide) hz21 ((rg_lit (by decide) (by decide))) (fun h => ?_) (fun h => ?_)
      · have v := v.1 h
        exact r_vret B hr hk hI22 v dX4_skipBlanks_43
      · have v := v.2 h
        refine r_aload_n B dX4_skipBlanks_30 rfl rfl ?_
        refine r_dup B dX4_skipBlanks_31 rfl ?_
        refine r_getI B (C := RX4) (T := TX4) (N := 4) o_35 2 rfl win_X4 (by decide) rfl wf_X4_24 dX4_skipBlanks_32 (jj := 2) rfl ?_
        refine r_iconst B dX4_skipBlanks_35 ?_
        refine r_iadd B dX4_skipBlanks_36 ?_
        obtain ⟨h23, v⟩ := v
        refine r_putI B (C := RX4) (T := TX4) (N := 4) o_35 2 rfl win_X4 tyX4 tyX4_ok nmX4 (by decide) rfl rfl rfl wf_X4_24 dX4_skipBlanks_37 (jj := 2) rfl ?_
        have hI24 : rgM (wrM I22 35 2 (I22 35 2 + 1)) := rg_wr hI22 h23
        refine r_goto B (tgt := 0) dX4_skipBlanks_40 (by decide) ?_
        refine r_sub [0] rfl ?_
        exact ih _ hI24 v
set_option maxHeartbeats 4000000 in
set_option maxRecDepth 100000 in
theorem c_Re_skipBlanks {l : Launch} {E : En} {A : Nat → Prop}  (I : Mm)  (hI : rgM I)  : CV l E A yX4_skipBlanks cX4_skipBlanks 1 1 21 [.ref (eA E 35)] I (V_Re_skipBlanks  I) := by
  intro Q v
  refine mk_met (own := RX4) (lv0 := [(0, .ref (eA E 35))]) (by decide) rfl (Nat.le_of_ble_eq_true rfl) rfl (fun p e s m args below meth c0 B hr hk => ?_)
  unfold V_Re_skipBlanks at v
  obtain ⟨f25, v⟩ := v
  refine r_sub [0] rfl ?_
  exact wL_Re_skipBlanks_0 B hr hk f25 I hI v
set_option maxHeartbeats 4000000 in
set_option maxRecDepth 100000 in
theorem c_X_isLetter {l : Launch} {E : En} {A : Nat → Prop} (x0 : Int) (I : Mm)  (hI : rgM I) (h0 : r32 x0) : CI l E A yX10_isLetter cX10_isLetter 1 .boolean 0 0 [.int (i2 x0)] I (V_X_isLetter x0 I) := by
  intro Q v
  refine mk_met (own := RX10) (lv0 := [(0, .int (i2 x0))]) (by decide) rfl (Nat.le_of_ble_eq_true rfl) rfl (fun p e s m args below meth c0 B hr hk => ?_)
  unfold V_X_isLetter at v
  refine r_iload_n B dX10_isLetter_0 rfl rfl ?_
  refine r_bipush B dX10_isLetter_1 (by decide) ?_
  refine r_icmp_lt B (tgt := 16) dX10_isLetter_3 (by decide) h0 ((rg_lit (by decide) (by decide))) (fun h => ?_) (fun h => ?_)
  · have v := v.1 h
    refine r_iconst B dX10_isLetter_16 ?_
    exact r_iret B hr hk rfl ((rg_lit (by decide) (by decide))) hI v dX10_isLetter_17
  · have v := v.2 h
    refine r_iload_n B dX10_isLetter_6 rfl rfl ?_
    refine r_bipush B dX10_isLetter_7 (by decide) ?_
    refine r_icmp_gt B (tgt := 16) dX10_isLetter_9 (by decide) h0 ((rg_lit (by decide) (by decide))) (fun h => ?_) (fun h => ?_)
    · have v := v.1 h
      refine r_iconst B dX10_isLetter_16 ?_
      exact r_iret B hr hk rfl ((rg_lit (by decide) (by decide))) hI v dX10_isLetter_17
    · have v := v.2 h
      refine r_iconst B dX10_isLetter_12 ?_
      refine r_goto B (tgt := 17) dX10_isLetter_13 (by decide) ?_
      exact r_iret B hr hk rfl ((rg_lit (by decide) (by decide))) hI v dX10_isLetter_17
set_option maxHeartbeats 4000000 in
set_option maxRecDepth 100000 in
theorem wL_Re_passes_2 {p : Program} {l : Launch} {e : Env} {s : State} {m : MethodId} {args : Array Value} {below : List Frame} {meth : Method} {c0 : Code} {E : En} {A : Nat → Prop} {w1 : Nat} {Q : Int → Mm → Prop} {K39 : Mm → Prop} (B : Bd p (rmm 4 120) s m args c0 cX4_passes 3 RX4 E A 0 0) (hr : meth.sig.returnType = some .boolean) (hk : meth.locks = false) (hw1 : w1 < slen.length)  (k39 : ∀ (I : Mm), rgM I → K39 I → WI p l e (rmm 4 120) s m args below meth c0 E A 3 0 0 (qI below E A args s Q) I 39 [(0, .ref (eA E 35)), (1, .ref (eS E w1))] []) : ∀ (n : Nat) (x2 : Int) (I : Mm), rgM I → r32 x2 → L_Re_passes_2 w1 Q K39 n x2 I → WI p l e (rmm 4 120) s m args below meth c0 E A 3 0 0 (qI below E A args s Q) I 2 [(0, .ref (eA E 35)), (1, .ref (eS E w1)), (2, .int (i2 x2))] [] := by
  intro n
  induction n with
  | zero => intro x2 I _ _ v; exact absurd v id
  | succ n ih =>
    intro x2 I hI h2 v
    unfold L_Re_passes_2 at v
    refine r_iload_n B dX4_passes_2 rfl rfl ?_
    refine r_aload_n B dX4_passes_3 rfl rfl ?_
    refine r_strlen B hw1 hI ⟨Nat.le_of_ble_eq_true rfl, Nat.le_of_ble_eq_true rfl⟩ (Nat.le_of_ble_eq_true rfl) wl_X4_160 dX4_passes_4 ?_
    refine r_icmp_ge B (tgt := 39) dX4_passes_7 (by decide) h2 ((rg_slen hw1)) (fun h => ?_) (fun h => ?_)
    · have v := v.1 h
      refine r_sub [0, 1] rfl ?_
      exact k39 _ hI v
    · have v := v.2 h
      refine r_aload_n B dX4_passes_10 rfl rfl ?_
      refine r_getR B (C := RX4) (T := TX4) (N := 4) o_35 0 rfl win_X4 (by decide) rfl wf_X4_9 dX4_passes_11 ?_
      refine r_aload_n B dX4_passes_14 rfl rfl ?_
      refine r_getI B (C := RX4) (T := TX4) (N := 4) o_35 2 rfl win_X4 (by decide) rfl wf_X4_24 dX4_passes_15 (jj := 2) rfl ?_
      refine r_iload_n B dX4_passes_18 rfl rfl ?_
      refine r_iadd B dX4_passes_19 ?_
      obtain ⟨h22, v⟩ := v
      refine r_cI B (st := []) (as := [.int (i2 (I 35 2 + x2))]) (T := TX6) (N := 2) (c_Ta_at (I 35 2 + x2) _ hI h22) v o_33 rfl mw_Ta_at wl_X4_42 ⟨Nat.le_of_ble_eq_true rfl, Nat.le_of_ble_eq_true rfl⟩ rfl rfl (Nat.le_of_ble_eq_true rfl) dX4_passes_20 (fun z23 I24 hz23 hI24 v => ?_)
      refine r_aload_n B dX4_passes_23 rfl rfl ?_
      refine r_iload_n B dX4_passes_24 rfl rfl ?_
      obtain ⟨h25, v⟩ := v
      refine r_strchr B hw1 hI24 h2 h25 ⟨Nat.le_of_ble_eq_true rfl, Nat.le_of_ble_eq_true rfl⟩ (Nat.le_of_ble_eq_true rfl) wl_X4_164 dX4_passes_25 ?_
      refine r_icmp_eq B (tgt := 33) dX4_passes_28 (by decide) hz23 ((rg_sch _ _)) (fun h => ?_) (fun h => ?_)
      · have v := v.1 h
        refine r_iinc B (q := 2) dX4_passes_33 (by decide) rfl (lv' := [(2, .int (i2 (x2 + 1))), (0, .ref (eA E 35)), (1, .ref (eS E w1))]) rfl ?_
        refine r_sub [1, 2, 0] rfl ?_
        refine r_goto B (tgt := 2) dX4_passes_36 (by decide) ?_
        obtain ⟨h26, v⟩ := v
        refine r_sub [0, 1, 2] rfl ?_
        exact ih (x2 + 1) _ hI24 h26 v
      · have v := v.2 h
        refine r_iconst B dX4_passes_31 ?_
        exact r_iret B hr hk rfl ((rg_lit (by decide) (by decide))) hI24 v dX4_passes_32
set_option maxHeartbeats 4000000 in
set_option maxRecDepth 100000 in
theorem c_Re_passes {l : Launch} {E : En} {A : Nat → Prop} (w1 : Nat) (I : Mm) (hw1 : w1 < slen.length) (hI : rgM I)  : CI l E A yX4_passes cX4_passes 3 .boolean 4 120 [.ref (eA E 35), .ref (eS E w1)] I (V_Re_passes w1 I) := by
  intro Q v
  refine mk_met (own := RX4) (lv0 := [(0, .ref (eA E 35)), (1, .ref (eS E w1))]) (by decide) rfl (Nat.le_of_ble_eq_true rfl) rfl (fun p e s m args below meth c0 B hr hk => ?_)
  unfold V_Re_passes at v
  refine r_iconst B dX4_passes_0 ?_
  refine r_istore_n B dX4_passes_1 rfl (by decide) (lv' := [(2, .int (i2 0)), (0, .ref (eA E 35)), (1, .ref (eS E w1))]) rfl ?_
  refine r_sub [1, 2, 0] rfl ?_
  obtain ⟨f37, v⟩ := v
  refine r_sub [0, 1, 2] rfl ?_
  refine wL_Re_passes_2 B hr hk hw1 (fun I27 hI27 v => ?_) f37 0 I hI ((rg_lit (by decide) (by decide))) v
  · refine r_aload_n B dX4_passes_39 rfl rfl ?_
    refine r_getR B (C := RX4) (T := TX4) (N := 4) o_35 0 rfl win_X4 (by decide) rfl wf_X4_9 dX4_passes_40 ?_
    refine r_aload_n B dX4_passes_43 rfl rfl ?_
    refine r_getI B (C := RX4) (T := TX4) (N := 4) o_35 2 rfl win_X4 (by decide) rfl wf_X4_24 dX4_passes_44 (jj := 2) rfl ?_
    refine r_aload_n B dX4_passes_47 rfl rfl ?_
    refine r_strlen B hw1 hI27 ⟨Nat.le_of_ble_eq_true rfl, Nat.le_of_ble_eq_true rfl⟩ (Nat.le_of_ble_eq_true rfl) wl_X4_160 dX4_passes_48 ?_
    refine r_iadd B dX4_passes_51 ?_
    obtain ⟨h29, v⟩ := v
    refine r_cI B (st := []) (as := [.int (i2 (I27 35 2 + slenI w1))]) (T := TX6) (N := 2) (c_Ta_at (I27 35 2 + slenI w1) _ hI27 h29) v o_33 rfl mw_Ta_at wl_X4_42 ⟨Nat.le_of_ble_eq_true rfl, Nat.le_of_ble_eq_true rfl⟩ rfl rfl (Nat.le_of_ble_eq_true rfl) dX4_passes_52 (fun z30 I31 hz30 hI31 v => ?_)
    refine r_nI B (st := []) (as := [.int (i2 z30)]) (host := "DayRows") (c_X_isLetter z30 _ hI31 hz30) v mw_X_isLetter (by decide) ⟨Nat.le_of_ble_eq_true rfl, Nat.le_of_ble_eq_true rfl⟩ rfl rfl (Nat.le_of_ble_eq_true rfl) dX4_passes_55 (fun z32 I33 hz32 hI33 v => ?_)
    refine r_if_eq B (tgt := 63) dX4_passes_58 (by decide) hz32 (fun h => ?_) (fun h => ?_)
    · have v := v.1 h
      refine r_aload_n B dX4_passes_63 rfl rfl ?_
      refine r_dup B dX4_passes_64 rfl ?_
      refine r_getI B (C := RX4) (T := TX4) (N := 4) o_35 2 rfl win_X4 (by decide) rfl wf_X4_24 dX4_passes_65 (jj := 2) rfl ?_
      refine r_aload_n B dX4_passes_68 rfl rfl ?_
      refine r_strlen B hw1 hI33 ⟨Nat.le_of_ble_eq_true rfl, Nat.le_of_ble_eq_true rfl⟩ (Nat.le_of_ble_eq_true rfl) wl_X4_160 dX4_passes_69 ?_
      refine r_iadd B dX4_passes_72 ?_
      obtain ⟨h35, v⟩ := v
      refine r_putI B (C := RX4) (T := TX4) (N := 4) o_35 2 rfl win_X4 tyX4 tyX4_ok nmX4 (by decide) rfl rfl rfl wf_X4_24 dX4_passes_73 (jj := 2) rfl ?_
      have hI36 : rgM (wrM I33 35 2 (I33 35 2 + slenI w1)) := rg_wr hI33 h35
      refine r_iconst B dX4_passes_76 ?_
      exact r_iret B hr hk rfl ((rg_lit (by decide) (by decide))) hI36 v dX4_passes_77
    · have v := v.2 h
      refine r_iconst B dX4_passes_61 ?_
      exact r_iret B hr hk rfl ((rg_lit (by decide) (by decide))) hI33 v dX4_passes_62
set_option maxHeartbeats 4000000 in
set_option maxRecDepth 100000 in
theorem c_X_isDigit {l : Launch} {E : En} {A : Nat → Prop} (x0 : Int) (I : Mm)  (hI : rgM I) (h0 : r32 x0) : CI l E A yX10_isDigit cX10_isDigit 1 .boolean 0 0 [.int (i2 x0)] I (V_X_isDigit x0 I) := by
  intro Q v
  refine mk_met (own := RX10) (lv0 := [(0, .int (i2 x0))]) (by decide) rfl (Nat.le_of_ble_eq_true rfl) rfl (fun p e s m args below meth c0 B hr hk => ?_)
  unfold V_X_isDigit at v
  refine r_iload_n B dX10_isDigit_0 rfl rfl ?_
  refine r_bipush B dX10_isDigit_1 (by decide) ?_
  refine r_icmp_lt B (tgt := 16) dX10_isDigit_3 (by decide) h0 ((rg_lit (by decide) (by decide))) (fun h => ?_) (fun h => ?_)
  · have v := v.1 h
    refine r_iconst B dX10_isDigit_16 ?_
    exact r_iret B hr hk rfl ((rg_lit (by decide) (by decide))) hI v dX10_isDigit_17
  · have v := v.2 h
    refine r_iload_n B dX10_isDigit_6 rfl rfl ?_
    refine r_bipush B dX10_isDigit_7 (by decide) ?_
    refine r_icmp_gt B (tgt := 16) dX10_isDigit_9 (by decide) h0 ((rg_lit (by decide) (by decide))) (fun h => ?_) (fun h => ?_)
    · have v := v.1 h
      refine r_iconst B dX10_isDigit_16 ?_
      exact r_iret B hr hk rfl ((rg_lit (by decide) (by decide))) hI v dX10_isDigit_17
    · have v := v.2 h
      refine r_iconst B dX10_isDigit_12 ?_
      refine r_goto B (tgt := 17) dX10_isDigit_13 (by decide) ?_
      exact r_iret B hr hk rfl ((rg_lit (by decide) (by decide))) hI v dX10_isDigit_17
set_option maxHeartbeats 4000000 in
set_option maxRecDepth 100000 in
theorem c_Re_fail {l : Launch} {E : En} {A : Nat → Prop} (x1 : Int) (x2 : Int) (I : Mm)  (hI : rgM I) (h1 : r32 x1) (h2 : r32 x2) : CV l E A yX4_fail cX4_fail 3 0 0 [.ref (eA E 35), .int (i2 x1), .int (i2 x2)] I (V_Re_fail x1 x2 I) := by
  intro Q v
  refine mk_met (own := RX4) (lv0 := [(0, .ref (eA E 35)), (1, .int (i2 x1)), (2, .int (i2 x2))]) (by decide) rfl (Nat.le_of_ble_eq_true rfl) rfl (fun p e s m args below meth c0 B hr hk => ?_)
  unfold V_Re_fail at v
  refine r_aload_n B dX4_fail_0 rfl rfl ?_
  refine r_getI B (C := RX4) (T := TX4) (N := 4) o_35 3 rfl win_X4 (by decide) rfl wf_X4_28 dX4_fail_1 (jj := 3) rfl ?_
  refine r_if_ne B (tgt := 17) dX4_fail_4 (by decide) ((hI _ _)) (fun h => ?_) (fun h => ?_)
  · have v := v.1 h
    exact r_vret B hr hk hI v dX4_fail_17
  · have v := v.2 h
    refine r_aload_n B dX4_fail_7 rfl rfl ?_
    refine r_bipush B dX4_fail_8 (by decide) ?_
    refine r_iload_n B dX4_fail_10 rfl rfl ?_
    refine r_imul B dX4_fail_11 ?_
    refine r_iload_n B dX4_fail_12 rfl rfl ?_
    refine r_iadd B dX4_fail_13 ?_
    obtain ⟨h21, v⟩ := v
    refine r_putI B (C := RX4) (T := TX4) (N := 4) o_35 3 rfl win_X4 tyX4 tyX4_ok nmX4 (by decide) rfl rfl rfl wf_X4_28 dX4_fail_14 (jj := 3) rfl ?_
    have hI22 : rgM (wrM I 35 3 ((8 * x1) + x2)) := rg_wr hI h21
    exact r_vret B hr hk hI22 v dX4_fail_17
set_option maxHeartbeats 4000000 in
set_option maxRecDepth 100000 in
theorem wL_Re_readNumber_12 {p : Program} {l : Launch} {e : Env} {s : State} {m : MethodId} {args : Array Value} {below : List Frame} {meth : Method} {c0 : Code} {E : En} {A : Nat → Prop} {x1 : Int} {x2 : Int} {x3 : Int} {Q : Int → Mm → Prop} {K90 : Int → Mm → Prop} (B : Bd p (rmm 2 41) s m args c0 cX4_readNumber 6 RX4 E A 0 0) (hr : meth.sig.returnType = some .int) (hk : meth.locks = false) (h1 : r32 x1) (h2 : r32 x2) (h3 : r32 x3) (k90 : ∀ (x4 : Int) (I : Mm), rgM I → K90 x4 I → WI p l e (rmm 2 41) s m args below meth c0 E A 6 0 0 (qI below E A args s Q) I 90 [(0, .ref (eA E 35)), (1, .int (i2 x1)), (2, .int (i2 x2)), (3, .int (i2 x3)), (4, .long (l2 x4))] []) : ∀ (n : Nat) (x4 : Int) (I : Mm), rgM I → L_Re_readNumber_12 x1 x2 x3 Q K90 n x4 I → WI p l e (rmm 2 41) s m args below meth c0 E A 6 0 0 (qI below E A args s Q) I 12 [(0, .ref (eA E 35)), (1, .int (i2 x1)), (2, .int (i2 x2)), (3, .int (i2 x3)), (4, .long (l2 x4))] [] := by
  intro n
  induction n with
  | zero => intro x4 I _  v; exact absurd v id
  | succ n ih =>
    intro x4 I hI  v
    unfold L_Re_readNumber_12 at v
    refine r_aload_n B dX4_readNumber_12 rfl rfl ?_
    refine r_getI B (C := RX4) (T := TX4) (N := 4) o_35 2 rfl win_X4 (by decide) rfl wf_X4_24 dX4_readNumber_13 (jj := 2) rfl ?_
    refine r_aload_n B dX4_readNumber_16 rfl rfl ?_
    refine r_getR B (C := RX4) (T := TX4) (N := 4) o_35 0 rfl win_X4 (by decide) rfl wf_X4_9 dX4_readNumber_17 ?_
    refine r_getI B (C := RX6) (T := TX6) (N := 2) o_33 0 rfl win_X6 (by decide) rfl wf_X4_37 dX4_readNumber_20 (jj := 0) rfl ?_
    refine r_icmp_ge B (tgt := 90) dX4_readNumber_23 (by decide) ((hI _ _)) ((hI _ _)) (fun h => ?_) (fun h => ?_)
    · have v := v.1 h
      refine r_sub [0, 1, 2, 3, 4] rfl ?_
      exact k90 x4 _ hI v
    · have v := v.2 h
      refine r_aload_n B dX4_readNumber_26 rfl rfl ?_
      refine r_getR B (C := RX4) (T := TX4) (N := 4) o_35 0 rfl win_X4 (by decide) rfl wf_X4_9 dX4_readNumber_27 ?_
      refine r_aload_n B dX4_readNumber_30 rfl rfl ?_
      refine r_getI B (C := RX4) (T := TX4) (N := 4) o_35 2 rfl win_X4 (by decide) rfl wf_X4_24 dX4_readNumber_31 (jj := 2) rfl ?_
      refine r_cI B (st := []) (as := [.int (i2 (I 35 2))]) (T := TX6) (N := 2) (c_Ta_at (I 35 2) _ hI ((hI _ _))) v o_33 rfl mw_Ta_at wl_X4_42 ⟨Nat.le_of_ble_eq_true rfl, Nat.le_of_ble_eq_true rfl⟩ rfl rfl (Nat.le_of_ble_eq_true rfl) dX4_readNumber_34 (fun z22 I23 hz22 hI23 v => ?_)
      refine r_nI B (st := []) (as := [.int (i2 z22)]) (host := "DayRows") (c_X_isDigit z22 _ hI23 hz22) v mw_X_isDigit (by decide) ⟨Nat.le_of_ble_eq_true rfl, Nat.le_of_ble_eq_true rfl⟩ rfl rfl (Nat.le_of_ble_eq_true rfl) dX4_readNumber_37 (fun z24 I25 hz24 hI25 v => ?_)
      refine r_if_eq B (tgt := 90) dX4_readNumber_40 (by decide) hz24 (fun h => ?_) (fun h => ?_)
      · have v := v.1 h
        refine r_sub [0, 1, 2, 3, 4] rfl ?_
        exact k90 x4 _ hI25 v
      · have v := v.2 h
        refine r_lload B dX4_readNumber_43 rfl ?_
        refine r_ldc2 B (999999999) dX4_readNumber_45 wc_X4_139 (by decide) ?_
        obtain ⟨h26, v⟩ := v
        refine r_lcmp_gt B (tgt := 77) dX4_readNumber_48 dX4_readNumber_49 (by decide) h26 ((show r64 (999999999) by exact ⟨by decide, by decide⟩)) (fun h => ?_) (fun h => ?_)
        · have v := v.1 h
          refine r_aload_n B dX4_readNumber_77 rfl rfl ?_
          refine r_dup B dX4_readNumber_78 rfl ?_
          refine r_getI B (C := RX4) (T := TX4) (N := 4) o_35 2 rfl win_X4 (by decide) rfl wf_X4_24 dX4_readNumber_79 (jj := 2) rfl ?_
          refine r_iconst B dX4_readNumber_82 ?_
          refine r_iadd B dX4_readNumber_83 ?_
          obtain ⟨h27, v⟩ := v
          refine r_putI B (C := RX4) (T := TX4) (N := 4) o_35 2 rfl win_X4 tyX4 tyX4_ok nmX4 (by decide) rfl rfl rfl wf_X4_24 dX4_readNumber_84 (jj := 2) rfl ?_
          have hI28 : rgM (wrM I25 35 2 (I25 35 2 + 1)) := rg_wr hI25 h27
          refine r_goto B (tgt := 12) dX4_readNumber_87 (by decide) ?_
          refine r_sub [0, 1, 2, 3, 4] rfl ?_
          exact ih x4 _ hI28 v
        · have v := v.2 h
          refine r_ldc2 B (10) dX4_readNumber_52 wc_X4_141 (by decide) ?_
          refine r_lload B dX4_readNumber_55 rfl ?_
          refine r_lmul B dX4_readNumber_57 ?_
          refine r_aload_n B dX4_readNumber_58 rfl rfl ?_
          refine r_getR B (C := RX4) (T := TX4) (N := 4) o_35 0 rfl win_X4 (by decide) rfl wf_X4_9 dX4_readNumber_59 ?_
          refine r_aload_n B dX4_readNumber_62 rfl rfl ?_
          refine r_getI B (C := RX4) (T := TX4) (N := 4) o_35 2 rfl win_X4 (by decide) rfl wf_X4_24 dX4_readNumber_63 (jj := 2) rfl ?_
          refine r_cI B (st := [.long (l2 (10 * x4))]) (as := [.int (i2 (I25 35 2))]) (T := TX6) (N := 2) (c_Ta_at (I25 35 2) _ hI25 ((hI25 _ _))) v o_33 rfl mw_Ta_at wl_X4_42 ⟨Nat.le_of_ble_eq_true rfl, Nat.le_of_ble_eq_true rfl⟩ rfl rfl (Nat.le_of_ble_eq_true rfl) dX4_readNumber_66 (fun z29 I30 hz29 hI30 v => ?_)
          refine r_i2l B dX4_readNumber_69 hz29 ?_
          refine r_ladd B dX4_readNumber_70 ?_
          refine r_ldc2 B (48) dX4_readNumber_71 wc_X4_143 (by decide) ?_
          refine r_lsub B dX4_readNumber_74 ?_
          refine r_lstore B dX4_readNumber_75 (by decide) (lv' := [(4, .long (l2 (((10 * x4) + z29) - 48))), (0, .ref (eA E 35)), (1, .int (i2 x1)), (2, .int (i2 x2)), (3, .int (i2 x3))]) rfl ?_
          refine r_sub [1, 2, 3, 4, 0] rfl ?_
          refine r_aload_n B dX4_readNumber_77 rfl rfl ?_
          refine r_dup B dX4_readNumber_78 rfl ?_
          refine r_getI B (C := RX4) (T := TX4) (N := 4) o_35 2 rfl win_X4 (by decide) rfl wf_X4_24 dX4_readNumber_79 (jj := 2) rfl ?_
          refine r_iconst B dX4_readNumber_82 ?_
          refine r_iadd B dX4_readNumber_83 ?_
          obtain ⟨h31, v⟩ := v
          refine r_putI B (C := RX4) (T := TX4) (N := 4) o_35 2 rfl win_X4 tyX4 tyX4_ok nmX4 (by decide) rfl rfl rfl wf_X4_24 dX4_readNumber_84 (jj := 2) rfl ?_
          have hI32 : rgM (wrM I30 35 2 (I30 35 2 + 1)) := rg_wr hI30 h31
          refine r_goto B (tgt := 12) dX4_readNumber_87 (by decide) ?_
          refine r_sub [0, 1, 2, 3, 4] rfl ?_
          exact ih (((10 * x4) + z29) - 48) _ hI32 v
set_option maxHeartbeats 4000000 in
set_option maxRecDepth 100000 in
theorem wJ_Re_readNumber_123 {p : Program} {l : Launch} {e : Env} {s : State} {m : MethodId} {args : Array Value} {below : List Frame} {meth : Method} {c0 : Code} {E : En} {A : Nat → Prop} {x1 : Int} {x2 : Int} {Q : Int → Mm → Prop}  (B : Bd p (rmm 2 41) s m args c0 cX4_readNumber 6 RX4 E A 0 0) (hr : meth.sig.returnType = some .int) (hk : meth.locks = false) (h1 : r32 x1) (h2 : r32 x2)   : ∀ (x3 : Int) (x4 : Int) (I : Mm), rgM I → r32 x3 → J_Re_readNumber_123 x1 x2 Q x3 x4 I → WI p l e (rmm 2 41) s m args below meth c0 E A 6 0 0 (qI below E A args s Q) I 123 [(0, .ref (eA E 35)), (1, .int (i2 x1)), (3, .int (i2 x3)), (4, .long (l2 x4))] [] := by
  intro x3 x4 I hI h3 v
  unfold J_Re_readNumber_123 at v
  refine r_aload_n B dX4_readNumber_123 rfl rfl ?_
  refine r_iload_n B dX4_readNumber_124 rfl rfl ?_
  refine r_iconst B dX4_readNumber_125 ?_
  refine r_cV B (st := []) (as := [.int (i2 x3), .int (i2 2)]) (T := TX4) (N := 4) (c_Re_fail x3 2 _ hI h3 ((rg_lit (by decide) (by decide)))) v o_35 rfl mw_Re_fail wl_X4_45 ⟨Nat.le_of_ble_eq_true rfl, Nat.le_of_ble_eq_true rfl⟩ rfl rfl (Nat.le_of_ble_eq_true rfl) dX4_readNumber_126 (fun I36 hI36 v => ?_)
  refine r_aload_n B dX4_readNumber_129 rfl rfl ?_
  refine r_getI B (C := RX4) (T := TX4) (N := 4) o_35 3 rfl win_X4 (by decide) rfl wf_X4_28 dX4_readNumber_130 (jj := 3) rfl ?_
  refine r_if_ne B (tgt := 142) dX4_readNumber_133 (by decide) ((hI36 _ _)) (fun h => ?_) (fun h => ?_)
  · have v := v.1 h
    refine r_iload_n B dX4_readNumber_142 rfl rfl ?_
    exact r_iret B hr hk rfl h1 hI36 v dX4_readNumber_143
  · have v := v.2 h
    refine r_lload B dX4_readNumber_136 rfl ?_
    refine r_l2i B dX4_readNumber_138 ?_
    refine r_goto B (tgt := 143) dX4_readNumber_139 (by decide) ?_
    obtain ⟨h37, v⟩ := v
    exact r_iret B hr hk rfl h37 hI36 v dX4_readNumber_143
set_option maxHeartbeats 4000000 in
set_option maxRecDepth 100000 in
theorem c_Re_readNumber {l : Launch} {E : En} {A : Nat → Prop} (x1 : Int) (x2 : Int) (I : Mm)  (hI : rgM I) (h1 : r32 x1) (h2 : r32 x2) : CI l E A yX4_readNumber cX4_readNumber 6 .int 2 41 [.ref (eA E 35), .int (i2 x1), .int (i2 x2)] I (V_Re_readNumber x1 x2 I) := by
  intro Q v
  refine mk_met (own := RX4) (lv0 := [(0, .ref (eA E 35)), (1, .int (i2 x1)), (2, .int (i2 x2))]) (by decide) rfl (Nat.le_of_ble_eq_true rfl) rfl (fun p e s m args below meth c0 B hr hk => ?_)
  unfold V_Re_readNumber at v
  refine r_aload_n B dX4_readNumber_0 rfl rfl ?_
  refine r_cV B (st := []) (as := []) (T := TX4) (N := 4) (c_Re_skipBlanks _ hI ) v o_35 rfl mw_Re_skipBlanks wl_X4_34 ⟨Nat.le_of_ble_eq_true rfl, Nat.le_of_ble_eq_true rfl⟩ rfl rfl (Nat.le_of_ble_eq_true rfl) dX4_readNumber_1 (fun I21 hI21 v => ?_)
  refine r_aload_n B dX4_readNumber_4 rfl rfl ?_
  refine r_getI B (C := RX4) (T := TX4) (N := 4) o_35 2 rfl win_X4 (by decide) rfl wf_X4_24 dX4_readNumber_5 (jj := 2) rfl ?_
  refine r_istore_n B dX4_readNumber_8 rfl (by decide) (lv' := [(3, .int (i2 (I21 35 2))), (0, .ref (eA E 35)), (1, .int (i2 x1)), (2, .int (i2 x2))]) rfl ?_
  refine r_sub [1, 2, 3, 0] rfl ?_
  refine r_lconst B 0 dX4_readNumber_9 (by decide) ?_
  refine r_lstore B dX4_readNumber_10 (by decide) (lv' := [(4, .long (l2 0)), (0, .ref (eA E 35)), (1, .int (i2 x1)), (2, .int (i2 x2)), (3, .int (i2 (I21 35 2)))]) rfl ?_
  refine r_sub [1, 2, 3, 4, 0] rfl ?_
  obtain ⟨f43, v⟩ := v
  refine r_sub [0, 1, 2, 3, 4] rfl ?_
  refine wL_Re_readNumber_12 B hr hk h1 h2 ((hI21 _ _)) (fun y33 I34 hI34 v => ?_) f43 0 I21 hI21 v
  · refine r_aload_n B dX4_readNumber_90 rfl rfl ?_
    refine r_getI B (C := RX4) (T := TX4) (N := 4) o_35 2 rfl win_X4 (by decide) rfl wf_X4_24 dX4_readNumber_91 (jj := 2) rfl ?_
    refine r_iload_n B dX4_readNumber_94 rfl rfl ?_
    refine r_icmp_ne B (tgt := 107) dX4_readNumber_95 (by decide) ((hI34 _ _)) ((hI21 _ _)) (fun h => ?_) (fun h => ?_)
    · have v := v.1 h
      refine r_lload B dX4_readNumber_107 rfl ?_
      refine r_iload_n B dX4_readNumber_109 rfl rfl ?_
      refine r_i2l B dX4_readNumber_110 h1 ?_
      obtain ⟨h35, v⟩ := v
      refine r_lcmp_lt B (tgt := 123) dX4_readNumber_111 dX4_readNumber_112 (by decide) h35 ((rg_64 h1)) (fun h => ?_) (fun h => ?_)
      · have v := v.1 h
        refine r_sub [0, 1, 3, 4] rfl ?_
        exact wJ_Re_readNumber_123 B hr hk h1 h2 (I21 35 2) y33 I34 hI34 ((hI21 _ _)) v
      · have v := v.2 h
        refine r_lload B dX4_readNumber_115 rfl ?_
        refine r_iload_n B dX4_readNumber_117 rfl rfl ?_
        refine r_i2l B dX4_readNumber_118 h2 ?_
        refine r_lcmp_le B (tgt := 129) dX4_readNumber_119 dX4_readNumber_120 (by decide) h35 ((rg_64 h2)) (fun h => ?_) (fun h => ?_)
        · have v := v.1 h
          refine r_aload_n B dX4_readNumber_129 rfl rfl ?_
          refine r_getI B (C := RX4) (T := TX4) (N := 4) o_35 3 rfl win_X4 (by decide) rfl wf_X4_28 dX4_readNumber_130 (jj := 3) rfl ?_
          refine r_if_ne B (tgt := 142) dX4_readNumber_133 (by decide) ((hI34 _ _)) (fun h => ?_) (fun h => ?_)
          · have v := v.1 h
            refine r_iload_n B dX4_readNumber_142 rfl rfl ?_
            exact r_iret B hr hk rfl h1 hI34 v dX4_readNumber_143
          · have v := v.2 h
            refine r_lload B dX4_readNumber_136 rfl ?_
            refine r_l2i B dX4_readNumber_138 ?_
            refine r_goto B (tgt := 143) dX4_readNumber_139 (by decide) ?_
            obtain ⟨h39, v⟩ := v
            exact r_iret B hr hk rfl h39 hI34 v dX4_readNumber_143
        · have v := v.2 h
          refine r_sub [0, 1, 3, 4] rfl ?_
          exact wJ_Re_readNumber_123 B hr hk h1 h2 (I21 35 2) y33 I34 hI34 ((hI21 _ _)) v
    · have v := v.2 h
      refine r_aload_n B dX4_readNumber_98 rfl rfl ?_
      refine r_iload_n B dX4_readNumber_99 rfl rfl ?_
      refine r_iconst B dX4_readNumber_100 ?_
      refine r_cV B (st := []) (as := [.int (i2 (I21 35 2)), .int (i2 1)]) (T := TX4) (N := 4) (c_Re_fail (I21 35 2) 1 _ hI34 ((hI21 _ _)) ((rg_lit (by decide) (by decide)))) v o_35 rfl mw_Re_fail wl_X4_45 ⟨Nat.le_of_ble_eq_true rfl, Nat.le_of_ble_eq_true rfl⟩ rfl rfl (Nat.le_of_ble_eq_true rfl) dX4_readNumber_101 (fun I41 hI41 v => ?_)
      refine r_goto B (tgt := 129) dX4_readNumber_104 (by decide) ?_
      refine r_aload_n B dX4_readNumber_129 rfl rfl ?_
      refine r_getI B (C := RX4) (T := TX4) (N := 4) o_35 3 rfl win_X4 (by decide) rfl wf_X4_28 dX4_readNumber_130 (jj := 3) rfl ?_
      refine r_if_ne B (tgt := 142) dX4_readNumber_133 (by decide) ((hI41 _ _)) (fun h => ?_) (fun h => ?_)
      · have v := v.1 h
        refine r_iload_n B dX4_readNumber_142 rfl rfl ?_
        exact r_iret B hr hk rfl h1 hI41 v dX4_readNumber_143
      · have v := v.2 h
        refine r_lload B dX4_readNumber_136 rfl ?_
        refine r_l2i B dX4_readNumber_138 ?_
        refine r_goto B (tgt := 143) dX4_readNumber_139 (by decide) ?_
        obtain ⟨h42, v⟩ := v
        exact r_iret B hr hk rfl h42 hI41 v dX4_readNumber_143
set_option maxHeartbeats 4000000 in
set_option maxRecDepth 100000 in
theorem c_X_isRows {l : Launch} {E : En} {A : Nat → Prop} (x0 : Int) (I : Mm)  (hI : rgM I) (h0 : r32 x0) : CI l E A yX10_isRows cX10_isRows 1 .boolean 1 20 [.int (i2 x0)] I (V_X_isRows x0 I) := by
  intro Q v
  refine mk_met (own := RX10) (lv0 := [(0, .int (i2 x0))]) (by decide) rfl (Nat.le_of_ble_eq_true rfl) rfl (fun p e s m args below meth c0 B hr hk => ?_)
  unfold V_X_isRows at v
  refine r_iload_n B dX10_isRows_0 rfl rfl ?_
  refine r_iconst B dX10_isRows_1 ?_
  refine r_icmp_lt B (tgt := 23) dX10_isRows_2 (by decide) h0 ((rg_lit (by decide) (by decide))) (fun h => ?_) (fun h => ?_)
  · have v := v.1 h
    refine r_iconst B dX10_isRows_23 ?_
    exact r_iret B hr hk rfl ((rg_lit (by decide) (by decide))) hI v dX10_isRows_24
  · have v := v.2 h
    refine r_iload_n B dX10_isRows_5 rfl rfl ?_
    refine r_bipush B dX10_isRows_6 (by decide) ?_
    refine r_icmp_gt B (tgt := 23) dX10_isRows_8 (by decide) h0 ((rg_lit (by decide) (by decide))) (fun h => ?_) (fun h => ?_)
    · have v := v.1 h
      refine r_iconst B dX10_isRows_23 ?_
      exact r_iret B hr hk rfl ((rg_lit (by decide) (by decide))) hI v dX10_isRows_24
    · have v := v.2 h
      refine r_iload_n B dX10_isRows_11 rfl rfl ?_
      refine r_sI B (st := []) (as := [.int (i2 x0)]) (c_bitCount x0 _ hI h0) v mw_bitCount wl_X10_366 ⟨Nat.le_of_ble_eq_true rfl, Nat.le_of_ble_eq_true rfl⟩ rfl rfl (Nat.le_of_ble_eq_true rfl) dX10_isRows_12 (fun z21 I22 hz21 hI22 v => ?_)
      refine r_iconst B dX10_isRows_15 ?_
      refine r_icmp_ne B (tgt := 23) dX10_isRows_16 (by decide) hz21 ((rg_lit (by decide) (by decide))) (fun h => ?_) (fun h => ?_)
      · have v := v.1 h
        refine r_iconst B dX10_isRows_23 ?_
        exact r_iret B hr hk rfl ((rg_lit (by decide) (by decide))) hI22 v dX10_isRows_24
      · have v := v.2 h
        refine r_iconst B dX10_isRows_19 ?_
        refine r_goto B (tgt := 24) dX10_isRows_20 (by decide) ?_
        exact r_iret B hr hk rfl ((rg_lit (by decide) (by decide))) hI22 v dX10_isRows_24
set_option maxHeartbeats 4000000 in
set_option maxRecDepth 100000 in
theorem c_Ca_lay {l : Launch} {E : En} {A : Nat → Prop} (c : Int) (x1 : Int) (x2 : Int) (I : Mm) (hc : isCa c) (hI : rgM I) (h1 : r32 x1) (h2 : r32 x2) : CV l E A yX0_lay cX0_lay 3 0 0 [.ref (eA E c), .int (i2 x1), .int (i2 x2)] I (V_Ca_lay c x1 x2 I) := by
  intro Q v
  refine mk_met (own := RX0) (lv0 := [(0, .ref (eA E c)), (1, .int (i2 x1)), (2, .int (i2 x2))]) (by decide) rfl (Nat.le_of_ble_eq_true rfl) rfl (fun p e s m args below meth c0 B hr hk => ?_)
  unfold V_Ca_lay at v
  refine r_aload_n B dX0_lay_0 rfl rfl ?_
  refine r_iload_n B dX0_lay_1 rfl rfl ?_
  refine r_putI B (C := RX0) (T := TX0) (N := 9) (hc.1) 5 rfl win_X0 tyX0 tyX0_ok nmX0 (by decide) rfl rfl rfl wf_X0_43 dX0_lay_2 (jj := 5) rfl ?_
  have hI21 : rgM (wrM I c 5 x1) := rg_wr hI h1
  refine r_aload_n B dX0_lay_5 rfl rfl ?_
  refine r_iload_n B dX0_lay_6 rfl rfl ?_
  refine r_putI B (C := RX0) (T := TX0) (N := 9) (hc.1) 6 rfl win_X0 tyX0 tyX0_ok nmX0 (by decide) rfl rfl rfl wf_X0_47 dX0_lay_7 (jj := 6) rfl ?_
  have hI22 : rgM (wrM ((wrM I c 5 x1)) c 6 x2) := rg_wr hI21 h2
  refine r_aload_n B dX0_lay_10 rfl rfl ?_
  refine r_getR B (C := RX0) (T := TX0) (N := 9) (hc.1) 4 rfl win_X0 (by decide) rfl wf_X0_39 dX0_lay_11 ?_
  refine r_iconst B dX0_lay_14 ?_
  refine r_dup2 B dX0_lay_15 rfl rfl ?_
  refine r_ald B (hc.2.2.2.2.2) (by decide) (by decide) dX0_lay_16 ?_
  refine r_aload_n B dX0_lay_17 rfl rfl ?_
  refine r_getR B (C := RX0) (T := TX0) (N := 9) (hc.1) 1 rfl win_X0 (by decide) rfl wf_X0_21 dX0_lay_18 ?_
  refine r_getI B (C := RX8) (T := TX8) (N := 4) (hc.2.2.1.1) 0 rfl win_X8 (by decide) rfl wf_X0_53 dX0_lay_21 (jj := 0) rfl ?_
  refine r_iadd B dX0_lay_24 ?_
  obtain ⟨h23, v⟩ := v
  refine r_ast B (hc.2.2.2.2.2) (by decide) (by decide) dX0_lay_25 ?_
  have hI24 : rgM (wrM ((wrM ((wrM I c 5 x1)) c 6 x2)) (c + 15) 1 ((wrM ((wrM I c 5 x1)) c 6 x2) (c + 15) 1 + (wrM ((wrM I c 5 x1)) c 6 x2) (c + 5) 0)) := rg_wr hI22 h23
  exact r_vret B hr hk hI24 v dX0_lay_26
set_option maxHeartbeats 4000000 in
set_option maxRecDepth 100000 in
theorem wJ_Re_readRows_30 {p : Program} {l : Launch} {e : Env} {s : State} {m : MethodId} {args : Array Value} {below : List Frame} {meth : Method} {c0 : Code} {E : En} {A : Nat → Prop}  {Q : Mm → Prop}  (B : Bd p (rmm 3 66) s m args c0 cX4_readRows 3 RX4 E A 0 0) (hr : meth.sig.returnType = none) (hk : meth.locks = false)    : ∀ (x2 : Int) (I : Mm), rgM I → r32 x2 → J_Re_readRows_30 Q x2 I → WI p l e (rmm 3 66) s m args below meth c0 E A 3 0 0 (qV below E A args s Q) I 30 [(0, .ref (eA E 35)), (2, .int (i2 x2))] [] := by
  intro x2 I hI h2 v
  unfold J_Re_readRows_30 at v
  refine r_aload_n B dX4_readRows_30 rfl rfl ?_
  refine r_getI B (C := RX4) (T := TX4) (N := 4) o_35 3 rfl win_X4 (by decide) rfl wf_X4_28 dX4_readRows_31 (jj := 3) rfl ?_
  refine r_if_ne B (tgt := 63) dX4_readRows_34 (by decide) ((hI _ _)) (fun h => ?_) (fun h => ?_)
  · have v := v.1 h
    exact r_vret B hr hk hI v dX4_readRows_63
  · have v := v.2 h
    refine r_iload_n B dX4_readRows_37 rfl rfl ?_
    refine r_aload_n B dX4_readRows_38 rfl rfl ?_
    refine r_getR B (C := RX4) (T := TX4) (N := 4) o_35 1 rfl win_X4 (by decide) rfl wf_X4_15 dX4_readRows_39 ?_
    refine r_getI B (C := RX0) (T := TX0) (N := 9) (ca_17.1) 5 rfl win_X0 (by decide) rfl wf_X4_86 dX4_readRows_42 (jj := 5) rfl ?_
    refine r_icmp_eq B (tgt := 63) dX4_readRows_45 (by decide) h2 ((hI _ _)) (fun h => ?_) (fun h => ?_)
    · have v := v.1 h
      exact r_vret B hr hk hI v dX4_readRows_63
    · have v := v.2 h
      refine r_aload_n B dX4_readRows_48 rfl rfl ?_
      refine r_getR B (C := RX4) (T := TX4) (N := 4) o_35 1 rfl win_X4 (by decide) rfl wf_X4_15 dX4_readRows_49 ?_
      refine r_iload_n B dX4_readRows_52 rfl rfl ?_
      refine r_aload_n B dX4_readRows_53 rfl rfl ?_
      refine r_getR B (C := RX4) (T := TX4) (N := 4) o_35 1 rfl win_X4 (by decide) rfl wf_X4_15 dX4_readRows_54 ?_
      refine r_getI B (C := RX0) (T := TX0) (N := 9) (ca_17.1) 6 rfl win_X0 (by decide) rfl wf_X4_88 dX4_readRows_57 (jj := 6) rfl ?_
      refine r_cV B (st := []) (as := [.int (i2 x2), .int (i2 (I 17 6))]) (T := TX0) (N := 9) (c_Ca_lay 17 x2 (I 17 6) _ ca_17 hI h2 ((hI _ _))) v (ca_17.1) rfl mw_Ca_lay wl_X4_91 ⟨Nat.le_of_ble_eq_true rfl, Nat.le_of_ble_eq_true rfl⟩ rfl rfl (Nat.le_of_ble_eq_true rfl) dX4_readRows_60 (fun I26 hI26 v => ?_)
      exact r_vret B hr hk hI26 v dX4_readRows_63
set_option maxHeartbeats 4000000 in
set_option maxRecDepth 100000 in
theorem c_Re_readRows {l : Launch} {E : En} {A : Nat → Prop}  (I : Mm)  (hI : rgM I)  : CV l E A yX4_readRows cX4_readRows 3 3 66 [.ref (eA E 35)] I (V_Re_readRows  I) := by
  intro Q v
  refine mk_met (own := RX4) (lv0 := [(0, .ref (eA E 35))]) (by decide) rfl (Nat.le_of_ble_eq_true rfl) rfl (fun p e s m args below meth c0 B hr hk => ?_)
  unfold V_Re_readRows at v
  refine r_aload_n B dX4_readRows_0 rfl rfl ?_
  refine r_cV B (st := []) (as := []) (T := TX4) (N := 4) (c_Re_skipBlanks _ hI ) v o_35 rfl mw_Re_skipBlanks wl_X4_34 ⟨Nat.le_of_ble_eq_true rfl, Nat.le_of_ble_eq_true rfl⟩ rfl rfl (Nat.le_of_ble_eq_true rfl) dX4_readRows_1 (fun I21 hI21 v => ?_)
  refine r_aload_n B dX4_readRows_4 rfl rfl ?_
  refine r_getI B (C := RX4) (T := TX4) (N := 4) o_35 2 rfl win_X4 (by decide) rfl wf_X4_24 dX4_readRows_5 (jj := 2) rfl ?_
  refine r_istore_n B dX4_readRows_8 rfl (by decide) (lv' := [(1, .int (i2 (I21 35 2))), (0, .ref (eA E 35))]) rfl ?_
  refine r_sub [1, 0] rfl ?_
  refine r_aload_n B dX4_readRows_9 rfl rfl ?_
  refine r_iconst B dX4_readRows_10 ?_
  refine r_bipush B dX4_readRows_11 (by decide) ?_
  refine r_cI B (st := []) (as := [.int (i2 2), .int (i2 64)]) (T := TX4) (N := 4) (c_Re_readNumber 2 64 _ hI21 ((rg_lit (by decide) (by decide))) ((rg_lit (by decide) (by decide)))) v o_35 rfl mw_Re_readNumber wl_X4_78 ⟨Nat.le_of_ble_eq_true rfl, Nat.le_of_ble_eq_true rfl⟩ rfl rfl (Nat.le_of_ble_eq_true rfl) dX4_readRows_13 (fun z22 I23 hz22 hI23 v => ?_)
  refine r_istore_n B dX4_readRows_16 rfl (by decide) (lv' := [(2, .int (i2 z22)), (0, .ref (eA E 35)), (1, .int (i2 (I21 35 2)))]) rfl ?_
  refine r_sub [1, 2, 0] rfl ?_
  refine r_iload_n B dX4_readRows_17 rfl rfl ?_
  refine r_nI B (st := []) (as := [.int (i2 z22)]) (host := "DayRows") (c_X_isRows z22 _ hI23 hz22) v mw_X_isRows (by decide) ⟨Nat.le_of_ble_eq_true rfl, Nat.le_of_ble_eq_true rfl⟩ rfl rfl (Nat.le_of_ble_eq_true rfl) dX4_readRows_18 (fun z24 I25 hz24 hI25 v => ?_)
  refine r_if_ne B (tgt := 30) dX4_readRows_21 (by decide) hz24 (fun h => ?_) (fun h => ?_)
  · have v := v.1 h
    refine r_sub [0, 2] rfl ?_
    exact wJ_Re_readRows_30 B hr hk z22 I25 hI25 hz22 v
  · have v := v.2 h
    refine r_aload_n B dX4_readRows_24 rfl rfl ?_
    refine r_iload_n B dX4_readRows_25 rfl rfl ?_
    refine r_iconst B dX4_readRows_26 ?_
    refine r_cV B (st := []) (as := [.int (i2 (I21 35 2)), .int (i2 2)]) (T := TX4) (N := 4) (c_Re_fail (I21 35 2) 2 _ hI25 ((hI21 _ _)) ((rg_lit (by decide) (by decide)))) v o_35 rfl mw_Re_fail wl_X4_45 ⟨Nat.le_of_ble_eq_true rfl, Nat.le_of_ble_eq_true rfl⟩ rfl rfl (Nat.le_of_ble_eq_true rfl) dX4_readRows_27 (fun I28 hI28 v => ?_)
    refine r_sub [0, 2] rfl ?_
    exact wJ_Re_readRows_30 B hr hk z22 I28 hI28 hz22 v
set_option maxHeartbeats 4000000 in
set_option maxRecDepth 100000 in
theorem c_Re_readWide {l : Launch} {E : En} {A : Nat → Prop}  (I : Mm)  (hI : rgM I)  : CV l E A yX4_readWide cX4_readWide 2 3 66 [.ref (eA E 35)] I (V_Re_readWide  I) := by
  intro Q v
  refine mk_met (own := RX4) (lv0 := [(0, .ref (eA E 35))]) (by decide) rfl (Nat.le_of_ble_eq_true rfl) rfl (fun p e s m args below meth c0 B hr hk => ?_)
  unfold V_Re_readWide at v
  refine r_aload_n B dX4_readWide_0 rfl rfl ?_
  refine r_iconst B dX4_readWide_1 ?_
  refine r_ldc B (99999999) dX4_readWide_2 wc_X4_94 (by decide) ?_
  refine r_cI B (st := []) (as := [.int (i2 1), .int (i2 99999999)]) (T := TX4) (N := 4) (c_Re_readNumber 1 99999999 _ hI ((rg_lit (by decide) (by decide))) ((rg_lit (by decide) (by decide)))) v o_35 rfl mw_Re_readNumber wl_X4_78 ⟨Nat.le_of_ble_eq_true rfl, Nat.le_of_ble_eq_true rfl⟩ rfl rfl (Nat.le_of_ble_eq_true rfl) dX4_readWide_4 (fun z21 I22 hz21 hI22 v => ?_)
  refine r_istore_n B dX4_readWide_7 rfl (by decide) (lv' := [(1, .int (i2 z21)), (0, .ref (eA E 35))]) rfl ?_
  refine r_sub [1, 0] rfl ?_
  refine r_aload_n B dX4_readWide_8 rfl rfl ?_
  refine r_getI B (C := RX4) (T := TX4) (N := 4) o_35 3 rfl win_X4 (by decide) rfl wf_X4_28 dX4_readWide_9 (jj := 3) rfl ?_
  refine r_if_ne B (tgt := 41) dX4_readWide_12 (by decide) ((hI22 _ _)) (fun h => ?_) (fun h => ?_)
  · have v := v.1 h
    exact r_vret B hr hk hI22 v dX4_readWide_41
  · have v := v.2 h
    refine r_iload_n B dX4_readWide_15 rfl rfl ?_
    refine r_aload_n B dX4_readWide_16 rfl rfl ?_
    refine r_getR B (C := RX4) (T := TX4) (N := 4) o_35 1 rfl win_X4 (by decide) rfl wf_X4_15 dX4_readWide_17 ?_
    refine r_getI B (C := RX0) (T := TX0) (N := 9) (ca_17.1) 6 rfl win_X0 (by decide) rfl wf_X4_88 dX4_readWide_20 (jj := 6) rfl ?_
    refine r_icmp_eq B (tgt := 41) dX4_readWide_23 (by decide) hz21 ((hI22 _ _)) (fun h => ?_) (fun h => ?_)
    · have v := v.1 h
      exact r_vret B hr hk hI22 v dX4_readWide_41
    · have v := v.2 h
      refine r_aload_n B dX4_readWide_26 rfl rfl ?_
      refine r_getR B (C := RX4) (T := TX4) (N := 4) o_35 1 rfl win_X4 (by decide) rfl wf_X4_15 dX4_readWide_27 ?_
      refine r_aload_n B dX4_readWide_30 rfl rfl ?_
      refine r_getR B (C := RX4) (T := TX4) (N := 4) o_35 1 rfl win_X4 (by decide) rfl wf_X4_15 dX4_readWide_31 ?_
      refine r_getI B (C := RX0) (T := TX0) (N := 9) (ca_17.1) 5 rfl win_X0 (by decide) rfl wf_X4_86 dX4_readWide_34 (jj := 5) rfl ?_
      refine r_iload_n B dX4_readWide_37 rfl rfl ?_
      refine r_cV B (st := []) (as := [.int (i2 (I22 17 5)), .int (i2 z21)]) (T := TX0) (N := 9) (c_Ca_lay 17 (I22 17 5) z21 _ ca_17 hI22 ((hI22 _ _)) hz21) v (ca_17.1) rfl mw_Ca_lay wl_X4_91 ⟨Nat.le_of_ble_eq_true rfl, Nat.le_of_ble_eq_true rfl⟩ rfl rfl (Nat.le_of_ble_eq_true rfl) dX4_readWide_38 (fun I23 hI23 v => ?_)
      exact r_vret B hr hk hI23 v dX4_readWide_41
set_option maxHeartbeats 4000000 in
set_option maxRecDepth 100000 in
theorem c_X_withLetter {l : Launch} {E : En} {A : Nat → Prop} (x0 : Int) (x1 : Int) (I : Mm)  (hI : rgM I) (h0 : r32 x0) (h1 : r32 x1) : CI l E A yX10_withLetter cX10_withLetter 2 .int 0 0 [.int (i2 x0), .int (i2 x1)] I (V_X_withLetter x0 x1 I) := by
  intro Q v
  refine mk_met (own := RX10) (lv0 := [(0, .int (i2 x0)), (1, .int (i2 x1))]) (by decide) rfl (Nat.le_of_ble_eq_true rfl) rfl (fun p e s m args below meth c0 B hr hk => ?_)
  unfold V_X_withLetter at v
  refine r_iload_n B dX10_withLetter_0 rfl rfl ?_
  refine r_iconst B dX10_withLetter_1 ?_
  refine r_ishl B dX10_withLetter_2 ?_
  refine r_iload_n B dX10_withLetter_3 rfl rfl ?_
  refine r_bipush B dX10_withLetter_4 (by decide) ?_
  refine r_isub B dX10_withLetter_6 ?_
  refine r_iconst B dX10_withLetter_7 ?_
  refine r_iadd B dX10_withLetter_8 ?_
  refine r_ior B dX10_withLetter_9 ?_
  exact r_iret B hr hk rfl ((rg_or _ _)) hI v dX10_withLetter_10
set_option maxHeartbeats 4000000 in
set_option maxRecDepth 100000 in
theorem wL_Nm_find_2 {p : Program} {l : Launch} {e : Env} {s : State} {m : MethodId} {args : Array Value} {below : List Frame} {meth : Method} {c0 : Code} {E : En} {A : Nat → Prop} {c : Int} {x1 : Int} {Q : Int → Mm → Prop}  (B : Bd p (rmm 0 0) s m args c0 cX3_find 3 RX3 E A 0 0) (hr : meth.sig.returnType = some .int) (hk : meth.locks = false) (hc : isNm c) (h1 : r32 x1)   : ∀ (n : Nat) (x2 : Int) (I : Mm), rgM I → r32 x2 → L_Nm_find_2 c x1 Q n x2 I → WI p l e (rmm 0 0) s m args below meth c0 E A 3 0 0 (qI below E A args s Q) I 2 [(0, .ref (eA E c)), (1, .int (i2 x1)), (2, .int (i2 x2))] [] := by
  intro n
  induction n with
  | zero => intro x2 I _ _ v; exact absurd v id
  | succ n ih =>
    intro x2 I hI h2 v
    unfold L_Nm_find_2 at v
    refine r_iload_n B dX3_find_2 rfl rfl ?_
    refine r_aload_n B dX3_find_3 rfl rfl ?_
    refine r_getI B (C := RX3) (T := TX3) (N := 4) (hc.1) 0 rfl win_X3 (by decide) rfl wf_X3_21 dX3_find_4 (jj := 0) rfl ?_
    refine r_icmp_ge B (tgt := 28) dX3_find_7 (by decide) h2 ((hI _ _)) (fun h => ?_) (fun h => ?_)
    · have v := v.1 h
      refine r_iconst B dX3_find_28 ?_
      exact r_iret B hr hk rfl ((rg_lit (by decide) (by decide))) hI v dX3_find_29
    · have v := v.2 h
      refine r_aload_n B dX3_find_10 rfl rfl ?_
      refine r_getR B (C := RX3) (T := TX3) (N := 4) (hc.1) 1 rfl win_X3 (by decide) rfl wf_X3_9 dX3_find_11 ?_
      refine r_iload_n B dX3_find_14 rfl rfl ?_
      obtain ⟨h21, v⟩ := v
      refine r_ald B (hc.2.1) (by decide) h21 dX3_find_15 ?_
      refine r_iload_n B dX3_find_16 rfl rfl ?_
      refine r_icmp_ne B (tgt := 22) dX3_find_17 (by decide) ((hI _ _)) h1 (fun h => ?_) (fun h => ?_)
      · have v := v.1 h
        refine r_iinc B (q := 2) dX3_find_22 (by decide) rfl (lv' := [(2, .int (i2 (x2 + 1))), (0, .ref (eA E c)), (1, .int (i2 x1))]) rfl ?_
        refine r_sub [1, 2, 0] rfl ?_
        refine r_goto B (tgt := 2) dX3_find_25 (by decide) ?_
        obtain ⟨h22, v⟩ := v
        refine r_sub [0, 1, 2] rfl ?_
        exact ih (x2 + 1) _ hI h22 v
      · have v := v.2 h
        refine r_iload_n B dX3_find_20 rfl rfl ?_
        exact r_iret B hr hk rfl h2 hI v dX3_find_21
set_option maxHeartbeats 4000000 in
set_option maxRecDepth 100000 in
theorem c_Nm_find {l : Launch} {E : En} {A : Nat → Prop} (c : Int) (x1 : Int) (I : Mm) (hc : isNm c) (hI : rgM I) (h1 : r32 x1) : CI l E A yX3_find cX3_find 3 .int 0 0 [.ref (eA E c), .int (i2 x1)] I (V_Nm_find c x1 I) := by
  intro Q v
  refine mk_met (own := RX3) (lv0 := [(0, .ref (eA E c)), (1, .int (i2 x1))]) (by decide) rfl (Nat.le_of_ble_eq_true rfl) rfl (fun p e s m args below meth c0 B hr hk => ?_)
  unfold V_Nm_find at v
  refine r_iconst B dX3_find_0 ?_
  refine r_istore_n B dX3_find_1 rfl (by decide) (lv' := [(2, .int (i2 0)), (0, .ref (eA E c)), (1, .int (i2 x1))]) rfl ?_
  refine r_sub [1, 2, 0] rfl ?_
  obtain ⟨f23, v⟩ := v
  refine r_sub [0, 1, 2] rfl ?_
  exact wL_Nm_find_2 B hr hk hc h1 f23 0 I hI ((rg_lit (by decide) (by decide))) v
set_option maxHeartbeats 4000000 in
set_option maxRecDepth 100000 in
theorem c_Nm_findOrAdd {l : Launch} {E : En} {A : Nat → Prop} (c : Int) (x1 : Int) (I : Mm) (hc : isNm c) (hI : rgM I) (h1 : r32 x1) : CI l E A yX3_findOrAdd cX3_findOrAdd 3 .int 1 22 [.ref (eA E c), .int (i2 x1)] I (V_Nm_findOrAdd c x1 I) := by
  intro Q v
  refine mk_met (own := RX3) (lv0 := [(0, .ref (eA E c)), (1, .int (i2 x1))]) (by decide) rfl (Nat.le_of_ble_eq_true rfl) rfl (fun p e s m args below meth c0 B hr hk => ?_)
  unfold V_Nm_findOrAdd at v
  refine r_aload_n B dX3_findOrAdd_0 rfl rfl ?_
  refine r_iload_n B dX3_findOrAdd_1 rfl rfl ?_
  refine r_cI B (st := []) (as := [.int (i2 x1)]) (T := TX3) (N := 4) (c_Nm_find c x1 _ hc hI h1) v (hc.1) rfl mw_Nm_find wl_X3_25 ⟨Nat.le_of_ble_eq_true rfl, Nat.le_of_ble_eq_true rfl⟩ rfl rfl (Nat.le_of_ble_eq_true rfl) dX3_findOrAdd_2 (fun z21 I22 hz21 hI22 v => ?_)
  refine r_istore_n B dX3_findOrAdd_5 rfl (by decide) (lv' := [(2, .int (i2 z21)), (0, .ref (eA E c)), (1, .int (i2 x1))]) rfl ?_
  refine r_sub [1, 2, 0] rfl ?_
  refine r_iload_n B dX3_findOrAdd_6 rfl rfl ?_
  refine r_iconst B dX3_findOrAdd_7 ?_
  refine r_icmp_ne B (tgt := 20) dX3_findOrAdd_8 (by decide) hz21 ((rg_lit (by decide) (by decide))) (fun h => ?_) (fun h => ?_)
  · have v := v.1 h
    refine r_iload_n B dX3_findOrAdd_20 rfl rfl ?_
    exact r_iret B hr hk rfl hz21 hI22 v dX3_findOrAdd_21
  · have v := v.2 h
    refine r_aload_n B dX3_findOrAdd_11 rfl rfl ?_
    refine r_getI B (C := RX3) (T := TX3) (N := 4) (hc.1) 0 rfl win_X3 (by decide) rfl wf_X3_21 dX3_findOrAdd_12 (jj := 0) rfl ?_
    refine r_bipush B dX3_findOrAdd_15 (by decide) ?_
    refine r_icmp_lt B (tgt := 22) dX3_findOrAdd_17 (by decide) ((hI22 _ _)) ((rg_lit (by decide) (by decide))) (fun h => ?_) (fun h => ?_)
    · have v := v.1 h
      refine r_aload_n B dX3_findOrAdd_22 rfl rfl ?_
      refine r_getR B (C := RX3) (T := TX3) (N := 4) (hc.1) 1 rfl win_X3 (by decide) rfl wf_X3_9 dX3_findOrAdd_23 ?_
      refine r_aload_n B dX3_findOrAdd_26 rfl rfl ?_
      refine r_getI B (C := RX3) (T := TX3) (N := 4) (hc.1) 0 rfl win_X3 (by decide) rfl wf_X3_21 dX3_findOrAdd_27 (jj := 0) rfl ?_
      refine r_iload_n B dX3_findOrAdd_30 rfl rfl ?_
      obtain ⟨h23, v⟩ := v
      refine r_ast B (hc.2.1) (by decide) h23 dX3_findOrAdd_31 ?_
      have hI24 : rgM (wrM I22 (c + 1) (I22 c 0) x1) := rg_wr hI22 h1
      refine r_aload_n B dX3_findOrAdd_32 rfl rfl ?_
      refine r_getR B (C := RX3) (T := TX3) (N := 4) (hc.1) 2 rfl win_X3 (by decide) rfl wf_X3_15 dX3_findOrAdd_33 ?_
      refine r_aload_n B dX3_findOrAdd_36 rfl rfl ?_
      refine r_getI B (C := RX3) (T := TX3) (N := 4) (hc.1) 0 rfl win_X3 (by decide) rfl wf_X3_21 dX3_findOrAdd_37 (jj := 0) rfl ?_
      refine r_iconst B dX3_findOrAdd_40 ?_
      obtain ⟨h25, v⟩ := v
      refine r_ast B (hc.2.2.1) (by decide) h25 dX3_findOrAdd_41 ?_
      have hI26 : rgM (wrM ((wrM I22 (c + 1) (I22 c 0) x1)) (c + 2) ((wrM I22 (c + 1) (I22 c 0) x1) c 0) 0) := rg_wr hI24 ((rg_lit (by decide) (by decide)))
      refine r_aload_n B dX3_findOrAdd_42 rfl rfl ?_
      refine r_getR B (C := RX3) (T := TX3) (N := 4) (hc.1) 3 rfl win_X3 (by decide) rfl wf_X3_18 dX3_findOrAdd_43 ?_
      refine r_aload_n B dX3_findOrAdd_46 rfl rfl ?_
      refine r_getI B (C := RX3) (T := TX3) (N := 4) (hc.1) 0 rfl win_X3 (by decide) rfl wf_X3_21 dX3_findOrAdd_47 (jj := 0) rfl ?_
      refine r_iconst B dX3_findOrAdd_50 ?_
      obtain ⟨h27, v⟩ := v
      refine r_ast B (hc.2.2.2) (by decide) h27 dX3_findOrAdd_51 ?_
      have hI28 : rgM (wrM ((wrM ((wrM I22 (c + 1) (I22 c 0) x1)) (c + 2) ((wrM I22 (c + 1) (I22 c 0) x1) c 0) 0)) (c + 3) ((wrM ((wrM I22 (c + 1) (I22 c 0) x1)) (c + 2) ((wrM I22 (c + 1) (I22 c 0) x1) c 0) 0) c 0) 0) := rg_wr hI26 ((rg_lit (by decide) (by decide)))
      refine r_aload_n B dX3_findOrAdd_52 rfl rfl ?_
      refine r_dup B dX3_findOrAdd_53 rfl ?_
      refine r_getI B (C := RX3) (T := TX3) (N := 4) (hc.1) 0 rfl win_X3 (by decide) rfl wf_X3_21 dX3_findOrAdd_54 (jj := 0) rfl ?_
      refine r_iconst B dX3_findOrAdd_57 ?_
      refine r_iadd B dX3_findOrAdd_58 ?_
      obtain ⟨h29, v⟩ := v
      refine r_putI B (C := RX3) (T := TX3) (N := 4) (hc.1) 0 rfl win_X3 tyX3 tyX3_ok nmX3 (by decide) rfl rfl rfl wf_X3_21 dX3_findOrAdd_59 (jj := 0) rfl ?_
      have hI30 : rgM (wrM ((wrM ((wrM ((wrM I22 (c + 1) (I22 c 0) x1)) (c + 2) ((wrM I22 (c + 1) (I22 c 0) x1) c 0) 0)) (c + 3) ((wrM ((wrM I22 (c + 1) (I22 c 0) x1)) (c + 2) ((wrM I22 (c + 1) (I22 c 0) x1) c 0) 0) c 0) 0)) c 0 ((wrM ((wrM ((wrM I22 (c + 1) (I22 c 0) x1)) (c + 2) ((wrM I22 (c + 1) (I22 c 0) x1) c 0) 0)) (c + 3) ((wrM ((wrM I22 (c + 1) (I22 c 0) x1)) (c + 2) ((wrM I22 (c + 1) (I22 c 0) x1) c 0) 0) c 0) 0) c 0 + 1)) := rg_wr hI28 h29
      refine r_aload_n B dX3_findOrAdd_62 rfl rfl ?_
      refine r_getI B (C := RX3) (T := TX3) (N := 4) (hc.1) 0 rfl win_X3 (by decide) rfl wf_X3_21 dX3_findOrAdd_63 (jj := 0) rfl ?_
      refine r_iconst B dX3_findOrAdd_66 ?_
      refine r_isub B dX3_findOrAdd_67 ?_
      obtain ⟨h31, v⟩ := v
      exact r_iret B hr hk rfl h31 hI30 v dX3_findOrAdd_68
    · have v := v.2 h
      refine r_iload_n B dX3_findOrAdd_20 rfl rfl ?_
      exact r_iret B hr hk rfl hz21 hI22 v dX3_findOrAdd_21
set_option maxHeartbeats 4000000 in
set_option maxRecDepth 100000 in
theorem wL_Re_readName_11 {p : Program} {l : Launch} {e : Env} {s : State} {m : MethodId} {args : Array Value} {below : List Frame} {meth : Method} {c0 : Code} {E : En} {A : Nat → Prop} {x1 : Int} {Q : Int → Mm → Prop} {K68 : Int → Mm → Prop} (B : Bd p (rmm 2 44) s m args c0 cX4_readName 4 RX4 E A 0 0) (hr : meth.sig.returnType = some .int) (hk : meth.locks = false)  (h1 : r32 x1) (k68 : ∀ (x2 : Int) (I : Mm), rgM I → r32 x2 → K68 x2 I → WI p l e (rmm 2 44) s m args below meth c0 E A 4 0 0 (qI below E A args s Q) I 68 [(0, .ref (eA E 35)), (1, .int (i2 x1)), (2, .int (i2 x2))] []) : ∀ (n : Nat) (x2 : Int) (I : Mm), rgM I → r32 x2 → L_Re_readName_11 x1 Q K68 n x2 I → WI p l e (rmm 2 44) s m args below meth c0 E A 4 0 0 (qI below E A args s Q) I 11 [(0, .ref (eA E 35)), (1, .int (i2 x1)), (2, .int (i2 x2))] [] := by
  intro n
  induction n with
  | zero => intro x2 I _ _ v; exact absurd v id
  | succ n ih =>
    intro x2 I hI h2 v
    unfold L_Re_readName_11 at v
    refine r_aload_n B dX4_readName_11 rfl rfl ?_
    refine r_getI B (C := RX4) (T := TX4) (N := 4) o_35 2 rfl win_X4 (by decide) rfl wf_X4_24 dX4_readName_12 (jj := 2) rfl ?_
    refine r_iload_n B dX4_readName_15 rfl rfl ?_
    refine r_bipush B dX4_readName_16 (by decide) ?_
    refine r_iadd B dX4_readName_18 ?_
    obtain ⟨h22, v⟩ := v
    refine r_icmp_ge B (tgt := 68) dX4_readName_19 (by decide) ((hI _ _)) h22 (fun h => ?_) (fun h => ?_)
    · have v := v.1 h
      refine r_sub [0, 1, 2] rfl ?_
      exact k68 x2 _ hI h2 v
    · have v := v.2 h
      refine r_aload_n B dX4_readName_22 rfl rfl ?_
      refine r_getR B (C := RX4) (T := TX4) (N := 4) o_35 0 rfl win_X4 (by decide) rfl wf_X4_9 dX4_readName_23 ?_
      refine r_aload_n B dX4_readName_26 rfl rfl ?_
      refine r_getI B (C := RX4) (T := TX4) (N := 4) o_35 2 rfl win_X4 (by decide) rfl wf_X4_24 dX4_readName_27 (jj := 2) rfl ?_
      refine r_cI B (st := []) (as := [.int (i2 (I 35 2))]) (T := TX6) (N := 2) (c_Ta_at (I 35 2) _ hI ((hI _ _))) v o_33 rfl mw_Ta_at wl_X4_42 ⟨Nat.le_of_ble_eq_true rfl, Nat.le_of_ble_eq_true rfl⟩ rfl rfl (Nat.le_of_ble_eq_true rfl) dX4_readName_30 (fun z23 I24 hz23 hI24 v => ?_)
      refine r_nI B (st := []) (as := [.int (i2 z23)]) (host := "DayRows") (c_X_isLetter z23 _ hI24 hz23) v mw_X_isLetter (by decide) ⟨Nat.le_of_ble_eq_true rfl, Nat.le_of_ble_eq_true rfl⟩ rfl rfl (Nat.le_of_ble_eq_true rfl) dX4_readName_33 (fun z25 I26 hz25 hI26 v => ?_)
      refine r_if_eq B (tgt := 68) dX4_readName_36 (by decide) hz25 (fun h => ?_) (fun h => ?_)
      · have v := v.1 h
        refine r_sub [0, 1, 2] rfl ?_
        exact k68 x2 _ hI26 h2 v
      · have v := v.2 h
        refine r_iload_n B dX4_readName_39 rfl rfl ?_
        refine r_aload_n B dX4_readName_40 rfl rfl ?_
        refine r_getR B (C := RX4) (T := TX4) (N := 4) o_35 0 rfl win_X4 (by decide) rfl wf_X4_9 dX4_readName_41 ?_
        refine r_aload_n B dX4_readName_44 rfl rfl ?_
        refine r_getI B (C := RX4) (T := TX4) (N := 4) o_35 2 rfl win_X4 (by decide) rfl wf_X4_24 dX4_readName_45 (jj := 2) rfl ?_
        refine r_cI B (st := [.int (i2 x2)]) (as := [.int (i2 (I26 35 2))]) (T := TX6) (N := 2) (c_Ta_at (I26 35 2) _ hI26 ((hI26 _ _))) v o_33 rfl mw_Ta_at wl_X4_42 ⟨Nat.le_of_ble_eq_true rfl, Nat.le_of_ble_eq_true rfl⟩ rfl rfl (Nat.le_of_ble_eq_true rfl) dX4_readName_48 (fun z27 I28 hz27 hI28 v => ?_)
        refine r_nI B (st := []) (as := [.int (i2 x2), .int (i2 z27)]) (host := "DayRows") (c_X_withLetter x2 z27 _ hI28 h2 hz27) v mw_X_withLetter (by decide) ⟨Nat.le_of_ble_eq_true rfl, Nat.le_of_ble_eq_true rfl⟩ rfl rfl (Nat.le_of_ble_eq_true rfl) dX4_readName_51 (fun z29 I30 hz29 hI30 v => ?_)
        refine r_istore_n B dX4_readName_54 rfl (by decide) (lv' := [(2, .int (i2 z29)), (0, .ref (eA E 35)), (1, .int (i2 x1))]) rfl ?_
        refine r_sub [1, 2, 0] rfl ?_
        refine r_aload_n B dX4_readName_55 rfl rfl ?_
        refine r_dup B dX4_readName_56 rfl ?_
        refine r_getI B (C := RX4) (T := TX4) (N := 4) o_35 2 rfl win_X4 (by decide) rfl wf_X4_24 dX4_readName_57 (jj := 2) rfl ?_
        refine r_iconst B dX4_readName_60 ?_
        refine r_iadd B dX4_readName_61 ?_
        obtain ⟨h31, v⟩ := v
        refine r_putI B (C := RX4) (T := TX4) (N := 4) o_35 2 rfl win_X4 tyX4 tyX4_ok nmX4 (by decide) rfl rfl rfl wf_X4_24 dX4_readName_62 (jj := 2) rfl ?_
        have hI32 : rgM (wrM I30 35 2 (I30 35 2 + 1)) := rg_wr hI30 h31
        refine r_goto B (tgt := 11) dX4_readName_65 (by decide) ?_
        refine r_sub [0, 1, 2] rfl ?_
        exact ih z29 _ hI32 hz29 v
set_option maxHeartbeats 4000000 in
set_option maxRecDepth 100000 in
theorem wJ_Re_readName_111 {p : Program} {l : Launch} {e : Env} {s : State} {m : MethodId} {args : Array Value} {below : List Frame} {meth : Method} {c0 : Code} {E : En} {A : Nat → Prop}  {Q : Int → Mm → Prop}  (B : Bd p (rmm 2 44) s m args c0 cX4_readName 4 RX4 E A 0 0) (hr : meth.sig.returnType = some .int) (hk : meth.locks = false)    : ∀ (x1 : Int) (x2 : Int) (I : Mm), rgM I → r32 x1 → r32 x2 → J_Re_readName_111 Q x1 x2 I → WI p l e (rmm 2 44) s m args below meth c0 E A 4 0 0 (qI below E A args s Q) I 111 [(0, .ref (eA E 35)), (1, .int (i2 x1)), (2, .int (i2 x2))] [] := by
  intro x1 x2 I hI h1 h2 v
  unfold J_Re_readName_111 at v
  refine r_aload_n B dX4_readName_111 rfl rfl ?_
  refine r_getI B (C := RX4) (T := TX4) (N := 4) o_35 3 rfl win_X4 (by decide) rfl wf_X4_28 dX4_readName_112 (jj := 3) rfl ?_
  refine r_if_eq B (tgt := 120) dX4_readName_115 (by decide) ((hI _ _)) (fun h => ?_) (fun h => ?_)
  · have v := v.1 h
    refine r_aload_n B dX4_readName_120 rfl rfl ?_
    refine r_getR B (C := RX4) (T := TX4) (N := 4) o_35 1 rfl win_X4 (by decide) rfl wf_X4_15 dX4_readName_121 ?_
    refine r_getR B (C := RX0) (T := TX0) (N := 9) (ca_17.1) 0 rfl win_X0 (by decide) rfl wf_X4_151 dX4_readName_124 ?_
    refine r_iload_n B dX4_readName_127 rfl rfl ?_
    refine r_cI B (st := []) (as := [.int (i2 x2)]) (T := TX3) (N := 4) (c_Nm_findOrAdd (17 + 1) x2 _ (ca_17.2.1) hI h2) v (ca_17.2.1.1) rfl mw_Nm_findOrAdd wl_X4_155 ⟨Nat.le_of_ble_eq_true rfl, Nat.le_of_ble_eq_true rfl⟩ rfl rfl (Nat.le_of_ble_eq_true rfl) dX4_readName_128 (fun z39 I40 hz39 hI40 v => ?_)
    refine r_istore_n B dX4_readName_131 rfl (by decide) (lv' := [(3, .int (i2 z39)), (0, .ref (eA E 35)), (1, .int (i2 x1)), (2, .int (i2 x2))]) rfl ?_
    refine r_sub [1, 2, 3, 0] rfl ?_
    refine r_iload_n B dX4_readName_132 rfl rfl ?_
    refine r_iconst B dX4_readName_133 ?_
    refine r_icmp_ne B (tgt := 145) dX4_readName_134 (by decide) hz39 ((rg_lit (by decide) (by decide))) (fun h => ?_) (fun h => ?_)
    · have v := v.1 h
      refine r_iload_n B dX4_readName_145 rfl rfl ?_
      exact r_iret B hr hk rfl hz39 hI40 v dX4_readName_146
    · have v := v.2 h
      refine r_aload_n B dX4_readName_137 rfl rfl ?_
      refine r_iload_n B dX4_readName_138 rfl rfl ?_
      refine r_iconst B dX4_readName_139 ?_
      refine r_cV B (st := []) (as := [.int (i2 x1), .int (i2 3)]) (T := TX4) (N := 4) (c_Re_fail x1 3 _ hI40 h1 ((rg_lit (by decide) (by decide)))) v o_35 rfl mw_Re_fail wl_X4_45 ⟨Nat.le_of_ble_eq_true rfl, Nat.le_of_ble_eq_true rfl⟩ rfl rfl (Nat.le_of_ble_eq_true rfl) dX4_readName_140 (fun I41 hI41 v => ?_)
      refine r_iconst B dX4_readName_143 ?_
      exact r_iret B hr hk rfl ((rg_lit (by decide) (by decide))) hI41 v dX4_readName_144
  · have v := v.2 h
    refine r_iconst B dX4_readName_118 ?_
    exact r_iret B hr hk rfl ((rg_lit (by decide) (by decide))) hI v dX4_readName_119
set_option maxHeartbeats 4000000 in
set_option maxRecDepth 100000 in
theorem c_Re_readName {l : Launch} {E : En} {A : Nat → Prop}  (I : Mm)  (hI : rgM I)  : CI l E A yX4_readName cX4_readName 4 .int 2 44 [.ref (eA E 35)] I (V_Re_readName  I) := by
  intro Q v
  refine mk_met (own := RX4) (lv0 := [(0, .ref (eA E 35))]) (by decide) rfl (Nat.le_of_ble_eq_true rfl) rfl (fun p e s m args below meth c0 B hr hk => ?_)
  unfold V_Re_readName at v
  refine r_aload_n B dX4_readName_0 rfl rfl ?_
  refine r_cV B (st := []) (as := []) (T := TX4) (N := 4) (c_Re_skipBlanks _ hI ) v o_35 rfl mw_Re_skipBlanks wl_X4_34 ⟨Nat.le_of_ble_eq_true rfl, Nat.le_of_ble_eq_true rfl⟩ rfl rfl (Nat.le_of_ble_eq_true rfl) dX4_readName_1 (fun I21 hI21 v => ?_)
  refine r_aload_n B dX4_readName_4 rfl rfl ?_
  refine r_getI B (C := RX4) (T := TX4) (N := 4) o_35 2 rfl win_X4 (by decide) rfl wf_X4_24 dX4_readName_5 (jj := 2) rfl ?_
  refine r_istore_n B dX4_readName_8 rfl (by decide) (lv' := [(1, .int (i2 (I21 35 2))), (0, .ref (eA E 35))]) rfl ?_
  refine r_sub [1, 0] rfl ?_
  refine r_iconst B dX4_readName_9 ?_
  refine r_istore_n B dX4_readName_10 rfl (by decide) (lv' := [(2, .int (i2 0)), (0, .ref (eA E 35)), (1, .int (i2 (I21 35 2)))]) rfl ?_
  refine r_sub [1, 2, 0] rfl ?_
  obtain ⟨f47, v⟩ := v
  refine r_sub [0, 1, 2] rfl ?_
  refine wL_Re_readName_11 B hr hk ((hI21 _ _)) (fun y33 I34 hI34 hy33 v => ?_) f47 0 I21 hI21 ((rg_lit (by decide) (by decide))) v
  · refine r_aload_n B dX4_readName_68 rfl rfl ?_
    refine r_getI B (C := RX4) (T := TX4) (N := 4) o_35 2 rfl win_X4 (by decide) rfl wf_X4_24 dX4_readName_69 (jj := 2) rfl ?_
    refine r_iload_n B dX4_readName_72 rfl rfl ?_
    refine r_icmp_ne B (tgt := 85) dX4_readName_73 (by decide) ((hI34 _ _)) ((hI21 _ _)) (fun h => ?_) (fun h => ?_)
    · have v := v.1 h
      refine r_aload_n B dX4_readName_85 rfl rfl ?_
      refine r_getR B (C := RX4) (T := TX4) (N := 4) o_35 0 rfl win_X4 (by decide) rfl wf_X4_9 dX4_readName_86 ?_
      refine r_aload_n B dX4_readName_89 rfl rfl ?_
      refine r_getI B (C := RX4) (T := TX4) (N := 4) o_35 2 rfl win_X4 (by decide) rfl wf_X4_24 dX4_readName_90 (jj := 2) rfl ?_
      refine r_cI B (st := []) (as := [.int (i2 (I34 35 2))]) (T := TX6) (N := 2) (c_Ta_at (I34 35 2) _ hI34 ((hI34 _ _))) v o_33 rfl mw_Ta_at wl_X4_42 ⟨Nat.le_of_ble_eq_true rfl, Nat.le_of_ble_eq_true rfl⟩ rfl rfl (Nat.le_of_ble_eq_true rfl) dX4_readName_93 (fun z35 I36 hz35 hI36 v => ?_)
      refine r_nI B (st := []) (as := [.int (i2 z35)]) (host := "DayRows") (c_X_isLetter z35 _ hI36 hz35) v mw_X_isLetter (by decide) ⟨Nat.le_of_ble_eq_true rfl, Nat.le_of_ble_eq_true rfl⟩ rfl rfl (Nat.le_of_ble_eq_true rfl) dX4_readName_96 (fun z37 I38 hz37 hI38 v => ?_)
      refine r_if_eq B (tgt := 111) dX4_readName_99 (by decide) hz37 (fun h => ?_) (fun h => ?_)
      · have v := v.1 h
        refine r_sub [0, 1, 2] rfl ?_
        exact wJ_Re_readName_111 B hr hk (I21 35 2) y33 I38 hI38 ((hI21 _ _)) hy33 v
      · have v := v.2 h
        refine r_aload_n B dX4_readName_102 rfl rfl ?_
        refine r_aload_n B dX4_readName_103 rfl rfl ?_
        refine r_getI B (C := RX4) (T := TX4) (N := 4) o_35 2 rfl win_X4 (by decide) rfl wf_X4_24 dX4_readName_104 (jj := 2) rfl ?_
        refine r_iconst B dX4_readName_107 ?_
        refine r_cV B (st := []) (as := [.int (i2 (I38 35 2)), .int (i2 2)]) (T := TX4) (N := 4) (c_Re_fail (I38 35 2) 2 _ hI38 ((hI38 _ _)) ((rg_lit (by decide) (by decide)))) v o_35 rfl mw_Re_fail wl_X4_45 ⟨Nat.le_of_ble_eq_true rfl, Nat.le_of_ble_eq_true rfl⟩ rfl rfl (Nat.le_of_ble_eq_true rfl) dX4_readName_108 (fun I43 hI43 v => ?_)
        refine r_sub [0, 1, 2] rfl ?_
        exact wJ_Re_readName_111 B hr hk (I21 35 2) y33 I43 hI43 ((hI21 _ _)) hy33 v
    · have v := v.2 h
      refine r_aload_n B dX4_readName_76 rfl rfl ?_
      refine r_iload_n B dX4_readName_77 rfl rfl ?_
      refine r_iconst B dX4_readName_78 ?_
      refine r_cV B (st := []) (as := [.int (i2 (I21 35 2)), .int (i2 1)]) (T := TX4) (N := 4) (c_Re_fail (I21 35 2) 1 _ hI34 ((hI21 _ _)) ((rg_lit (by decide) (by decide)))) v o_35 rfl mw_Re_fail wl_X4_45 ⟨Nat.le_of_ble_eq_true rfl, Nat.le_of_ble_eq_true rfl⟩ rfl rfl (Nat.le_of_ble_eq_true rfl) dX4_readName_79 (fun I45 hI45 v => ?_)
      refine r_goto B (tgt := 111) dX4_readName_82 (by decide) ?_
      refine r_sub [0, 1, 2] rfl ?_
      exact wJ_Re_readName_111 B hr hk (I21 35 2) y33 I45 hI45 ((hI21 _ _)) hy33 v
set_option maxHeartbeats 4000000 in
set_option maxRecDepth 100000 in
theorem c_Ca_hasRoomFor {l : Launch} {E : En} {A : Nat → Prop} (c : Int) (x1 : Int) (x2 : Int) (x3 : Int) (I : Mm) (hc : isCa c) (hI : rgM I) (h1 : r32 x1) (h2 : r32 x2) (h3 : r32 x3) : CI l E A yX0_hasRoomFor cX0_hasRoomFor 4 .boolean 0 0 [.ref (eA E c), .int (i2 x1), .int (i2 x2), .int (i2 x3)] I (V_Ca_hasRoomFor c x1 x2 x3 I) := by
  intro Q v
  refine mk_met (own := RX0) (lv0 := [(0, .ref (eA E c)), (1, .int (i2 x1)), (2, .int (i2 x2)), (3, .int (i2 x3))]) (by decide) rfl (Nat.le_of_ble_eq_true rfl) rfl (fun p e s m args below meth c0 B hr hk => ?_)
  unfold V_Ca_hasRoomFor at v
  refine r_aload_n B dX0_hasRoomFor_0 rfl rfl ?_
  refine r_getR B (C := RX0) (T := TX0) (N := 9) (hc.1) 1 rfl win_X0 (by decide) rfl wf_X0_21 dX0_hasRoomFor_1 ?_
  refine r_getI B (C := RX8) (T := TX8) (N := 4) (hc.2.2.1.1) 0 rfl win_X8 (by decide) rfl wf_X0_53 dX0_hasRoomFor_4 (jj := 0) rfl ?_
  refine r_iload_n B dX0_hasRoomFor_7 rfl rfl ?_
  refine r_iadd B dX0_hasRoomFor_8 ?_
  refine r_sipush B dX0_hasRoomFor_9 (by decide) ?_
  obtain ⟨h21, v⟩ := v
  refine r_icmp_gt B (tgt := 31) dX0_hasRoomFor_12 (by decide) h21 ((rg_lit (by decide) (by decide))) (fun h => ?_) (fun h => ?_)
  · have v := v.1 h
    refine r_iconst B dX0_hasRoomFor_31 ?_
    exact r_iret B hr hk rfl ((rg_lit (by decide) (by decide))) hI v dX0_hasRoomFor_32
  · have v := v.2 h
    refine r_iload_n B dX0_hasRoomFor_15 rfl rfl ?_
    refine r_iload_n B dX0_hasRoomFor_16 rfl rfl ?_
    refine r_iconst B dX0_hasRoomFor_17 ?_
    refine r_isub B dX0_hasRoomFor_18 ?_
    refine r_iload_n B dX0_hasRoomFor_19 rfl rfl ?_
    refine r_imul B dX0_hasRoomFor_20 ?_
    refine r_iadd B dX0_hasRoomFor_21 ?_
    refine r_ldc B (999999999) dX0_hasRoomFor_22 wc_X0_107 (by decide) ?_
    obtain ⟨h22, v⟩ := v
    refine r_icmp_gt B (tgt := 31) dX0_hasRoomFor_24 (by decide) h22 ((rg_lit (by decide) (by decide))) (fun h => ?_) (fun h => ?_)
    · have v := v.1 h
      refine r_iconst B dX0_hasRoomFor_31 ?_
      exact r_iret B hr hk rfl ((rg_lit (by decide) (by decide))) hI v dX0_hasRoomFor_32
    · have v := v.2 h
      refine r_iconst B dX0_hasRoomFor_27 ?_
      refine r_goto B (tgt := 32) dX0_hasRoomFor_28 (by decide) ?_
      exact r_iret B hr hk rfl ((rg_lit (by decide) (by decide))) hI v dX0_hasRoomFor_32
set_option maxHeartbeats 4000000 in
set_option maxRecDepth 100000 in
theorem c_Re_fits {l : Launch} {E : En} {A : Nat → Prop} (x1 : Int) (x2 : Int) (x3 : Int) (x4 : Int) (I : Mm)  (hI : rgM I) (h1 : r32 x1) (h2 : r32 x2) (h3 : r32 x3) (h4 : r32 x4) : CI l E A yX4_fits cX4_fits 5 .boolean 1 23 [.ref (eA E 35), .int (i2 x1), .int (i2 x2), .int (i2 x3), .int (i2 x4)] I (V_Re_fits x1 x2 x3 x4 I) := by
  intro Q v
  refine mk_met (own := RX4) (lv0 := [(0, .ref (eA E 35)), (1, .int (i2 x1)), (2, .int (i2 x2)), (3, .int (i2 x3)), (4, .int (i2 x4))]) (by decide) rfl (Nat.le_of_ble_eq_true rfl) rfl (fun p e s m args below meth c0 B hr hk => ?_)
  unfold V_Re_fits at v
  refine r_aload_n B dX4_fits_0 rfl rfl ?_
  refine r_getR B (C := RX4) (T := TX4) (N := 4) o_35 1 rfl win_X4 (by decide) rfl wf_X4_15 dX4_fits_1 ?_
  refine r_iload_n B dX4_fits_4 rfl rfl ?_
  refine r_iload_n B dX4_fits_5 rfl rfl ?_
  refine r_iload B dX4_fits_6 rfl ?_
  refine r_cI B (st := []) (as := [.int (i2 x2), .int (i2 x3), .int (i2 x4)]) (T := TX0) (N := 9) (c_Ca_hasRoomFor 17 x2 x3 x4 _ ca_17 hI h2 h3 h4) v (ca_17.1) rfl mw_Ca_hasRoomFor wl_X4_132 ⟨Nat.le_of_ble_eq_true rfl, Nat.le_of_ble_eq_true rfl⟩ rfl rfl (Nat.le_of_ble_eq_true rfl) dX4_fits_8 (fun z21 I22 hz21 hI22 v => ?_)
  refine r_if_ne B (tgt := 20) dX4_fits_11 (by decide) hz21 (fun h => ?_) (fun h => ?_)
  · have v := v.1 h
    refine r_aload_n B dX4_fits_20 rfl rfl ?_
    refine r_getI B (C := RX4) (T := TX4) (N := 4) o_35 3 rfl win_X4 (by decide) rfl wf_X4_28 dX4_fits_21 (jj := 3) rfl ?_
    refine r_if_ne B (tgt := 31) dX4_fits_24 (by decide) ((hI22 _ _)) (fun h => ?_) (fun h => ?_)
    · have v := v.1 h
      refine r_iconst B dX4_fits_31 ?_
      exact r_iret B hr hk rfl ((rg_lit (by decide) (by decide))) hI22 v dX4_fits_32
    · have v := v.2 h
      refine r_iconst B dX4_fits_27 ?_
      refine r_goto B (tgt := 32) dX4_fits_28 (by decide) ?_
      exact r_iret B hr hk rfl ((rg_lit (by decide) (by decide))) hI22 v dX4_fits_32
  · have v := v.2 h
    refine r_aload_n B dX4_fits_14 rfl rfl ?_
    refine r_iload_n B dX4_fits_15 rfl rfl ?_
    refine r_iconst B dX4_fits_16 ?_
    refine r_cV B (st := []) (as := [.int (i2 x1), .int (i2 4)]) (T := TX4) (N := 4) (c_Re_fail x1 4 _ hI22 h1 ((rg_lit (by decide) (by decide)))) v o_35 rfl mw_Re_fail wl_X4_45 ⟨Nat.le_of_ble_eq_true rfl, Nat.le_of_ble_eq_true rfl⟩ rfl rfl (Nat.le_of_ble_eq_true rfl) dX4_fits_17 (fun I23 hI23 v => ?_)
    refine r_aload_n B dX4_fits_20 rfl rfl ?_
    refine r_getI B (C := RX4) (T := TX4) (N := 4) o_35 3 rfl win_X4 (by decide) rfl wf_X4_28 dX4_fits_21 (jj := 3) rfl ?_
    refine r_if_ne B (tgt := 31) dX4_fits_24 (by decide) ((hI23 _ _)) (fun h => ?_) (fun h => ?_)
    · have v := v.1 h
      refine r_iconst B dX4_fits_31 ?_
      exact r_iret B hr hk rfl ((rg_lit (by decide) (by decide))) hI23 v dX4_fits_32
    · have v := v.2 h
      refine r_iconst B dX4_fits_27 ?_
      refine r_goto B (tgt := 32) dX4_fits_28 (by decide) ?_
      exact r_iret B hr hk rfl ((rg_lit (by decide) (by decide))) hI23 v dX4_fits_32
set_option maxHeartbeats 4000000 in
set_option maxRecDepth 100000 in
theorem wL_Th_placeFor_11 {p : Program} {l : Launch} {e : Env} {s : State} {m : MethodId} {args : Array Value} {below : List Frame} {meth : Method} {c0 : Code} {E : En} {A : Nat → Prop} {c : Int} {x1 : Int} {x2 : Int} {Q : Int → Mm → Prop}  (B : Bd p (rmm 0 0) s m args c0 cX8_placeFor 8 RX8 E A 0 0) (hr : meth.sig.returnType = some .int) (hk : meth.locks = false) (hc : isTh c) (h1 : r32 x1) (h2 : r32 x2)   : ∀ (n : Nat) (x3 : Int) (x4 : Int) (x5 : Int) (I : Mm), rgM I → r32 x3 → r32 x4 → r32 x5 → L_Th_placeFor_11 c x1 x2 Q n x3 x4 x5 I → WI p l e (rmm 0 0) s m args below meth c0 E A 8 0 0 (qI below E A args s Q) I 11 [(0, .ref (eA E c)), (1, .int (i2 x1)), (2, .int (i2 x2)), (3, .int (i2 x3)), (4, .int (i2 x4)), (5, .int (i2 x5))] [] := by
  intro n
  induction n with
  | zero => intro x3 x4 x5 I _ _ _ _ v; exact absurd v id
  | succ n ih =>
    intro x3 x4 x5 I hI h3 h4 h5 v
    unfold L_Th_placeFor_11 at v
    refine r_iload B dX8_placeFor_11 rfl ?_
    refine r_sipush B dX8_placeFor_13 (by decide) ?_
    refine r_icmp_ge B (tgt := 96) dX8_placeFor_16 (by decide) h5 ((rg_lit (by decide) (by decide))) (fun h => ?_) (fun h => ?_)
    · have v := v.1 h
      refine r_iload_n B dX8_placeFor_96 rfl rfl ?_
      exact r_iret B hr hk rfl h3 hI v dX8_placeFor_97
    · have v := v.2 h
      refine r_iload_n B dX8_placeFor_19 rfl rfl ?_
      refine r_iload B dX8_placeFor_20 rfl ?_
      refine r_icmp_ge B (tgt := 96) dX8_placeFor_22 (by decide) h3 h4 (fun h => ?_) (fun h => ?_)
      · have v := v.1 h
        refine r_iload_n B dX8_placeFor_96 rfl rfl ?_
        exact r_iret B hr hk rfl h3 hI v dX8_placeFor_97
      · have v := v.2 h
        refine r_iload_n B dX8_placeFor_25 rfl rfl ?_
        refine r_iload B dX8_placeFor_26 rfl ?_
        refine r_iadd B dX8_placeFor_28 ?_
        refine r_iconst B dX8_placeFor_29 ?_
        obtain ⟨h21, v⟩ := v
        obtain ⟨h22, v⟩ := v
        refine r_idiv B dX8_placeFor_30 h21 ((rg_lit (by decide) (by decide))) (show 0 ≤ (x3 + x4) ∧ (0 : Int) < 2 from ⟨h22, by decide⟩) ?_
        refine r_istore B dX8_placeFor_31 (by decide) (lv' := [(6, .int (i2 ((x3 + x4) / 2))), (0, .ref (eA E c)), (1, .int (i2 x1)), (2, .int (i2 x2)), (3, .int (i2 x3)), (4, .int (i2 x4)), (5, .int (i2 x5))]) rfl ?_
        refine r_sub [1, 2, 3, 4, 5, 6, 0] rfl ?_
        refine r_aload_n B dX8_placeFor_33 rfl rfl ?_
        refine r_getR B (C := RX8) (T := TX8) (N := 4) (hc.1) 3 rfl win_X8 (by decide) rfl wf_X8_18 dX8_placeFor_34 ?_
        refine r_iload B dX8_placeFor_37 rfl ?_
        obtain ⟨h23, v⟩ := v
        refine r_ald B (hc.2.2.2) (by decide) h23 dX8_placeFor_39 ?_
        refine r_iload_n B dX8_placeFor_40 rfl rfl ?_
        refine r_icmp_lt B (tgt := 66) dX8_placeFor_41 (by decide) ((hI _ _)) h2 (fun h => ?_) (fun h => ?_)
        · have v := v.1 h
          refine r_iconst B dX8_placeFor_66 ?_
          refine r_goto B (tgt := 71) dX8_placeFor_67 (by decide) ?_
          refine r_istore B dX8_placeFor_71 (by decide) (lv' := [(7, .int (i2 1)), (0, .ref (eA E c)), (1, .int (i2 x1)), (2, .int (i2 x2)), (3, .int (i2 x3)), (4, .int (i2 x4)), (5, .int (i2 x5)), (6, .int (i2 ((x3 + x4) / 2)))]) rfl ?_
          refine r_sub [1, 2, 3, 4, 5, 6, 7, 0] rfl ?_
          refine r_iload B dX8_placeFor_73 rfl ?_
          refine r_if_eq B (tgt := 86) dX8_placeFor_75 (by decide) ((rg_lit (by decide) (by decide))) (fun h => absurd h (by decide)) (fun _ => ?_)
          refine r_iload B dX8_placeFor_78 rfl ?_
          refine r_iconst B dX8_placeFor_80 ?_
          refine r_iadd B dX8_placeFor_81 ?_
          refine r_istore_n B dX8_placeFor_82 rfl (by decide) (lv' := [(3, .int (i2 (((x3 + x4) / 2) + 1))), (0, .ref (eA E c)), (1, .int (i2 x1)), (2, .int (i2 x2)), (4, .int (i2 x4)), (5, .int (i2 x5)), (6, .int (i2 ((x3 + x4) / 2))), (7, .int (i2 1))]) rfl ?_
          refine r_sub [1, 2, 3, 0, 4, 5, 6, 7] rfl ?_
          refine r_goto B (tgt := 90) dX8_placeFor_83 (by decide) ?_
          refine r_iinc B (q := 5) dX8_placeFor_90 (by decide) rfl (lv' := [(5, .int (i2 (x5 + 1))), (0, .ref (eA E c)), (1, .int (i2 x1)), (2, .int (i2 x2)), (3, .int (i2 (((x3 + x4) / 2) + 1))), (4, .int (i2 x4)), (6, .int (i2 ((x3 + x4) / 2))), (7, .int (i2 1))]) rfl ?_
          refine r_sub [1, 2, 3, 4, 5, 0, 6, 7] rfl ?_
          refine r_goto B (tgt := 11) dX8_placeFor_93 (by decide) ?_
          obtain ⟨h24, v⟩ := v
          obtain ⟨h25, v⟩ := v
          refine r_sub [0, 1, 2, 3, 4, 5] rfl ?_
          exact ih (((x3 + x4) / 2) + 1) x4 (x5 + 1) _ hI h24 h4 h25 v
        · have v := v.2 h
          refine r_aload_n B dX8_placeFor_44 rfl rfl ?_
          refine r_getR B (C := RX8) (T := TX8) (N := 4) (hc.1) 3 rfl win_X8 (by decide) rfl wf_X8_18 dX8_placeFor_45 ?_
          refine r_iload B dX8_placeFor_48 rfl ?_
          obtain ⟨h26, v⟩ := v
          refine r_ald B (hc.2.2.2) (by decide) h26 dX8_placeFor_50 ?_
          refine r_iload_n B dX8_placeFor_51 rfl rfl ?_
          refine r_icmp_ne B (tgt := 70) dX8_placeFor_52 (by decide) ((hI _ _)) h2 (fun h => ?_) (fun h => ?_)
          · have v := v.1 h
            refine r_iconst B dX8_placeFor_70 ?_
            refine r_istore B dX8_placeFor_71 (by decide) (lv' := [(7, .int (i2 0)), (0, .ref (eA E c)), (1, .int (i2 x1)), (2, .int (i2 x2)), (3, .int (i2 x3)), (4, .int (i2 x4)), (5, .int (i2 x5)), (6, .int (i2 ((x3 + x4) / 2)))]) rfl ?_
            refine r_sub [1, 2, 3, 4, 5, 6, 7, 0] rfl ?_
            refine r_iload B dX8_placeFor_73 rfl ?_
            refine r_if_eq B (tgt := 86) dX8_placeFor_75 (by decide) ((rg_lit (by decide) (by decide))) (fun _ => ?_) (fun h => absurd h (by decide))
            refine r_iload B dX8_placeFor_86 rfl ?_
            refine r_istore B dX8_placeFor_88 (by decide) (lv' := [(4, .int (i2 ((x3 + x4) / 2))), (0, .ref (eA E c)), (1, .int (i2 x1)), (2, .int (i2 x2)), (3, .int (i2 x3)), (5, .int (i2 x5)), (6, .int (i2 ((x3 + x4) / 2))), (7, .int (i2 0))]) rfl ?_
            refine r_sub [1, 2, 3, 4, 0, 5, 6, 7] rfl ?_
            refine r_iinc B (q := 5) dX8_placeFor_90 (by decide) rfl (lv' := [(5, .int (i2 (x5 + 1))), (0, .ref (eA E c)), (1, .int (i2 x1)), (2, .int (i2 x2)), (3, .int (i2 x3)), (4, .int (i2 ((x3 + x4) / 2))), (6, .int (i2 ((x3 + x4) / 2))), (7, .int (i2 0))]) rfl ?_
            refine r_sub [1, 2, 3, 4, 5, 0, 6, 7] rfl ?_
            refine r_goto B (tgt := 11) dX8_placeFor_93 (by decide) ?_
            obtain ⟨h27, v⟩ := v
            refine r_sub [0, 1, 2, 3, 4, 5] rfl ?_
            exact ih x3 ((x3 + x4) / 2) (x5 + 1) _ hI h3 ((rg_div h21 (show 0 ≤ (x3 + x4) ∧ (0 : Int) < 2 from ⟨h22, by decide⟩).1 (show 0 ≤ (x3 + x4) ∧ (0 : Int) < 2 from ⟨h22, by decide⟩).2)) h27 v
          · have v := v.2 h
            refine r_aload_n B dX8_placeFor_55 rfl rfl ?_
            refine r_getR B (C := RX8) (T := TX8) (N := 4) (hc.1) 1 rfl win_X8 (by decide) rfl wf_X8_9 dX8_placeFor_56 ?_
            refine r_iload B dX8_placeFor_59 rfl ?_
            obtain ⟨h28, v⟩ := v
            refine r_ald B (hc.2.1) (by decide) h28 dX8_placeFor_61 ?_
            refine r_iload_n B dX8_placeFor_62 rfl rfl ?_
            refine r_icmp_ge B (tgt := 70) dX8_placeFor_63 (by decide) ((hI _ _)) h1 (fun h => ?_) (fun h => ?_)
            · have v := v.1 h
              refine r_iconst B dX8_placeFor_70 ?_
              refine r_istore B dX8_placeFor_71 (by decide) (lv' := [(7, .int (i2 0)), (0, .ref (eA E c)), (1, .int (i2 x1)), (2, .int (i2 x2)), (3, .int (i2 x3)), (4, .int (i2 x4)), (5, .int (i2 x5)), (6, .int (i2 ((x3 + x4) / 2)))]) rfl ?_
              refine r_sub [1, 2, 3, 4, 5, 6, 7, 0] rfl ?_
              refine r_iload B dX8_placeFor_73 rfl ?_
              refine r_if_eq B (tgt := 86) dX8_placeFor_75 (by decide) ((rg_lit (by decide) (by decide))) (fun _ => ?_) (fun h => absurd h (by decide))
              refine r_iload B dX8_placeFor_86 rfl ?_
              refine r_istore B dX8_placeFor_88 (by decide) (lv' := [(4, .int (i2 ((x3 + x4) / 2))), (0, .ref (eA E c)), (1, .int (i2 x1)), (2, .int (i2 x2)), (3, .int (i2 x3)), (5, .int (i2 x5)), (6, .int (i2 ((x3 + x4) / 2))), (7, .int (i2 0))]) rfl ?_
              refine r_sub [1, 2, 3, 4, 0, 5, 6, 7] rfl ?_
              refine r_iinc B (q := 5) dX8_placeFor_90 (by decide) rfl (lv' := [(5, .int (i2 (x5 + 1))), (0, .ref (eA E c)), (1, .int (i2 x1)), (2, .int (i2 x2)), (3, .int (i2 x3)), (4, .int (i2 ((x3 + x4) / 2))), (6, .int (i2 ((x3 + x4) / 2))), (7, .int (i2 0))]) rfl ?_
              refine r_sub [1, 2, 3, 4, 5, 0, 6, 7] rfl ?_
              refine r_goto B (tgt := 11) dX8_placeFor_93 (by decide) ?_
              obtain ⟨h29, v⟩ := v
              refine r_sub [0, 1, 2, 3, 4, 5] rfl ?_
              exact ih x3 ((x3 + x4) / 2) (x5 + 1) _ hI h3 ((rg_div h21 (show 0 ≤ (x3 + x4) ∧ (0 : Int) < 2 from ⟨h22, by decide⟩).1 (show 0 ≤ (x3 + x4) ∧ (0 : Int) < 2 from ⟨h22, by decide⟩).2)) h29 v
            · have v := v.2 h
              refine r_iconst B dX8_placeFor_66 ?_
              refine r_goto B (tgt := 71) dX8_placeFor_67 (by decide) ?_
              refine r_istore B dX8_placeFor_71 (by decide) (lv' := [(7, .int (i2 1)), (0, .ref (eA E c)), (1, .int (i2 x1)), (2, .int (i2 x2)), (3, .int (i2 x3)), (4, .int (i2 x4)), (5, .int (i2 x5)), (6, .int (i2 ((x3 + x4) / 2)))]) rfl ?_
              refine r_sub [1, 2, 3, 4, 5, 6, 7, 0] rfl ?_
              refine r_iload B dX8_placeFor_73 rfl ?_
              refine r_if_eq B (tgt := 86) dX8_placeFor_75 (by decide) ((rg_lit (by decide) (by decide))) (fun h => absurd h (by decide)) (fun _ => ?_)
              refine r_iload B dX8_placeFor_78 rfl ?_
              refine r_iconst B dX8_placeFor_80 ?_
              refine r_iadd B dX8_placeFor_81 ?_
              refine r_istore_n B dX8_placeFor_82 rfl (by decide) (lv' := [(3, .int (i2 (((x3 + x4) / 2) + 1))), (0, .ref (eA E c)), (1, .int (i2 x1)), (2, .int (i2 x2)), (4, .int (i2 x4)), (5, .int (i2 x5)), (6, .int (i2 ((x3 + x4) / 2))), (7, .int (i2 1))]) rfl ?_
              refine r_sub [1, 2, 3, 0, 4, 5, 6, 7] rfl ?_
              refine r_goto B (tgt := 90) dX8_placeFor_83 (by decide) ?_
              refine r_iinc B (q := 5) dX8_placeFor_90 (by decide) rfl (lv' := [(5, .int (i2 (x5 + 1))), (0, .ref (eA E c)), (1, .int (i2 x1)), (2, .int (i2 x2)), (3, .int (i2 (((x3 + x4) / 2) + 1))), (4, .int (i2 x4)), (6, .int (i2 ((x3 + x4) / 2))), (7, .int (i2 1))]) rfl ?_
              refine r_sub [1, 2, 3, 4, 5, 0, 6, 7] rfl ?_
              refine r_goto B (tgt := 11) dX8_placeFor_93 (by decide) ?_
              obtain ⟨h30, v⟩ := v
              obtain ⟨h31, v⟩ := v
              refine r_sub [0, 1, 2, 3, 4, 5] rfl ?_
              exact ih (((x3 + x4) / 2) + 1) x4 (x5 + 1) _ hI h30 h4 h31 v
set_option maxHeartbeats 4000000 in
set_option maxRecDepth 100000 in
theorem c_Th_placeFor {l : Launch} {E : En} {A : Nat → Prop} (c : Int) (x1 : Int) (x2 : Int) (I : Mm) (hc : isTh c) (hI : rgM I) (h1 : r32 x1) (h2 : r32 x2) : CI l E A yX8_placeFor cX8_placeFor 8 .int 0 0 [.ref (eA E c), .int (i2 x1), .int (i2 x2)] I (V_Th_placeFor c x1 x2 I) := by
  intro Q v
  refine mk_met (own := RX8) (lv0 := [(0, .ref (eA E c)), (1, .int (i2 x1)), (2, .int (i2 x2))]) (by decide) rfl (Nat.le_of_ble_eq_true rfl) rfl (fun p e s m args below meth c0 B hr hk => ?_)
  unfold V_Th_placeFor at v
  refine r_iconst B dX8_placeFor_0 ?_
  refine r_istore_n B dX8_placeFor_1 rfl (by decide) (lv' := [(3, .int (i2 0)), (0, .ref (eA E c)), (1, .int (i2 x1)), (2, .int (i2 x2))]) rfl ?_
  refine r_sub [1, 2, 3, 0] rfl ?_
  refine r_aload_n B dX8_placeFor_2 rfl rfl ?_
  refine r_getI B (C := RX8) (T := TX8) (N := 4) (hc.1) 0 rfl win_X8 (by decide) rfl wf_X8_21 dX8_placeFor_3 (jj := 0) rfl ?_
  refine r_istore B dX8_placeFor_6 (by decide) (lv' := [(4, .int (i2 (I c 0))), (0, .ref (eA E c)), (1, .int (i2 x1)), (2, .int (i2 x2)), (3, .int (i2 0))]) rfl ?_
  refine r_sub [1, 2, 3, 4, 0] rfl ?_
  refine r_iconst B dX8_placeFor_8 ?_
  refine r_istore B dX8_placeFor_9 (by decide) (lv' := [(5, .int (i2 0)), (0, .ref (eA E c)), (1, .int (i2 x1)), (2, .int (i2 x2)), (3, .int (i2 0)), (4, .int (i2 (I c 0)))]) rfl ?_
  refine r_sub [1, 2, 3, 4, 5, 0] rfl ?_
  obtain ⟨f32, v⟩ := v
  refine r_sub [0, 1, 2, 3, 4, 5] rfl ?_
  exact wL_Th_placeFor_11 B hr hk hc h1 h2 f32 0 (I c 0) 0 I hI ((rg_lit (by decide) (by decide))) ((hI _ _)) ((rg_lit (by decide) (by decide))) v
set_option maxHeartbeats 4000000 in
set_option maxRecDepth 100000 in
theorem c_Th_insertAt {l : Launch} {E : En} {A : Nat → Prop} (c : Int) (x1 : Int) (x2 : Int) (x3 : Int) (x4 : Int) (I : Mm) (hc : isTh c) (hI : rgM I) (h1 : r32 x1) (h2 : r32 x2) (h3 : r32 x3) (h4 : r32 x4) : CV l E A yX8_insertAt cX8_insertAt 6 1 60 [.ref (eA E c), .int (i2 x1), .int (i2 x2), .int (i2 x3), .int (i2 x4)] I (V_Th_insertAt c x1 x2 x3 x4 I) := by
  intro Q v
  refine mk_met (own := RX8) (lv0 := [(0, .ref (eA E c)), (1, .int (i2 x1)), (2, .int (i2 x2)), (3, .int (i2 x3)), (4, .int (i2 x4))]) (by decide) rfl (Nat.le_of_ble_eq_true rfl) rfl (fun p e s m args below meth c0 B hr hk => ?_)
  unfold V_Th_insertAt at v
  refine r_iload_n B dX8_insertAt_0 rfl rfl ?_
  refine r_if_lt B (tgt := 22) dX8_insertAt_1 (by decide) h1 (fun h => ?_) (fun h => ?_)
  · have v := v.1 h
    exact r_vret B hr hk hI v dX8_insertAt_22
  · have v := v.2 h
    refine r_iload_n B dX8_insertAt_4 rfl rfl ?_
    refine r_aload_n B dX8_insertAt_5 rfl rfl ?_
    refine r_getI B (C := RX8) (T := TX8) (N := 4) (hc.1) 0 rfl win_X8 (by decide) rfl wf_X8_21 dX8_insertAt_6 (jj := 0) rfl ?_
    refine r_icmp_gt B (tgt := 22) dX8_insertAt_9 (by decide) h1 ((hI _ _)) (fun h => ?_) (fun h => ?_)
    · have v := v.1 h
      exact r_vret B hr hk hI v dX8_insertAt_22
    · have v := v.2 h
      refine r_aload_n B dX8_insertAt_12 rfl rfl ?_
      refine r_getI B (C := RX8) (T := TX8) (N := 4) (hc.1) 0 rfl win_X8 (by decide) rfl wf_X8_21 dX8_insertAt_13 (jj := 0) rfl ?_
      refine r_sipush B dX8_insertAt_16 (by decide) ?_
      refine r_icmp_lt B (tgt := 23) dX8_insertAt_19 (by decide) ((hI _ _)) ((rg_lit (by decide) (by decide))) (fun h => ?_) (fun h => ?_)
      · have v := v.1 h
        refine r_aload_n B dX8_insertAt_23 rfl rfl ?_
        refine r_getI B (C := RX8) (T := TX8) (N := 4) (hc.1) 0 rfl win_X8 (by decide) rfl wf_X8_21 dX8_insertAt_24 (jj := 0) rfl ?_
        refine r_iload_n B dX8_insertAt_27 rfl rfl ?_
        refine r_isub B dX8_insertAt_28 ?_
        refine r_istore B dX8_insertAt_29 (by decide) (lv' := [(5, .int (i2 (I c 0 - x1))), (0, .ref (eA E c)), (1, .int (i2 x1)), (2, .int (i2 x2)), (3, .int (i2 x3)), (4, .int (i2 x4))]) rfl ?_
        refine r_sub [1, 2, 3, 4, 5, 0] rfl ?_
        refine r_aload_n B dX8_insertAt_31 rfl rfl ?_
        refine r_getR B (C := RX8) (T := TX8) (N := 4) (hc.1) 1 rfl win_X8 (by decide) rfl wf_X8_9 dX8_insertAt_32 ?_
        refine r_iload_n B dX8_insertAt_35 rfl rfl ?_
        refine r_aload_n B dX8_insertAt_36 rfl rfl ?_
        refine r_getR B (C := RX8) (T := TX8) (N := 4) (hc.1) 1 rfl win_X8 (by decide) rfl wf_X8_9 dX8_insertAt_37 ?_
        refine r_iload_n B dX8_insertAt_40 rfl rfl ?_
        refine r_iconst B dX8_insertAt_41 ?_
        refine r_iadd B dX8_insertAt_42 ?_
        refine r_iload B dX8_insertAt_43 rfl ?_
        obtain ⟨h21, v⟩ := v
        obtain ⟨h22, v⟩ := v
        obtain ⟨h23, v⟩ := v
        obtain ⟨h24, v⟩ := v
        obtain ⟨h25, v⟩ := v
        refine r_copy B (hc.2.1) (hc.2.1) (by decide) (by decide) ⟨h21, h22, h23, h24, h25⟩ wl_X8_29 wn_copy ws_copy wi_System (Nat.le_of_ble_eq_true rfl) (by decide) dX8_insertAt_45 ?_
        have hI26 : rgM (cpM I (c + 1) x1 (c + 1) (x1 + 1) (I c 0 - x1)) := rg_cp hI
        refine r_aload_n B dX8_insertAt_48 rfl rfl ?_
        refine r_getR B (C := RX8) (T := TX8) (N := 4) (hc.1) 2 rfl win_X8 (by decide) rfl wf_X8_15 dX8_insertAt_49 ?_
        refine r_iload_n B dX8_insertAt_52 rfl rfl ?_
        refine r_aload_n B dX8_insertAt_53 rfl rfl ?_
        refine r_getR B (C := RX8) (T := TX8) (N := 4) (hc.1) 2 rfl win_X8 (by decide) rfl wf_X8_15 dX8_insertAt_54 ?_
        refine r_iload_n B dX8_insertAt_57 rfl rfl ?_
        refine r_iconst B dX8_insertAt_58 ?_
        refine r_iadd B dX8_insertAt_59 ?_
        refine r_iload B dX8_insertAt_60 rfl ?_
        obtain ⟨h27, v⟩ := v
        obtain ⟨h28, v⟩ := v
        obtain ⟨h29, v⟩ := v
        obtain ⟨h30, v⟩ := v
        obtain ⟨h31, v⟩ := v
        refine r_copy B (hc.2.2.1) (hc.2.2.1) (by decide) (by decide) ⟨h27, h28, h29, h30, h31⟩ wl_X8_29 wn_copy ws_copy wi_System (Nat.le_of_ble_eq_true rfl) (by decide) dX8_insertAt_62 ?_
        have hI32 : rgM (cpM ((cpM I (c + 1) x1 (c + 1) (x1 + 1) (I c 0 - x1))) (c + 2) x1 (c + 2) (x1 + 1) (I c 0 - x1)) := rg_cp hI26
        refine r_aload_n B dX8_insertAt_65 rfl rfl ?_
        refine r_getR B (C := RX8) (T := TX8) (N := 4) (hc.1) 3 rfl win_X8 (by decide) rfl wf_X8_18 dX8_insertAt_66 ?_
        refine r_iload_n B dX8_insertAt_69 rfl rfl ?_
        refine r_aload_n B dX8_insertAt_70 rfl rfl ?_
        refine r_getR B (C := RX8) (T := TX8) (N := 4) (hc.1) 3 rfl win_X8 (by decide) rfl wf_X8_18 dX8_insertAt_71 ?_
        refine r_iload_n B dX8_insertAt_74 rfl rfl ?_
        refine r_iconst B dX8_insertAt_75 ?_
        refine r_iadd B dX8_insertAt_76 ?_
        refine r_iload B dX8_insertAt_77 rfl ?_
        obtain ⟨h33, v⟩ := v
        obtain ⟨h34, v⟩ := v
        obtain ⟨h35, v⟩ := v
        obtain ⟨h36, v⟩ := v
        obtain ⟨h37, v⟩ := v
        refine r_copy B (hc.2.2.2) (hc.2.2.2) (by decide) (by decide) ⟨h33, h34, h35, h36, h37⟩ wl_X8_29 wn_copy ws_copy wi_System (Nat.le_of_ble_eq_true rfl) (by decide) dX8_insertAt_79 ?_
        have hI38 : rgM (cpM ((cpM ((cpM I (c + 1) x1 (c + 1) (x1 + 1) (I c 0 - x1))) (c + 2) x1 (c + 2) (x1 + 1) (I c 0 - x1))) (c + 3) x1 (c + 3) (x1 + 1) (I c 0 - x1)) := rg_cp hI32
        refine r_aload_n B dX8_insertAt_82 rfl rfl ?_
        refine r_getR B (C := RX8) (T := TX8) (N := 4) (hc.1) 1 rfl win_X8 (by decide) rfl wf_X8_9 dX8_insertAt_83 ?_
        refine r_iload_n B dX8_insertAt_86 rfl rfl ?_
        refine r_iload_n B dX8_insertAt_87 rfl rfl ?_
        obtain ⟨h39, v⟩ := v
        refine r_ast B (hc.2.1) (by decide) h39 dX8_insertAt_88 ?_
        have hI40 : rgM (wrM ((cpM ((cpM ((cpM I (c + 1) x1 (c + 1) (x1 + 1) (I c 0 - x1))) (c + 2) x1 (c + 2) (x1 + 1) (I c 0 - x1))) (c + 3) x1 (c + 3) (x1 + 1) (I c 0 - x1))) (c + 1) x1 x2) := rg_wr hI38 h2
        refine r_aload_n B dX8_insertAt_89 rfl rfl ?_
        refine r_getR B (C := RX8) (T := TX8) (N := 4) (hc.1) 2 rfl win_X8 (by decide) rfl wf_X8_15 dX8_insertAt_90 ?_
        refine r_iload_n B dX8_insertAt_93 rfl rfl ?_
        refine r_iload_n B dX8_insertAt_94 rfl rfl ?_
        obtain ⟨h41, v⟩ := v
        refine r_ast B (hc.2.2.1) (by decide) h41 dX8_insertAt_95 ?_
        have hI42 : rgM (wrM ((wrM ((cpM ((cpM ((cpM I (c + 1) x1 (c + 1) (x1 + 1) (I c 0 - x1))) (c + 2) x1 (c + 2) (x1 + 1) (I c 0 - x1))) (c + 3) x1 (c + 3) (x1 + 1) (I c 0 - x1))) (c + 1) x1 x2)) (c + 2) x1 x3) := rg_wr hI40 h3
        refine r_aload_n B dX8_insertAt_96 rfl rfl ?_
        refine r_getR B (C := RX8) (T := TX8) (N := 4) (hc.1) 3 rfl win_X8 (by decide) rfl wf_X8_18 dX8_insertAt_97 ?_
        refine r_iload_n B dX8_insertAt_100 rfl rfl ?_
        refine r_iload B dX8_insertAt_101 rfl ?_
        obtain ⟨h43, v⟩ := v
        refine r_ast B (hc.2.2.2) (by decide) h43 dX8_insertAt_103 ?_
        have hI44 : rgM (wrM ((wrM ((wrM ((cpM ((cpM ((cpM I (c + 1) x1 (c + 1) (x1 + 1) (I c 0 - x1))) (c + 2) x1 (c + 2) (x1 + 1) (I c 0 - x1))) (c + 3) x1 (c + 3) (x1 + 1) (I c 0 - x1))) (c + 1) x1 x2)) (c + 2) x1 x3)) (c + 3) x1 x4) := rg_wr hI42 h4
        refine r_aload_n B dX8_insertAt_104 rfl rfl ?_
        refine r_dup B dX8_insertAt_105 rfl ?_
        refine r_getI B (C := RX8) (T := TX8) (N := 4) (hc.1) 0 rfl win_X8 (by decide) rfl wf_X8_21 dX8_insertAt_106 (jj := 0) rfl ?_
        refine r_iconst B dX8_insertAt_109 ?_
        refine r_iadd B dX8_insertAt_110 ?_
        obtain ⟨h45, v⟩ := v
        refine r_putI B (C := RX8) (T := TX8) (N := 4) (hc.1) 0 rfl win_X8 tyX8 tyX8_ok nmX8 (by decide) rfl rfl rfl wf_X8_21 dX8_insertAt_111 (jj := 0) rfl ?_
        have hI46 : rgM (wrM ((wrM ((wrM ((wrM ((cpM ((cpM ((cpM I (c + 1) x1 (c + 1) (x1 + 1) (I c 0 - x1))) (c + 2) x1 (c + 2) (x1 + 1) (I c 0 - x1))) (c + 3) x1 (c + 3) (x1 + 1) (I c 0 - x1))) (c + 1) x1 x2)) (c + 2) x1 x3)) (c + 3) x1 x4)) c 0 ((wrM ((wrM ((wrM ((cpM ((cpM ((cpM I (c + 1) x1 (c + 1) (x1 + 1) (I c 0 - x1))) (c + 2) x1 (c + 2) (x1 + 1) (I c 0 - x1))) (c + 3) x1 (c + 3) (x1 + 1) (I c 0 - x1))) (c + 1) x1 x2)) (c + 2) x1 x3)) (c + 3) x1 x4) c 0 + 1)) := rg_wr hI44 h45
        exact r_vret B hr hk hI46 v dX8_insertAt_114
      · have v := v.2 h
        exact r_vret B hr hk hI v dX8_insertAt_22
set_option maxHeartbeats 4000000 in
set_option maxRecDepth 100000 in
theorem wL_Th_widthAnew_46 {p : Program} {l : Launch} {e : Env} {s : State} {m : MethodId} {args : Array Value} {below : List Frame} {meth : Method} {c0 : Code} {E : En} {A : Nat → Prop} {c : Int} {x1 : Int} {x2 : Int} {x3 : Int} {Q : Int → Mm → Prop} {K97 : Int → Int → Mm → Prop} (B : Bd p (rmm 1 60) s m args c0 cX8_widthAnew 8 RX8 E A 0 0) (hr : meth.sig.returnType = some .int) (hk : meth.locks = false) (hc : isTh c) (h1 : r32 x1) (h2 : r32 x2) (h3 : r32 x3) (k97 : ∀ (x4 : Int) (x5 : Int) (I : Mm), rgM I → r32 x4 → r32 x5 → K97 x4 x5 I → WI p l e (rmm 1 60) s m args below meth c0 E A 8 0 0 (qI below E A args s Q) I 97 [(4, .int (i2 x4)), (5, .int (i2 x5))] []) : ∀ (n : Nat) (x4 : Int) (x5 : Int) (x6 : Int) (I : Mm), rgM I → r32 x4 → r32 x5 → r32 x6 → L_Th_widthAnew_46 c x1 x2 x3 Q K97 n x4 x5 x6 I → WI p l e (rmm 1 60) s m args below meth c0 E A 8 0 0 (qI below E A args s Q) I 46 [(0, .ref (eA E c)), (2, .int (i2 x2)), (3, .int (i2 x3)), (4, .int (i2 x4)), (5, .int (i2 x5)), (6, .int (i2 x6))] [] := by
  intro n
  induction n with
  | zero => intro x4 x5 x6 I _ _ _ _ v; exact absurd v id
  | succ n ih =>
    intro x4 x5 x6 I hI h4 h5 h6 v
    unfold L_Th_widthAnew_46 at v
    refine r_iload B dX8_widthAnew_46 rfl ?_
    refine r_iconst B dX8_widthAnew_48 ?_
    refine r_iadd B dX8_widthAnew_49 ?_
    refine r_iload_n B dX8_widthAnew_50 rfl rfl ?_
    obtain ⟨h26, v⟩ := v
    refine r_icmp_ge B (tgt := 97) dX8_widthAnew_51 (by decide) h26 h2 (fun h => ?_) (fun h => ?_)
    · have v := v.1 h
      refine r_sub [3, 4] rfl ?_
      exact k97 x4 x5 _ hI h4 h5 v
    · have v := v.2 h
      refine r_aload_n B dX8_widthAnew_54 rfl rfl ?_
      refine r_getR B (C := RX8) (T := TX8) (N := 4) (hc.1) 3 rfl win_X8 (by decide) rfl wf_X8_18 dX8_widthAnew_55 ?_
      refine r_iload B dX8_widthAnew_58 rfl ?_
      refine r_iconst B dX8_widthAnew_60 ?_
      refine r_iadd B dX8_widthAnew_61 ?_
      obtain ⟨h27, v⟩ := v
      refine r_ald B (hc.2.2.2) (by decide) h27 dX8_widthAnew_62 ?_
      refine r_aload_n B dX8_widthAnew_63 rfl rfl ?_
      refine r_getR B (C := RX8) (T := TX8) (N := 4) (hc.1) 3 rfl win_X8 (by decide) rfl wf_X8_18 dX8_widthAnew_64 ?_
      refine r_iload B dX8_widthAnew_67 rfl ?_
      obtain ⟨h28, v⟩ := v
      refine r_ald B (hc.2.2.2) (by decide) h28 dX8_widthAnew_69 ?_
      refine r_isub B dX8_widthAnew_70 ?_
      refine r_name (fun y29 ey29 => ?_)
      have v := v y29 ey29
      refine r_istore B dX8_widthAnew_71 (by decide) (lv' := [(7, .int (i2 y29)), (0, .ref (eA E c)), (2, .int (i2 x2)), (3, .int (i2 x3)), (4, .int (i2 x4)), (5, .int (i2 x5)), (6, .int (i2 x6))]) rfl ?_
      refine r_sub [1, 2, 3, 4, 5, 6, 0] rfl ?_
      refine r_iload B dX8_widthAnew_73 rfl ?_
      refine r_iconst B dX8_widthAnew_75 ?_
      refine r_iload_n B dX8_widthAnew_76 rfl rfl ?_
      refine r_imul B dX8_widthAnew_77 ?_
      obtain ⟨h30, v⟩ := v
      obtain ⟨h31, v⟩ := v
      refine r_icmp_gt B (tgt := 91) dX8_widthAnew_78 (by decide) h30 h31 (fun h => ?_) (fun h => ?_)
      · have v := v.1 h
        refine r_iinc B (q := 5) dX8_widthAnew_91 (by decide) rfl (lv' := [(6, .int (i2 (x6 + 1))), (0, .ref (eA E c)), (2, .int (i2 x2)), (3, .int (i2 x3)), (4, .int (i2 x4)), (5, .int (i2 x5)), (7, .int (i2 y29))]) rfl ?_
        refine r_sub [1, 2, 3, 4, 5, 0, 6] rfl ?_
        refine r_goto B (tgt := 46) dX8_widthAnew_94 (by decide) ?_
        obtain ⟨h32, v⟩ := v
        refine r_sub [0, 1, 2, 3, 4, 5] rfl ?_
        exact ih x4 x5 (x6 + 1) _ hI h4 h5 h32 v
      · have v := v.2 h
        refine r_iload B dX8_widthAnew_81 rfl ?_
        refine r_iload B dX8_widthAnew_83 rfl ?_
        refine r_iadd B dX8_widthAnew_85 ?_
        refine r_istore B dX8_widthAnew_86 (by decide) (lv' := [(4, .int (i2 (x4 + y29))), (0, .ref (eA E c)), (2, .int (i2 x2)), (3, .int (i2 x3)), (5, .int (i2 x5)), (6, .int (i2 x6)), (7, .int (i2 y29))]) rfl ?_
        refine r_sub [1, 2, 3, 0, 4, 5, 6] rfl ?_
        refine r_iinc B (q := 4) dX8_widthAnew_88 (by decide) rfl (lv' := [(5, .int (i2 (x5 + 1))), (0, .ref (eA E c)), (2, .int (i2 x2)), (3, .int (i2 x3)), (4, .int (i2 (x4 + y29))), (6, .int (i2 x6)), (7, .int (i2 y29))]) rfl ?_
        refine r_sub [1, 2, 3, 4, 0, 5, 6] rfl ?_
        refine r_iinc B (q := 5) dX8_widthAnew_91 (by decide) rfl (lv' := [(6, .int (i2 (x6 + 1))), (0, .ref (eA E c)), (2, .int (i2 x2)), (3, .int (i2 x3)), (4, .int (i2 (x4 + y29))), (5, .int (i2 (x5 + 1))), (7, .int (i2 y29))]) rfl ?_
        refine r_sub [1, 2, 3, 4, 5, 0, 6] rfl ?_
        refine r_goto B (tgt := 46) dX8_widthAnew_94 (by decide) ?_
        obtain ⟨h33, v⟩ := v
        obtain ⟨h34, v⟩ := v
        obtain ⟨h35, v⟩ := v
        refine r_sub [0, 1, 2, 3, 4, 5] rfl ?_
        exact ih (x4 + y29) (x5 + 1) (x6 + 1) _ hI h33 h34 h35 v
set_option maxHeartbeats 4000000 in
set_option maxRecDepth 100000 in
theorem wJ_Th_widthAnew_117 {p : Program} {l : Launch} {e : Env} {s : State} {m : MethodId} {args : Array Value} {below : List Frame} {meth : Method} {c0 : Code} {E : En} {A : Nat → Prop} {c : Int} {x1 : Int} {Q : Int → Mm → Prop}  (B : Bd p (rmm 1 60) s m args c0 cX8_widthAnew 8 RX8 E A 0 0) (hr : meth.sig.returnType = some .int) (hk : meth.locks = false) (hc : isTh c) (h1 : r32 x1)   : ∀ (t0 : Int) (I : Mm), rgM I → J_Th_widthAnew_117 c x1 Q t0 I → WI p l e (rmm 1 60) s m args below meth c0 E A 8 0 0 (qI below E A args s Q) I 117 [] [.long (l2 t0)] := by
  intro t0 I hI  v
  unfold J_Th_widthAnew_117 at v
  refine r_lstore B dX8_widthAnew_117 (by decide) (lv' := [(6, .long (l2 t0))]) rfl ?_
  refine r_lconst B 1 dX8_widthAnew_119 (by decide) ?_
  refine r_ldc2 B (99999999) dX8_widthAnew_120 wc_X8_56 (by decide) ?_
  refine r_lload B dX8_widthAnew_123 rfl ?_
  obtain ⟨h40, v⟩ := v
  refine r_minL B wl_X8_58 ws_r_minL wi_Math wd_r_minL (Nat.le_of_ble_eq_true rfl) (Nat.le_of_ble_eq_true rfl) ((show r64 (99999999) by exact ⟨by decide, by decide⟩)) h40 dX8_widthAnew_125 ?_
  obtain ⟨h41, v⟩ := v
  refine r_maxL B wl_X8_61 ws_r_maxL wi_Math wd_r_maxL (Nat.le_of_ble_eq_true rfl) (Nat.le_of_ble_eq_true rfl) ((show r64 (1) by exact ⟨by decide, by decide⟩)) h41 dX8_widthAnew_128 ?_
  refine r_l2i B dX8_widthAnew_131 ?_
  obtain ⟨h42, v⟩ := v
  exact r_iret B hr hk rfl h42 hI v dX8_widthAnew_132
set_option maxHeartbeats 4000000 in
set_option maxRecDepth 100000 in
theorem c_Th_widthAnew {l : Launch} {E : En} {A : Nat → Prop} (c : Int) (x1 : Int) (I : Mm) (hc : isTh c) (hI : rgM I) (h1 : r32 x1) : CI l E A yX8_widthAnew cX8_widthAnew 8 .int 1 60 [.ref (eA E c), .int (i2 x1)] I (V_Th_widthAnew c x1 I) := by
  intro Q v
  refine mk_met (own := RX8) (lv0 := [(0, .ref (eA E c)), (1, .int (i2 x1))]) (by decide) rfl (Nat.le_of_ble_eq_true rfl) rfl (fun p e s m args below meth c0 B hr hk => ?_)
  unfold V_Th_widthAnew at v
  refine r_aload_n B dX8_widthAnew_0 rfl rfl ?_
  refine r_getI B (C := RX8) (T := TX8) (N := 4) (hc.1) 0 rfl win_X8 (by decide) rfl wf_X8_21 dX8_widthAnew_1 (jj := 0) rfl ?_
  refine r_bipush B dX8_widthAnew_4 (by decide) ?_
  refine r_min B wl_X8_51 ws_r_min wi_Math wd_r_min (Nat.le_of_ble_eq_true rfl) (Nat.le_of_ble_eq_true rfl) ((hI _ _)) ((rg_lit (by decide) (by decide))) dX8_widthAnew_6 ?_
  refine r_istore_n B dX8_widthAnew_9 rfl (by decide) (lv' := [(2, .int (i2 (min (I c 0) 10))), (0, .ref (eA E c)), (1, .int (i2 x1))]) rfl ?_
  refine r_sub [1, 2, 0] rfl ?_
  refine r_iload_n B dX8_widthAnew_10 rfl rfl ?_
  refine r_iconst B dX8_widthAnew_11 ?_
  refine r_icmp_ge B (tgt := 17) dX8_widthAnew_12 (by decide) ((rg_min ((hI _ _)) ((rg_lit (by decide) (by decide))))) ((rg_lit (by decide) (by decide))) (fun h => ?_) (fun h => ?_)
  · have v := v.1 h
    refine r_aload_n B dX8_widthAnew_17 rfl rfl ?_
    refine r_getR B (C := RX8) (T := TX8) (N := 4) (hc.1) 3 rfl win_X8 (by decide) rfl wf_X8_18 dX8_widthAnew_18 ?_
    refine r_iload_n B dX8_widthAnew_21 rfl rfl ?_
    refine r_iconst B dX8_widthAnew_22 ?_
    refine r_isub B dX8_widthAnew_23 ?_
    obtain ⟨h21, v⟩ := v
    refine r_ald B (hc.2.2.2) (by decide) h21 dX8_widthAnew_24 ?_
    refine r_aload_n B dX8_widthAnew_25 rfl rfl ?_
    refine r_getR B (C := RX8) (T := TX8) (N := 4) (hc.1) 3 rfl win_X8 (by decide) rfl wf_X8_18 dX8_widthAnew_26 ?_
    refine r_iconst B dX8_widthAnew_29 ?_
    refine r_ald B (hc.2.2.2) (by decide) (by decide) dX8_widthAnew_30 ?_
    refine r_isub B dX8_widthAnew_31 ?_
    refine r_iload_n B dX8_widthAnew_32 rfl rfl ?_
    refine r_iconst B dX8_widthAnew_33 ?_
    refine r_isub B dX8_widthAnew_34 ?_
    obtain ⟨h22, v⟩ := v
    obtain ⟨h23, v⟩ := v
    obtain ⟨h24, v⟩ := v
    refine r_idiv B dX8_widthAnew_35 h22 h23 h24 ?_
    refine r_name (fun y25 ey25 => ?_)
    have v := v y25 ey25
    have hy25 : r32 y25 := by rw [ey25]; exact (rg_div h22 h24.1 h24.2)
    refine r_istore_n B dX8_widthAnew_36 rfl (by decide) (lv' := [(3, .int (i2 y25)), (0, .ref (eA E c)), (1, .int (i2 x1)), (2, .int (i2 (min (I c 0) 10)))]) rfl ?_
    refine r_sub [1, 2, 3, 0] rfl ?_
    refine r_iconst B dX8_widthAnew_37 ?_
    refine r_istore B dX8_widthAnew_38 (by decide) (lv' := [(4, .int (i2 0)), (0, .ref (eA E c)), (1, .int (i2 x1)), (2, .int (i2 (min (I c 0) 10))), (3, .int (i2 y25))]) rfl ?_
    refine r_sub [1, 2, 3, 4, 0] rfl ?_
    refine r_iconst B dX8_widthAnew_40 ?_
    refine r_istore B dX8_widthAnew_41 (by decide) (lv' := [(5, .int (i2 0)), (0, .ref (eA E c)), (1, .int (i2 x1)), (2, .int (i2 (min (I c 0) 10))), (3, .int (i2 y25)), (4, .int (i2 0))]) rfl ?_
    refine r_sub [1, 2, 3, 4, 5, 0] rfl ?_
    refine r_iconst B dX8_widthAnew_43 ?_
    refine r_istore B dX8_widthAnew_44 (by decide) (lv' := [(6, .int (i2 0)), (0, .ref (eA E c)), (1, .int (i2 x1)), (2, .int (i2 (min (I c 0) 10))), (3, .int (i2 y25)), (4, .int (i2 0)), (5, .int (i2 0))]) rfl ?_
    refine r_sub [1, 2, 3, 4, 5, 6, 0] rfl ?_
    obtain ⟨f45, v⟩ := v
    refine r_sub [0, 2, 3, 4, 5, 6] rfl ?_
    refine wL_Th_widthAnew_46 B hr hk hc h1 ((rg_min ((hI _ _)) ((rg_lit (by decide) (by decide))))) hy25 (fun y36 y37 I38 hI38 hy36 hy37 v => ?_) f45 0 0 0 I hI ((rg_lit (by decide) (by decide))) ((rg_lit (by decide) (by decide))) ((rg_lit (by decide) (by decide))) v
    · refine r_iload B dX8_widthAnew_97 rfl ?_
      refine r_iconst B dX8_widthAnew_99 ?_
      refine r_icmp_ge B (tgt := 107) dX8_widthAnew_100 (by decide) hy37 ((rg_lit (by decide) (by decide))) (fun h => ?_) (fun h => ?_)
      · have v := v.1 h
        refine r_ldc2 B (3) dX8_widthAnew_107 wc_X8_54 (by decide) ?_
        refine r_iload B dX8_widthAnew_110 rfl ?_
        refine r_iload B dX8_widthAnew_112 rfl ?_
        obtain ⟨h39, v⟩ := v
        refine r_idiv B dX8_widthAnew_114 hy36 hy37 h39 ?_
        refine r_i2l B dX8_widthAnew_115 ((rg_div hy36 h39.1 h39.2)) ?_
        refine r_lmul B dX8_widthAnew_116 ?_
        refine r_sub [] rfl ?_
        exact wJ_Th_widthAnew_117 B hr hk hc h1 (3 * (y36 / y37)) I38 hI38 v
      · have v := v.2 h
        refine r_lconst B 1 dX8_widthAnew_103 (by decide) ?_
        refine r_goto B (tgt := 117) dX8_widthAnew_104 (by decide) ?_
        refine r_sub [] rfl ?_
        exact wJ_Th_widthAnew_117 B hr hk hc h1 1 I38 hI38 v
  · have v := v.2 h
    refine r_iload_n B dX8_widthAnew_15 rfl rfl ?_
    exact r_iret B hr hk rfl h1 hI v dX8_widthAnew_16
set_option maxHeartbeats 4000000 in
set_option maxRecDepth 100000 in
theorem c_Ca_comes {l : Launch} {E : En} {A : Nat → Prop} (c : Int) (x1 : Int) (x2 : Int) (x3 : Int) (I : Mm) (hc : isCa c) (hI : rgM I) (h1 : r32 x1) (h2 : r32 x2) (h3 : r32 x3) : CV l E A yX0_comes cX0_comes 4 2 87 [.ref (eA E c), .int (i2 x1), .int (i2 x2), .int (i2 x3)] I (V_Ca_comes c x1 x2 x3 I) := by
  intro Q v
  refine mk_met (own := RX0) (lv0 := [(0, .ref (eA E c)), (1, .int (i2 x1)), (2, .int (i2 x2)), (3, .int (i2 x3))]) (by decide) rfl (Nat.le_of_ble_eq_true rfl) rfl (fun p e s m args below meth c0 B hr hk => ?_)
  unfold V_Ca_comes at v
  refine r_aload_n B dX0_comes_0 rfl rfl ?_
  refine r_getR B (C := RX0) (T := TX0) (N := 9) (hc.1) 1 rfl win_X0 (by decide) rfl wf_X0_21 dX0_comes_1 ?_
  refine r_aload_n B dX0_comes_4 rfl rfl ?_
  refine r_getR B (C := RX0) (T := TX0) (N := 9) (hc.1) 1 rfl win_X0 (by decide) rfl wf_X0_21 dX0_comes_5 ?_
  refine r_iload_n B dX0_comes_8 rfl rfl ?_
  refine r_iload_n B dX0_comes_9 rfl rfl ?_
  refine r_cI B (st := [.ref (eA E (c + 5))]) (as := [.int (i2 x1), .int (i2 x3)]) (T := TX8) (N := 4) (c_Th_placeFor (c + 5) x1 x3 _ (hc.2.2.1) hI h1 h3) v (hc.2.2.1.1) rfl mw_Th_placeFor wl_X0_83 ⟨Nat.le_of_ble_eq_true rfl, Nat.le_of_ble_eq_true rfl⟩ rfl rfl (Nat.le_of_ble_eq_true rfl) dX0_comes_10 (fun z21 I22 hz21 hI22 v => ?_)
  refine r_iload_n B dX0_comes_13 rfl rfl ?_
  refine r_iload_n B dX0_comes_14 rfl rfl ?_
  refine r_iload_n B dX0_comes_15 rfl rfl ?_
  refine r_cV B (st := []) (as := [.int (i2 z21), .int (i2 x1), .int (i2 x2), .int (i2 x3)]) (T := TX8) (N := 4) (c_Th_insertAt (c + 5) z21 x1 x2 x3 _ (hc.2.2.1) hI22 hz21 h1 h2 h3) v (hc.2.2.1.1) rfl mw_Th_insertAt wl_X0_87 ⟨Nat.le_of_ble_eq_true rfl, Nat.le_of_ble_eq_true rfl⟩ rfl rfl (Nat.le_of_ble_eq_true rfl) dX0_comes_16 (fun I23 hI23 v => ?_)
  refine r_aload_n B dX0_comes_19 rfl rfl ?_
  refine r_getR B (C := RX0) (T := TX0) (N := 9) (hc.1) 1 rfl win_X0 (by decide) rfl wf_X0_21 dX0_comes_20 ?_
  refine r_getI B (C := RX8) (T := TX8) (N := 4) (hc.2.2.1.1) 0 rfl win_X8 (by decide) rfl wf_X0_53 dX0_comes_23 (jj := 0) rfl ?_
  refine r_iconst B dX0_comes_26 ?_
  refine r_aload_n B dX0_comes_27 rfl rfl ?_
  refine r_getI B (C := RX0) (T := TX0) (N := 9) (hc.1) 5 rfl win_X0 (by decide) rfl wf_X0_43 dX0_comes_28 (jj := 5) rfl ?_
  refine r_imul B dX0_comes_31 ?_
  obtain ⟨h24, v⟩ := v
  refine r_icmp_le B (tgt := 75) dX0_comes_32 (by decide) ((hI23 _ _)) h24 (fun h => ?_) (fun h => ?_)
  · have v := v.1 h
    exact r_vret B hr hk hI23 v dX0_comes_75
  · have v := v.2 h
    refine r_aload_n B dX0_comes_35 rfl rfl ?_
    refine r_getI B (C := RX0) (T := TX0) (N := 9) (hc.1) 5 rfl win_X0 (by decide) rfl wf_X0_43 dX0_comes_36 (jj := 5) rfl ?_
    refine r_bipush B dX0_comes_39 (by decide) ?_
    refine r_icmp_ge B (tgt := 75) dX0_comes_41 (by decide) ((hI23 _ _)) ((rg_lit (by decide) (by decide))) (fun h => ?_) (fun h => ?_)
    · have v := v.1 h
      exact r_vret B hr hk hI23 v dX0_comes_75
    · have v := v.2 h
      refine r_aload_n B dX0_comes_44 rfl rfl ?_
      refine r_getR B (C := RX0) (T := TX0) (N := 9) (hc.1) 4 rfl win_X0 (by decide) rfl wf_X0_39 dX0_comes_45 ?_
      refine r_iconst B dX0_comes_48 ?_
      refine r_dup2 B dX0_comes_49 rfl rfl ?_
      refine r_ald B (hc.2.2.2.2.2) (by decide) (by decide) dX0_comes_50 ?_
      refine r_iconst B dX0_comes_51 ?_
      refine r_iadd B dX0_comes_52 ?_
      obtain ⟨h25, v⟩ := v
      refine r_ast B (hc.2.2.2.2.2) (by decide) (by decide) dX0_comes_53 ?_
      have hI26 : rgM (wrM I23 (c + 15) 3 (I23 (c + 15) 3 + 1)) := rg_wr hI23 h25
      refine r_aload_n B dX0_comes_54 rfl rfl ?_
      refine r_iconst B dX0_comes_55 ?_
      refine r_aload_n B dX0_comes_56 rfl rfl ?_
      refine r_getI B (C := RX0) (T := TX0) (N := 9) (hc.1) 5 rfl win_X0 (by decide) rfl wf_X0_43 dX0_comes_57 (jj := 5) rfl ?_
      refine r_imul B dX0_comes_60 ?_
      refine r_aload_n B dX0_comes_61 rfl rfl ?_
      refine r_getR B (C := RX0) (T := TX0) (N := 9) (hc.1) 1 rfl win_X0 (by decide) rfl wf_X0_21 dX0_comes_62 ?_
      refine r_aload_n B dX0_comes_65 rfl rfl ?_
      refine r_getI B (C := RX0) (T := TX0) (N := 9) (hc.1) 6 rfl win_X0 (by decide) rfl wf_X0_47 dX0_comes_66 (jj := 6) rfl ?_
      refine r_cI B (st := [.int (i2 (2 * (wrM I23 (c + 15) 3 (I23 (c + 15) 3 + 1)) c 5)), .ref (eA E c)]) (as := [.int (i2 ((wrM I23 (c + 15) 3 (I23 (c + 15) 3 + 1)) c 6))]) (T := TX8) (N := 4) (c_Th_widthAnew (c + 5) ((wrM I23 (c + 15) 3 (I23 (c + 15) 3 + 1)) c 6) _ (hc.2.2.1) hI26 ((hI26 _ _))) v (hc.2.2.1.1) rfl mw_Th_widthAnew wl_X0_91 ⟨Nat.le_of_ble_eq_true rfl, Nat.le_of_ble_eq_true rfl⟩ rfl rfl (Nat.le_of_ble_eq_true rfl) dX0_comes_69 (fun z27 I28 hz27 hI28 v => ?_)
      obtain ⟨h29, v⟩ := v
      refine r_cV B (st := []) (as := [.int (i2 (2 * (wrM I23 (c + 15) 3 (I23 (c + 15) 3 + 1)) c 5)), .int (i2 z27)]) (T := TX0) (N := 9) (c_Ca_lay c (2 * (wrM I23 (c + 15) 3 (I23 (c + 15) 3 + 1)) c 5) z27 _ hc hI28 h29 hz27) v (hc.1) rfl mw_Ca_lay wl_X0_95 ⟨Nat.le_of_ble_eq_true rfl, Nat.le_of_ble_eq_true rfl⟩ rfl rfl (Nat.le_of_ble_eq_true rfl) dX0_comes_72 (fun I30 hI30 v => ?_)
      exact r_vret B hr hk hI30 v dX0_comes_75
set_option maxHeartbeats 4000000 in
set_option maxRecDepth 100000 in
theorem wL_Ca_comesOften_9 {p : Program} {l : Launch} {e : Env} {s : State} {m : MethodId} {args : Array Value} {below : List Frame} {meth : Method} {c0 : Code} {E : En} {A : Nat → Prop} {c : Int} {x1 : Int} {x2 : Int} {x3 : Int} {x4 : Int} {x5 : Int} {Q : Int → Mm → Prop}  (B : Bd p (rmm 3 110) s m args c0 cX0_comesOften 7 RX0 E A 0 0) (hr : meth.sig.returnType = some .int) (hk : meth.locks = false) (hc : isCa c) (h1 : r32 x1) (h2 : r32 x2) (h3 : r32 x3) (h4 : r32 x4) (h5 : r32 x5)  : ∀ (n : Nat) (x6 : Int) (I : Mm), rgM I → r32 x6 → L_Ca_comesOften_9 c x1 x2 x3 x4 x5 Q n x6 I → WI p l e (rmm 3 110) s m args below meth c0 E A 7 0 0 (qI below E A args s Q) I 9 [(0, .ref (eA E c)), (1, .int (i2 x1)), (2, .int (i2 x2)), (3, .int (i2 x3)), (4, .int (i2 x4)), (5, .int (i2 x5)), (6, .int (i2 x6))] [] := by
  intro n
  induction n with
  | zero => intro x6 I _ _ v; exact absurd v id
  | succ n ih =>
    intro x6 I hI h6 v
    unfold L_Ca_comesOften_9 at v
    refine r_iload B dX0_comesOften_9 rfl ?_
    refine r_iload B dX0_comesOften_11 rfl ?_
    refine r_icmp_ge B (tgt := 49) dX0_comesOften_13 (by decide) h6 h4 (fun h => ?_) (fun h => ?_)
    · have v := v.1 h
      refine r_iload B dX0_comesOften_49 rfl ?_
      exact r_iret B hr hk rfl h5 hI v dX0_comesOften_51
    · have v := v.2 h
      refine r_aload_n B dX0_comesOften_16 rfl rfl ?_
      refine r_dup B dX0_comesOften_17 rfl ?_
      refine r_getI B (C := RX0) (T := TX0) (N := 9) (hc.1) 8 rfl win_X0 (by decide) rfl wf_X0_61 dX0_comesOften_18 (jj := 8) rfl ?_
      refine r_iconst B dX0_comesOften_21 ?_
      refine r_iadd B dX0_comesOften_22 ?_
      obtain ⟨h21, v⟩ := v
      refine r_putI B (C := RX0) (T := TX0) (N := 9) (hc.1) 8 rfl win_X0 tyX0 tyX0_ok nmX0 (by decide) rfl rfl rfl wf_X0_61 dX0_comesOften_23 (jj := 8) rfl ?_
      have hI22 : rgM (wrM I c 8 (I c 8 + 1)) := rg_wr hI h21
      refine r_aload_n B dX0_comesOften_26 rfl rfl ?_
      refine r_aload_n B dX0_comesOften_27 rfl rfl ?_
      refine r_getI B (C := RX0) (T := TX0) (N := 9) (hc.1) 8 rfl win_X0 (by decide) rfl wf_X0_61 dX0_comesOften_28 (jj := 8) rfl ?_
      refine r_iconst B dX0_comesOften_31 ?_
      refine r_isub B dX0_comesOften_32 ?_
      refine r_iload_n B dX0_comesOften_33 rfl rfl ?_
      refine r_iload_n B dX0_comesOften_34 rfl rfl ?_
      refine r_iload B dX0_comesOften_35 rfl ?_
      refine r_iload_n B dX0_comesOften_37 rfl rfl ?_
      refine r_imul B dX0_comesOften_38 ?_
      refine r_iadd B dX0_comesOften_39 ?_
      obtain ⟨h23, v⟩ := v
      obtain ⟨h24, v⟩ := v
      refine r_cV B (st := []) (as := [.int (i2 ((wrM I c 8 (I c 8 + 1)) c 8 - 1)), .int (i2 x1), .int (i2 (x3 + (x6 * x2)))]) (T := TX0) (N := 9) (c_Ca_comes c ((wrM I c 8 (I c 8 + 1)) c 8 - 1) x1 (x3 + (x6 * x2)) _ hc hI22 h23 h1 h24) v (hc.1) rfl mw_Ca_comes wl_X0_108 ⟨Nat.le_of_ble_eq_true rfl, Nat.le_of_ble_eq_true rfl⟩ rfl rfl (Nat.le_of_ble_eq_true rfl) dX0_comesOften_40 (fun I25 hI25 v => ?_)
      refine r_iinc B (q := 6) dX0_comesOften_43 (by decide) rfl (lv' := [(6, .int (i2 (x6 + 1))), (0, .ref (eA E c)), (1, .int (i2 x1)), (2, .int (i2 x2)), (3, .int (i2 x3)), (4, .int (i2 x4)), (5, .int (i2 x5))]) rfl ?_
      refine r_sub [1, 2, 3, 4, 5, 6, 0] rfl ?_
      refine r_goto B (tgt := 9) dX0_comesOften_46 (by decide) ?_
      obtain ⟨h26, v⟩ := v
      refine r_sub [0, 1, 2, 3, 4, 5, 6] rfl ?_
      exact ih (x6 + 1) _ hI25 h26 v
set_option maxHeartbeats 4000000 in
set_option maxRecDepth 100000 in
theorem c_Ca_comesOften {l : Launch} {E : En} {A : Nat → Prop} (c : Int) (x1 : Int) (x2 : Int) (x3 : Int) (x4 : Int) (I : Mm) (hc : isCa c) (hI : rgM I) (h1 : r32 x1) (h2 : r32 x2) (h3 : r32 x3) (h4 : r32 x4) : CI l E A yX0_comesOften cX0_comesOften 7 .int 3 110 [.ref (eA E c), .int (i2 x1), .int (i2 x2), .int (i2 x3), .int (i2 x4)] I (V_Ca_comesOften c x1 x2 x3 x4 I) := by
  intro Q v
  refine mk_met (own := RX0) (lv0 := [(0, .ref (eA E c)), (1, .int (i2 x1)), (2, .int (i2 x2)), (3, .int (i2 x3)), (4, .int (i2 x4))]) (by decide) rfl (Nat.le_of_ble_eq_true rfl) rfl (fun p e s m args below meth c0 B hr hk => ?_)
  unfold V_Ca_comesOften at v
  refine r_aload_n B dX0_comesOften_0 rfl rfl ?_
  refine r_getI B (C := RX0) (T := TX0) (N := 9) (hc.1) 8 rfl win_X0 (by decide) rfl wf_X0_61 dX0_comesOften_1 (jj := 8) rfl ?_
  refine r_istore B dX0_comesOften_4 (by decide) (lv' := [(5, .int (i2 (I c 8))), (0, .ref (eA E c)), (1, .int (i2 x1)), (2, .int (i2 x2)), (3, .int (i2 x3)), (4, .int (i2 x4))]) rfl ?_
  refine r_sub [1, 2, 3, 4, 5, 0] rfl ?_
  refine r_iconst B dX0_comesOften_6 ?_
  refine r_istore B dX0_comesOften_7 (by decide) (lv' := [(6, .int (i2 0)), (0, .ref (eA E c)), (1, .int (i2 x1)), (2, .int (i2 x2)), (3, .int (i2 x3)), (4, .int (i2 x4)), (5, .int (i2 (I c 8)))]) rfl ?_
  refine r_sub [1, 2, 3, 4, 5, 6, 0] rfl ?_
  obtain ⟨f27, v⟩ := v
  refine r_sub [0, 1, 2, 3, 4, 5, 6] rfl ?_
  exact wL_Ca_comesOften_9 B hr hk hc h1 h2 h3 h4 ((hI _ _)) f27 0 I hI ((rg_lit (by decide) (by decide))) v
set_option maxHeartbeats 4000000 in
set_option maxRecDepth 100000 in
theorem c_Re_readAt {l : Launch} {E : En} {A : Nat → Prop} (x1 : Int) (I : Mm)  (hI : rgM I) (h1 : r32 x1) : CV l E A yX4_readAt cX4_readAt 4 4 136 [.ref (eA E 35), .int (i2 x1)] I (V_Re_readAt x1 I) := by
  intro Q v
  refine mk_met (own := RX4) (lv0 := [(0, .ref (eA E 35)), (1, .int (i2 x1))]) (by decide) rfl (Nat.le_of_ble_eq_true rfl) rfl (fun p e s m args below meth c0 B hr hk => ?_)
  unfold V_Re_readAt at v
  refine r_aload_n B dX4_readAt_0 rfl rfl ?_
  refine r_iconst B dX4_readAt_1 ?_
  refine r_ldc B (999999999) dX4_readAt_2 wc_X4_95 (by decide) ?_
  refine r_cI B (st := []) (as := [.int (i2 0), .int (i2 999999999)]) (T := TX4) (N := 4) (c_Re_readNumber 0 999999999 _ hI ((rg_lit (by decide) (by decide))) ((rg_lit (by decide) (by decide)))) v o_35 rfl mw_Re_readNumber wl_X4_78 ⟨Nat.le_of_ble_eq_true rfl, Nat.le_of_ble_eq_true rfl⟩ rfl rfl (Nat.le_of_ble_eq_true rfl) dX4_readAt_4 (fun z21 I22 hz21 hI22 v => ?_)
  refine r_istore_n B dX4_readAt_7 rfl (by decide) (lv' := [(2, .int (i2 z21)), (0, .ref (eA E 35)), (1, .int (i2 x1))]) rfl ?_
  refine r_sub [1, 2, 0] rfl ?_
  refine r_aload_n B dX4_readAt_8 rfl rfl ?_
  refine r_cI B (st := []) (as := []) (T := TX4) (N := 4) (c_Re_readName _ hI22 ) v o_35 rfl mw_Re_readName wl_X4_96 ⟨Nat.le_of_ble_eq_true rfl, Nat.le_of_ble_eq_true rfl⟩ rfl rfl (Nat.le_of_ble_eq_true rfl) dX4_readAt_9 (fun z23 I24 hz23 hI24 v => ?_)
  refine r_istore_n B dX4_readAt_12 rfl (by decide) (lv' := [(3, .int (i2 z23)), (0, .ref (eA E 35)), (1, .int (i2 x1)), (2, .int (i2 z21))]) rfl ?_
  refine r_sub [1, 2, 3, 0] rfl ?_
  refine r_aload_n B dX4_readAt_13 rfl rfl ?_
  refine r_iload_n B dX4_readAt_14 rfl rfl ?_
  refine r_iconst B dX4_readAt_15 ?_
  refine r_iload_n B dX4_readAt_16 rfl rfl ?_
  refine r_iconst B dX4_readAt_17 ?_
  refine r_cI B (st := []) (as := [.int (i2 x1), .int (i2 1), .int (i2 z21), .int (i2 1)]) (T := TX4) (N := 4) (c_Re_fits x1 1 z21 1 _ hI24 h1 ((rg_lit (by decide) (by decide))) hz21 ((rg_lit (by decide) (by decide)))) v o_35 rfl mw_Re_fits wl_X4_100 ⟨Nat.le_of_ble_eq_true rfl, Nat.le_of_ble_eq_true rfl⟩ rfl rfl (Nat.le_of_ble_eq_true rfl) dX4_readAt_18 (fun z25 I26 hz25 hI26 v => ?_)
  refine r_if_eq B (tgt := 36) dX4_readAt_21 (by decide) hz25 (fun h => ?_) (fun h => ?_)
  · have v := v.1 h
    exact r_vret B hr hk hI26 v dX4_readAt_36
  · have v := v.2 h
    refine r_aload_n B dX4_readAt_24 rfl rfl ?_
    refine r_getR B (C := RX4) (T := TX4) (N := 4) o_35 1 rfl win_X4 (by decide) rfl wf_X4_15 dX4_readAt_25 ?_
    refine r_iload_n B dX4_readAt_28 rfl rfl ?_
    refine r_iconst B dX4_readAt_29 ?_
    refine r_iload_n B dX4_readAt_30 rfl rfl ?_
    refine r_iconst B dX4_readAt_31 ?_
    refine r_cI B (st := []) (as := [.int (i2 z23), .int (i2 1), .int (i2 z21), .int (i2 1)]) (T := TX0) (N := 9) (c_Ca_comesOften 17 z23 1 z21 1 _ ca_17 hI26 hz23 ((rg_lit (by decide) (by decide))) hz21 ((rg_lit (by decide) (by decide)))) v (ca_17.1) rfl mw_Ca_comesOften wl_X4_104 ⟨Nat.le_of_ble_eq_true rfl, Nat.le_of_ble_eq_true rfl⟩ rfl rfl (Nat.le_of_ble_eq_true rfl) dX4_readAt_32 (fun z27 I28 hz27 hI28 v => ?_)
    refine r_pop B dX4_readAt_35 rfl ?_
    exact r_vret B hr hk hI28 v dX4_readAt_36
set_option maxHeartbeats 4000000 in
set_option maxRecDepth 100000 in
theorem c_Re_expect {l : Launch} {E : En} {A : Nat → Prop} (w1 : Nat) (I : Mm) (hw1 : w1 < slen.length) (hI : rgM I)  : CV l E A yX4_expect cX4_expect 2 5 142 [.ref (eA E 35), .ref (eS E w1)] I (V_Re_expect w1 I) := by
  intro Q v
  refine mk_met (own := RX4) (lv0 := [(0, .ref (eA E 35)), (1, .ref (eS E w1))]) (by decide) rfl (Nat.le_of_ble_eq_true rfl) rfl (fun p e s m args below meth c0 B hr hk => ?_)
  unfold V_Re_expect at v
  refine r_aload_n B dX4_expect_0 rfl rfl ?_
  refine r_cV B (st := []) (as := []) (T := TX4) (N := 4) (c_Re_skipBlanks _ hI ) v o_35 rfl mw_Re_skipBlanks wl_X4_34 ⟨Nat.le_of_ble_eq_true rfl, Nat.le_of_ble_eq_true rfl⟩ rfl rfl (Nat.le_of_ble_eq_true rfl) dX4_expect_1 (fun I21 hI21 v => ?_)
  refine r_aload_n B dX4_expect_4 rfl rfl ?_
  refine r_aload_n B dX4_expect_5 rfl rfl ?_
  refine r_cI B (st := []) (as := [.ref (eS E w1)]) (T := TX4) (N := 4) (c_Re_passes w1 _ hw1 hI21 ) v o_35 rfl mw_Re_passes wl_X4_51 ⟨Nat.le_of_ble_eq_true rfl, Nat.le_of_ble_eq_true rfl⟩ rfl rfl (Nat.le_of_ble_eq_true rfl) dX4_expect_6 (fun z22 I23 hz22 hI23 v => ?_)
  refine r_if_ne B (tgt := 21) dX4_expect_9 (by decide) hz22 (fun h => ?_) (fun h => ?_)
  · have v := v.1 h
    exact r_vret B hr hk hI23 v dX4_expect_21
  · have v := v.2 h
    refine r_aload_n B dX4_expect_12 rfl rfl ?_
    refine r_aload_n B dX4_expect_13 rfl rfl ?_
    refine r_getI B (C := RX4) (T := TX4) (N := 4) o_35 2 rfl win_X4 (by decide) rfl wf_X4_24 dX4_expect_14 (jj := 2) rfl ?_
    refine r_iconst B dX4_expect_17 ?_
    refine r_cV B (st := []) (as := [.int (i2 (I23 35 2)), .int (i2 1)]) (T := TX4) (N := 4) (c_Re_fail (I23 35 2) 1 _ hI23 ((hI23 _ _)) ((rg_lit (by decide) (by decide)))) v o_35 rfl mw_Re_fail wl_X4_45 ⟨Nat.le_of_ble_eq_true rfl, Nat.le_of_ble_eq_true rfl⟩ rfl rfl (Nat.le_of_ble_eq_true rfl) dX4_expect_18 (fun I24 hI24 v => ?_)
    exact r_vret B hr hk hI24 v dX4_expect_21
set_option maxHeartbeats 4000000 in
set_option maxRecDepth 100000 in
theorem c_Re_readEvery {l : Launch} {E : En} {A : Nat → Prop} (x1 : Int) (I : Mm)  (hI : rgM I) (h1 : r32 x1) : CV l E A yX4_readEvery cX4_readEvery 6 6 163 [.ref (eA E 35), .int (i2 x1)] I (V_Re_readEvery x1 I) := by
  intro Q v
  refine mk_met (own := RX4) (lv0 := [(0, .ref (eA E 35)), (1, .int (i2 x1))]) (by decide) rfl (Nat.le_of_ble_eq_true rfl) rfl (fun p e s m args below meth c0 B hr hk => ?_)
  unfold V_Re_readEvery at v
  refine r_aload_n B dX4_readEvery_0 rfl rfl ?_
  refine r_iconst B dX4_readEvery_1 ?_
  refine r_ldc B (999999) dX4_readEvery_2 wc_X4_108 (by decide) ?_
  refine r_cI B (st := []) (as := [.int (i2 1), .int (i2 999999)]) (T := TX4) (N := 4) (c_Re_readNumber 1 999999 _ hI ((rg_lit (by decide) (by decide))) ((rg_lit (by decide) (by decide)))) v o_35 rfl mw_Re_readNumber wl_X4_78 ⟨Nat.le_of_ble_eq_true rfl, Nat.le_of_ble_eq_true rfl⟩ rfl rfl (Nat.le_of_ble_eq_true rfl) dX4_readEvery_4 (fun z21 I22 hz21 hI22 v => ?_)
  refine r_istore_n B dX4_readEvery_7 rfl (by decide) (lv' := [(2, .int (i2 z21)), (0, .ref (eA E 35)), (1, .int (i2 x1))]) rfl ?_
  refine r_sub [1, 2, 0] rfl ?_
  refine r_aload_n B dX4_readEvery_8 rfl rfl ?_
  refine r_ldcS B (i := 4) (tx := "from") (by decide) dX4_readEvery_9 ?_
  refine r_cV B (st := []) (as := [.ref (eS E 4)]) (T := TX4) (N := 4) (c_Re_expect 4 _ ((by decide)) hI22 ) v o_35 rfl mw_Re_expect wl_X4_111 ⟨Nat.le_of_ble_eq_true rfl, Nat.le_of_ble_eq_true rfl⟩ rfl rfl (Nat.le_of_ble_eq_true rfl) dX4_readEvery_11 (fun I23 hI23 v => ?_)
  refine r_aload_n B dX4_readEvery_14 rfl rfl ?_
  refine r_iconst B dX4_readEvery_15 ?_
  refine r_ldc B (999999999) dX4_readEvery_16 wc_X4_95 (by decide) ?_
  refine r_cI B (st := []) (as := [.int (i2 0), .int (i2 999999999)]) (T := TX4) (N := 4) (c_Re_readNumber 0 999999999 _ hI23 ((rg_lit (by decide) (by decide))) ((rg_lit (by decide) (by decide)))) v o_35 rfl mw_Re_readNumber wl_X4_78 ⟨Nat.le_of_ble_eq_true rfl, Nat.le_of_ble_eq_true rfl⟩ rfl rfl (Nat.le_of_ble_eq_true rfl) dX4_readEvery_18 (fun z24 I25 hz24 hI25 v => ?_)
  refine r_istore_n B dX4_readEvery_21 rfl (by decide) (lv' := [(3, .int (i2 z24)), (0, .ref (eA E 35)), (1, .int (i2 x1)), (2, .int (i2 z21))]) rfl ?_
  refine r_sub [1, 2, 3, 0] rfl ?_
  refine r_aload_n B dX4_readEvery_22 rfl rfl ?_
  refine r_ldcS B (i := 5) (tx := "times") (by decide) dX4_readEvery_23 ?_
  refine r_cV B (st := []) (as := [.ref (eS E 5)]) (T := TX4) (N := 4) (c_Re_expect 5 _ ((by decide)) hI25 ) v o_35 rfl mw_Re_expect wl_X4_111 ⟨Nat.le_of_ble_eq_true rfl, Nat.le_of_ble_eq_true rfl⟩ rfl rfl (Nat.le_of_ble_eq_true rfl) dX4_readEvery_25 (fun I26 hI26 v => ?_)
  refine r_aload_n B dX4_readEvery_28 rfl rfl ?_
  refine r_iconst B dX4_readEvery_29 ?_
  refine r_bipush B dX4_readEvery_30 (by decide) ?_
  refine r_cI B (st := []) (as := [.int (i2 1), .int (i2 50)]) (T := TX4) (N := 4) (c_Re_readNumber 1 50 _ hI26 ((rg_lit (by decide) (by decide))) ((rg_lit (by decide) (by decide)))) v o_35 rfl mw_Re_readNumber wl_X4_78 ⟨Nat.le_of_ble_eq_true rfl, Nat.le_of_ble_eq_true rfl⟩ rfl rfl (Nat.le_of_ble_eq_true rfl) dX4_readEvery_32 (fun z27 I28 hz27 hI28 v => ?_)
  refine r_istore B dX4_readEvery_35 (by decide) (lv' := [(4, .int (i2 z27)), (0, .ref (eA E 35)), (1, .int (i2 x1)), (2, .int (i2 z21)), (3, .int (i2 z24))]) rfl ?_
  refine r_sub [1, 2, 3, 4, 0] rfl ?_
  refine r_aload_n B dX4_readEvery_37 rfl rfl ?_
  refine r_cI B (st := []) (as := []) (T := TX4) (N := 4) (c_Re_readName _ hI28 ) v o_35 rfl mw_Re_readName wl_X4_96 ⟨Nat.le_of_ble_eq_true rfl, Nat.le_of_ble_eq_true rfl⟩ rfl rfl (Nat.le_of_ble_eq_true rfl) dX4_readEvery_38 (fun z29 I30 hz29 hI30 v => ?_)
  refine r_istore B dX4_readEvery_41 (by decide) (lv' := [(5, .int (i2 z29)), (0, .ref (eA E 35)), (1, .int (i2 x1)), (2, .int (i2 z21)), (3, .int (i2 z24)), (4, .int (i2 z27))]) rfl ?_
  refine r_sub [1, 2, 3, 4, 5, 0] rfl ?_
  refine r_aload_n B dX4_readEvery_43 rfl rfl ?_
  refine r_iload_n B dX4_readEvery_44 rfl rfl ?_
  refine r_iload_n B dX4_readEvery_45 rfl rfl ?_
  refine r_iload_n B dX4_readEvery_46 rfl rfl ?_
  refine r_iload B dX4_readEvery_47 rfl ?_
  refine r_cI B (st := []) (as := [.int (i2 x1), .int (i2 z21), .int (i2 z24), .int (i2 z27)]) (T := TX4) (N := 4) (c_Re_fits x1 z21 z24 z27 _ hI30 h1 hz21 hz24 hz27) v o_35 rfl mw_Re_fits wl_X4_100 ⟨Nat.le_of_ble_eq_true rfl, Nat.le_of_ble_eq_true rfl⟩ rfl rfl (Nat.le_of_ble_eq_true rfl) dX4_readEvery_49 (fun z31 I32 hz31 hI32 v => ?_)
  refine r_if_eq B (tgt := 69) dX4_readEvery_52 (by decide) hz31 (fun h => ?_) (fun h => ?_)
  · have v := v.1 h
    exact r_vret B hr hk hI32 v dX4_readEvery_69
  · have v := v.2 h
    refine r_aload_n B dX4_readEvery_55 rfl rfl ?_
    refine r_getR B (C := RX4) (T := TX4) (N := 4) o_35 1 rfl win_X4 (by decide) rfl wf_X4_15 dX4_readEvery_56 ?_
    refine r_iload B dX4_readEvery_59 rfl ?_
    refine r_iload_n B dX4_readEvery_61 rfl rfl ?_
    refine r_iload_n B dX4_readEvery_62 rfl rfl ?_
    refine r_iload B dX4_readEvery_63 rfl ?_
    refine r_cI B (st := []) (as := [.int (i2 z29), .int (i2 z21), .int (i2 z24), .int (i2 z27)]) (T := TX0) (N := 9) (c_Ca_comesOften 17 z29 z21 z24 z27 _ ca_17 hI32 hz29 hz21 hz24 hz27) v (ca_17.1) rfl mw_Ca_comesOften wl_X4_104 ⟨Nat.le_of_ble_eq_true rfl, Nat.le_of_ble_eq_true rfl⟩ rfl rfl (Nat.le_of_ble_eq_true rfl) dX4_readEvery_65 (fun z33 I34 hz33 hI34 v => ?_)
    refine r_pop B dX4_readEvery_68 rfl ?_
    exact r_vret B hr hk hI34 v dX4_readEvery_69
set_option maxHeartbeats 4000000 in
set_option maxRecDepth 100000 in
theorem c_Ru_add {l : Launch} {E : En} {A : Nat → Prop} (c : Int) (x1 : Int) (x2 : Int) (x3 : Int) (I : Mm) (hc : isRu c) (hI : rgM I) (h1 : r32 x1) (h2 : r32 x2) (h3 : r32 x3) : CI l E A yX5_add cX5_add 4 .int 0 0 [.ref (eA E c), .int (i2 x1), .int (i2 x2), .int (i2 x3)] I (V_Ru_add c x1 x2 x3 I) := by
  intro Q v
  refine mk_met (own := RX5) (lv0 := [(0, .ref (eA E c)), (1, .int (i2 x1)), (2, .int (i2 x2)), (3, .int (i2 x3))]) (by decide) rfl (Nat.le_of_ble_eq_true rfl) rfl (fun p e s m args below meth c0 B hr hk => ?_)
  unfold V_Ru_add at v
  refine r_aload_n B dX5_add_0 rfl rfl ?_
  refine r_getI B (C := RX5) (T := TX5) (N := 4) (hc.1) 0 rfl win_X5 (by decide) rfl wf_X5_21 dX5_add_1 (jj := 0) rfl ?_
  refine r_bipush B dX5_add_4 (by decide) ?_
  refine r_icmp_lt B (tgt := 11) dX5_add_6 (by decide) ((hI _ _)) ((rg_lit (by decide) (by decide))) (fun h => ?_) (fun h => ?_)
  · have v := v.1 h
    refine r_aload_n B dX5_add_11 rfl rfl ?_
    refine r_getR B (C := RX5) (T := TX5) (N := 4) (hc.1) 1 rfl win_X5 (by decide) rfl wf_X5_9 dX5_add_12 ?_
    refine r_aload_n B dX5_add_15 rfl rfl ?_
    refine r_getI B (C := RX5) (T := TX5) (N := 4) (hc.1) 0 rfl win_X5 (by decide) rfl wf_X5_21 dX5_add_16 (jj := 0) rfl ?_
    refine r_iload_n B dX5_add_19 rfl rfl ?_
    obtain ⟨h21, v⟩ := v
    refine r_ast B (hc.2.1) (by decide) h21 dX5_add_20 ?_
    have hI22 : rgM (wrM I (c + 1) (I c 0) x1) := rg_wr hI h1
    refine r_aload_n B dX5_add_21 rfl rfl ?_
    refine r_getR B (C := RX5) (T := TX5) (N := 4) (hc.1) 2 rfl win_X5 (by decide) rfl wf_X5_15 dX5_add_22 ?_
    refine r_aload_n B dX5_add_25 rfl rfl ?_
    refine r_getI B (C := RX5) (T := TX5) (N := 4) (hc.1) 0 rfl win_X5 (by decide) rfl wf_X5_21 dX5_add_26 (jj := 0) rfl ?_
    refine r_iload_n B dX5_add_29 rfl rfl ?_
    obtain ⟨h23, v⟩ := v
    refine r_ast B (hc.2.2.1) (by decide) h23 dX5_add_30 ?_
    have hI24 : rgM (wrM ((wrM I (c + 1) (I c 0) x1)) (c + 2) ((wrM I (c + 1) (I c 0) x1) c 0) x2) := rg_wr hI22 h2
    refine r_aload_n B dX5_add_31 rfl rfl ?_
    refine r_getR B (C := RX5) (T := TX5) (N := 4) (hc.1) 3 rfl win_X5 (by decide) rfl wf_X5_18 dX5_add_32 ?_
    refine r_aload_n B dX5_add_35 rfl rfl ?_
    refine r_getI B (C := RX5) (T := TX5) (N := 4) (hc.1) 0 rfl win_X5 (by decide) rfl wf_X5_21 dX5_add_36 (jj := 0) rfl ?_
    refine r_iload_n B dX5_add_39 rfl rfl ?_
    obtain ⟨h25, v⟩ := v
    refine r_ast B (hc.2.2.2) (by decide) h25 dX5_add_40 ?_
    have hI26 : rgM (wrM ((wrM ((wrM I (c + 1) (I c 0) x1)) (c + 2) ((wrM I (c + 1) (I c 0) x1) c 0) x2)) (c + 3) ((wrM ((wrM I (c + 1) (I c 0) x1)) (c + 2) ((wrM I (c + 1) (I c 0) x1) c 0) x2) c 0) x3) := rg_wr hI24 h3
    refine r_aload_n B dX5_add_41 rfl rfl ?_
    refine r_dup B dX5_add_42 rfl ?_
    refine r_getI B (C := RX5) (T := TX5) (N := 4) (hc.1) 0 rfl win_X5 (by decide) rfl wf_X5_21 dX5_add_43 (jj := 0) rfl ?_
    refine r_iconst B dX5_add_46 ?_
    refine r_iadd B dX5_add_47 ?_
    obtain ⟨h27, v⟩ := v
    refine r_putI B (C := RX5) (T := TX5) (N := 4) (hc.1) 0 rfl win_X5 tyX5 tyX5_ok nmX5 (by decide) rfl rfl rfl wf_X5_21 dX5_add_48 (jj := 0) rfl ?_
    have hI28 : rgM (wrM ((wrM ((wrM ((wrM I (c + 1) (I c 0) x1)) (c + 2) ((wrM I (c + 1) (I c 0) x1) c 0) x2)) (c + 3) ((wrM ((wrM I (c + 1) (I c 0) x1)) (c + 2) ((wrM I (c + 1) (I c 0) x1) c 0) x2) c 0) x3)) c 0 ((wrM ((wrM ((wrM I (c + 1) (I c 0) x1)) (c + 2) ((wrM I (c + 1) (I c 0) x1) c 0) x2)) (c + 3) ((wrM ((wrM I (c + 1) (I c 0) x1)) (c + 2) ((wrM I (c + 1) (I c 0) x1) c 0) x2) c 0) x3) c 0 + 1)) := rg_wr hI26 h27
    refine r_aload_n B dX5_add_51 rfl rfl ?_
    refine r_getI B (C := RX5) (T := TX5) (N := 4) (hc.1) 0 rfl win_X5 (by decide) rfl wf_X5_21 dX5_add_52 (jj := 0) rfl ?_
    refine r_iconst B dX5_add_55 ?_
    refine r_isub B dX5_add_56 ?_
    obtain ⟨h29, v⟩ := v
    exact r_iret B hr hk rfl h29 hI28 v dX5_add_57
  · have v := v.2 h
    refine r_iconst B dX5_add_9 ?_
    exact r_iret B hr hk rfl ((rg_lit (by decide) (by decide))) hI v dX5_add_10
set_option maxHeartbeats 4000000 in
set_option maxRecDepth 100000 in
theorem wJ_Re_readAfter_46 {p : Program} {l : Launch} {e : Env} {s : State} {m : MethodId} {args : Array Value} {below : List Frame} {meth : Method} {c0 : Code} {E : En} {A : Nat → Prop} {x1 : Int} {Q : Mm → Prop}  (B : Bd p (rmm 6 163) s m args c0 cX4_readAfter 5 RX4 E A 0 0) (hr : meth.sig.returnType = none) (hk : meth.locks = false) (h1 : r32 x1)   : ∀ (x2 : Int) (x3 : Int) (x4 : Int) (I : Mm), rgM I → r32 x2 → r32 x3 → r32 x4 → J_Re_readAfter_46 x1 Q x2 x3 x4 I → WI p l e (rmm 6 163) s m args below meth c0 E A 5 0 0 (qV below E A args s Q) I 46 [(0, .ref (eA E 35)), (2, .int (i2 x2)), (3, .int (i2 x3)), (4, .int (i2 x4))] [] := by
  intro x2 x3 x4 I hI h2 h3 h4 v
  unfold J_Re_readAfter_46 at v
  refine r_aload_n B dX4_readAfter_46 rfl rfl ?_
  refine r_getI B (C := RX4) (T := TX4) (N := 4) o_35 3 rfl win_X4 (by decide) rfl wf_X4_28 dX4_readAfter_47 (jj := 3) rfl ?_
  refine r_if_ne B (tgt := 68) dX4_readAfter_50 (by decide) ((hI _ _)) (fun h => ?_) (fun h => ?_)
  · have v := v.1 h
    exact r_vret B hr hk hI v dX4_readAfter_68
  · have v := v.2 h
    refine r_aload_n B dX4_readAfter_53 rfl rfl ?_
    refine r_getR B (C := RX4) (T := TX4) (N := 4) o_35 1 rfl win_X4 (by decide) rfl wf_X4_15 dX4_readAfter_54 ?_
    refine r_getR B (C := RX0) (T := TX0) (N := 9) (ca_17.1) 2 rfl win_X0 (by decide) rfl wf_X4_119 dX4_readAfter_57 ?_
    refine r_iload_n B dX4_readAfter_60 rfl rfl ?_
    refine r_iload B dX4_readAfter_61 rfl ?_
    refine r_iload_n B dX4_readAfter_63 rfl rfl ?_
    refine r_cI B (st := []) (as := [.int (i2 x2), .int (i2 x4), .int (i2 x3)]) (T := TX5) (N := 4) (c_Ru_add (17 + 9) x2 x4 x3 _ (ca_17.2.2.2.1) hI h2 h4 h3) v (ca_17.2.2.2.1.1) rfl mw_Ru_add wl_X4_128 ⟨Nat.le_of_ble_eq_true rfl, Nat.le_of_ble_eq_true rfl⟩ rfl rfl (Nat.le_of_ble_eq_true rfl) dX4_readAfter_64 (fun z28 I29 hz28 hI29 v => ?_)
    refine r_pop B dX4_readAfter_67 rfl ?_
    exact r_vret B hr hk hI29 v dX4_readAfter_68
set_option maxHeartbeats 4000000 in
set_option maxRecDepth 100000 in
theorem c_Re_readAfter {l : Launch} {E : En} {A : Nat → Prop} (x1 : Int) (I : Mm)  (hI : rgM I) (h1 : r32 x1) : CV l E A yX4_readAfter cX4_readAfter 5 6 163 [.ref (eA E 35), .int (i2 x1)] I (V_Re_readAfter x1 I) := by
  intro Q v
  refine mk_met (own := RX4) (lv0 := [(0, .ref (eA E 35)), (1, .int (i2 x1))]) (by decide) rfl (Nat.le_of_ble_eq_true rfl) rfl (fun p e s m args below meth c0 B hr hk => ?_)
  unfold V_Re_readAfter at v
  refine r_aload_n B dX4_readAfter_0 rfl rfl ?_
  refine r_cI B (st := []) (as := []) (T := TX4) (N := 4) (c_Re_readName _ hI ) v o_35 rfl mw_Re_readName wl_X4_96 ⟨Nat.le_of_ble_eq_true rfl, Nat.le_of_ble_eq_true rfl⟩ rfl rfl (Nat.le_of_ble_eq_true rfl) dX4_readAfter_1 (fun z21 I22 hz21 hI22 v => ?_)
  refine r_istore_n B dX4_readAfter_4 rfl (by decide) (lv' := [(2, .int (i2 z21)), (0, .ref (eA E 35)), (1, .int (i2 x1))]) rfl ?_
  refine r_sub [1, 2, 0] rfl ?_
  refine r_aload_n B dX4_readAfter_5 rfl rfl ?_
  refine r_ldcS B (i := 7) (tx := "in") (by decide) dX4_readAfter_6 ?_
  refine r_cV B (st := []) (as := [.ref (eS E 7)]) (T := TX4) (N := 4) (c_Re_expect 7 _ ((by decide)) hI22 ) v o_35 rfl mw_Re_expect wl_X4_111 ⟨Nat.le_of_ble_eq_true rfl, Nat.le_of_ble_eq_true rfl⟩ rfl rfl (Nat.le_of_ble_eq_true rfl) dX4_readAfter_8 (fun I23 hI23 v => ?_)
  refine r_aload_n B dX4_readAfter_11 rfl rfl ?_
  refine r_iconst B dX4_readAfter_12 ?_
  refine r_ldc B (999999) dX4_readAfter_13 wc_X4_108 (by decide) ?_
  refine r_cI B (st := []) (as := [.int (i2 1), .int (i2 999999)]) (T := TX4) (N := 4) (c_Re_readNumber 1 999999 _ hI23 ((rg_lit (by decide) (by decide))) ((rg_lit (by decide) (by decide)))) v o_35 rfl mw_Re_readNumber wl_X4_78 ⟨Nat.le_of_ble_eq_true rfl, Nat.le_of_ble_eq_true rfl⟩ rfl rfl (Nat.le_of_ble_eq_true rfl) dX4_readAfter_15 (fun z24 I25 hz24 hI25 v => ?_)
  refine r_istore_n B dX4_readAfter_18 rfl (by decide) (lv' := [(3, .int (i2 z24)), (0, .ref (eA E 35)), (1, .int (i2 x1)), (2, .int (i2 z21))]) rfl ?_
  refine r_sub [1, 2, 3, 0] rfl ?_
  refine r_aload_n B dX4_readAfter_19 rfl rfl ?_
  refine r_cI B (st := []) (as := []) (T := TX4) (N := 4) (c_Re_readName _ hI25 ) v o_35 rfl mw_Re_readName wl_X4_96 ⟨Nat.le_of_ble_eq_true rfl, Nat.le_of_ble_eq_true rfl⟩ rfl rfl (Nat.le_of_ble_eq_true rfl) dX4_readAfter_20 (fun z26 I27 hz26 hI27 v => ?_)
  refine r_istore B dX4_readAfter_23 (by decide) (lv' := [(4, .int (i2 z26)), (0, .ref (eA E 35)), (1, .int (i2 x1)), (2, .int (i2 z21)), (3, .int (i2 z24))]) rfl ?_
  refine r_sub [1, 2, 3, 4, 0] rfl ?_
  refine r_aload_n B dX4_readAfter_25 rfl rfl ?_
  refine r_getR B (C := RX4) (T := TX4) (N := 4) o_35 1 rfl win_X4 (by decide) rfl wf_X4_15 dX4_readAfter_26 ?_
  refine r_getR B (C := RX0) (T := TX0) (N := 9) (ca_17.1) 2 rfl win_X0 (by decide) rfl wf_X4_119 dX4_readAfter_29 ?_
  refine r_getI B (C := RX5) (T := TX5) (N := 4) (ca_17.2.2.2.1.1) 0 rfl win_X5 (by decide) rfl wf_X4_123 dX4_readAfter_32 (jj := 0) rfl ?_
  refine r_bipush B dX4_readAfter_35 (by decide) ?_
  refine r_icmp_lt B (tgt := 46) dX4_readAfter_37 (by decide) ((hI27 _ _)) ((rg_lit (by decide) (by decide))) (fun h => ?_) (fun h => ?_)
  · have v := v.1 h
    refine r_sub [0, 2, 3, 4] rfl ?_
    exact wJ_Re_readAfter_46 B hr hk h1 z21 z24 z26 I27 hI27 hz21 hz24 hz26 v
  · have v := v.2 h
    refine r_aload_n B dX4_readAfter_40 rfl rfl ?_
    refine r_iload_n B dX4_readAfter_41 rfl rfl ?_
    refine r_iconst B dX4_readAfter_42 ?_
    refine r_cV B (st := []) (as := [.int (i2 x1), .int (i2 4)]) (T := TX4) (N := 4) (c_Re_fail x1 4 _ hI27 h1 ((rg_lit (by decide) (by decide)))) v o_35 rfl mw_Re_fail wl_X4_45 ⟨Nat.le_of_ble_eq_true rfl, Nat.le_of_ble_eq_true rfl⟩ rfl rfl (Nat.le_of_ble_eq_true rfl) dX4_readAfter_43 (fun I31 hI31 v => ?_)
    refine r_sub [0, 2, 3, 4] rfl ?_
    exact wJ_Re_readAfter_46 B hr hk h1 z21 z24 z26 I31 hI31 hz21 hz24 hz26 v
set_option maxHeartbeats 4000000 in
set_option maxRecDepth 100000 in
theorem c_Re_readStatement {l : Launch} {E : En} {A : Nat → Prop}  (I : Mm)  (hI : rgM I)  : CV l E A yX4_readStatement cX4_readStatement 2 7 188 [.ref (eA E 35)] I (V_Re_readStatement  I) := by
  intro Q v
  refine mk_met (own := RX4) (lv0 := [(0, .ref (eA E 35))]) (by decide) rfl (Nat.le_of_ble_eq_true rfl) rfl (fun p e s m args below meth c0 B hr hk => ?_)
  unfold V_Re_readStatement at v
  refine r_aload_n B dX4_readStatement_0 rfl rfl ?_
  refine r_cV B (st := []) (as := []) (T := TX4) (N := 4) (c_Re_skipBlanks _ hI ) v o_35 rfl mw_Re_skipBlanks wl_X4_34 ⟨Nat.le_of_ble_eq_true rfl, Nat.le_of_ble_eq_true rfl⟩ rfl rfl (Nat.le_of_ble_eq_true rfl) dX4_readStatement_1 (fun I21 hI21 v => ?_)
  refine r_aload_n B dX4_readStatement_4 rfl rfl ?_
  refine r_getI B (C := RX4) (T := TX4) (N := 4) o_35 2 rfl win_X4 (by decide) rfl wf_X4_24 dX4_readStatement_5 (jj := 2) rfl ?_
  refine r_istore_n B dX4_readStatement_8 rfl (by decide) (lv' := [(1, .int (i2 (I21 35 2))), (0, .ref (eA E 35))]) rfl ?_
  refine r_sub [1, 0] rfl ?_
  refine r_aload_n B dX4_readStatement_9 rfl rfl ?_
  refine r_ldcS B (i := 0) (tx := "rows") (by decide) dX4_readStatement_10 ?_
  refine r_cI B (st := []) (as := [.ref (eS E 0)]) (T := TX4) (N := 4) (c_Re_passes 0 _ ((by decide)) hI21 ) v o_35 rfl mw_Re_passes wl_X4_51 ⟨Nat.le_of_ble_eq_true rfl, Nat.le_of_ble_eq_true rfl⟩ rfl rfl (Nat.le_of_ble_eq_true rfl) dX4_readStatement_12 (fun z22 I23 hz22 hI23 v => ?_)
  refine r_if_eq B (tgt := 25) dX4_readStatement_15 (by decide) hz22 (fun h => ?_) (fun h => ?_)
  · have v := v.1 h
    refine r_aload_n B dX4_readStatement_25 rfl rfl ?_
    refine r_ldcS B (i := 1) (tx := "wide") (by decide) dX4_readStatement_26 ?_
    refine r_cI B (st := []) (as := [.ref (eS E 1)]) (T := TX4) (N := 4) (c_Re_passes 1 _ ((by decide)) hI23 ) v o_35 rfl mw_Re_passes wl_X4_51 ⟨Nat.le_of_ble_eq_true rfl, Nat.le_of_ble_eq_true rfl⟩ rfl rfl (Nat.le_of_ble_eq_true rfl) dX4_readStatement_28 (fun z24 I25 hz24 hI25 v => ?_)
    refine r_if_eq B (tgt := 41) dX4_readStatement_31 (by decide) hz24 (fun h => ?_) (fun h => ?_)
    · have v := v.1 h
      refine r_aload_n B dX4_readStatement_41 rfl rfl ?_
      refine r_ldcS B (i := 2) (tx := "at") (by decide) dX4_readStatement_42 ?_
      refine r_cI B (st := []) (as := [.ref (eS E 2)]) (T := TX4) (N := 4) (c_Re_passes 2 _ ((by decide)) hI25 ) v o_35 rfl mw_Re_passes wl_X4_51 ⟨Nat.le_of_ble_eq_true rfl, Nat.le_of_ble_eq_true rfl⟩ rfl rfl (Nat.le_of_ble_eq_true rfl) dX4_readStatement_44 (fun z26 I27 hz26 hI27 v => ?_)
      refine r_if_eq B (tgt := 58) dX4_readStatement_47 (by decide) hz26 (fun h => ?_) (fun h => ?_)
      · have v := v.1 h
        refine r_aload_n B dX4_readStatement_58 rfl rfl ?_
        refine r_ldcS B (i := 3) (tx := "every") (by decide) dX4_readStatement_59 ?_
        refine r_cI B (st := []) (as := [.ref (eS E 3)]) (T := TX4) (N := 4) (c_Re_passes 3 _ ((by decide)) hI27 ) v o_35 rfl mw_Re_passes wl_X4_51 ⟨Nat.le_of_ble_eq_true rfl, Nat.le_of_ble_eq_true rfl⟩ rfl rfl (Nat.le_of_ble_eq_true rfl) dX4_readStatement_61 (fun z28 I29 hz28 hI29 v => ?_)
        refine r_if_eq B (tgt := 75) dX4_readStatement_64 (by decide) hz28 (fun h => ?_) (fun h => ?_)
        · have v := v.1 h
          refine r_aload_n B dX4_readStatement_75 rfl rfl ?_
          refine r_ldcS B (i := 6) (tx := "after") (by decide) dX4_readStatement_76 ?_
          refine r_cI B (st := []) (as := [.ref (eS E 6)]) (T := TX4) (N := 4) (c_Re_passes 6 _ ((by decide)) hI29 ) v o_35 rfl mw_Re_passes wl_X4_51 ⟨Nat.le_of_ble_eq_true rfl, Nat.le_of_ble_eq_true rfl⟩ rfl rfl (Nat.le_of_ble_eq_true rfl) dX4_readStatement_78 (fun z30 I31 hz30 hI31 v => ?_)
          refine r_if_eq B (tgt := 92) dX4_readStatement_81 (by decide) hz30 (fun h => ?_) (fun h => ?_)
          · have v := v.1 h
            refine r_aload_n B dX4_readStatement_92 rfl rfl ?_
            refine r_iload_n B dX4_readStatement_93 rfl rfl ?_
            refine r_iconst B dX4_readStatement_94 ?_
            refine r_cV B (st := []) (as := [.int (i2 (I21 35 2)), .int (i2 1)]) (T := TX4) (N := 4) (c_Re_fail (I21 35 2) 1 _ hI31 ((hI21 _ _)) ((rg_lit (by decide) (by decide)))) v o_35 rfl mw_Re_fail wl_X4_45 ⟨Nat.le_of_ble_eq_true rfl, Nat.le_of_ble_eq_true rfl⟩ rfl rfl (Nat.le_of_ble_eq_true rfl) dX4_readStatement_95 (fun I32 hI32 v => ?_)
            exact r_vret B hr hk hI32 v dX4_readStatement_98
          · have v := v.2 h
            refine r_aload_n B dX4_readStatement_84 rfl rfl ?_
            refine r_iload_n B dX4_readStatement_85 rfl rfl ?_
            refine r_cV B (st := []) (as := [.int (i2 (I21 35 2))]) (T := TX4) (N := 4) (c_Re_readAfter (I21 35 2) _ hI31 ((hI21 _ _))) v o_35 rfl mw_Re_readAfter wl_X4_75 ⟨Nat.le_of_ble_eq_true rfl, Nat.le_of_ble_eq_true rfl⟩ rfl rfl (Nat.le_of_ble_eq_true rfl) dX4_readStatement_86 (fun I33 hI33 v => ?_)
            refine r_goto B (tgt := 98) dX4_readStatement_89 (by decide) ?_
            exact r_vret B hr hk hI33 v dX4_readStatement_98
        · have v := v.2 h
          refine r_aload_n B dX4_readStatement_67 rfl rfl ?_
          refine r_iload_n B dX4_readStatement_68 rfl rfl ?_
          refine r_cV B (st := []) (as := [.int (i2 (I21 35 2))]) (T := TX4) (N := 4) (c_Re_readEvery (I21 35 2) _ hI29 ((hI21 _ _))) v o_35 rfl mw_Re_readEvery wl_X4_70 ⟨Nat.le_of_ble_eq_true rfl, Nat.le_of_ble_eq_true rfl⟩ rfl rfl (Nat.le_of_ble_eq_true rfl) dX4_readStatement_69 (fun I34 hI34 v => ?_)
          refine r_goto B (tgt := 98) dX4_readStatement_72 (by decide) ?_
          exact r_vret B hr hk hI34 v dX4_readStatement_98
      · have v := v.2 h
        refine r_aload_n B dX4_readStatement_50 rfl rfl ?_
        refine r_iload_n B dX4_readStatement_51 rfl rfl ?_
        refine r_cV B (st := []) (as := [.int (i2 (I21 35 2))]) (T := TX4) (N := 4) (c_Re_readAt (I21 35 2) _ hI27 ((hI21 _ _))) v o_35 rfl mw_Re_readAt wl_X4_64 ⟨Nat.le_of_ble_eq_true rfl, Nat.le_of_ble_eq_true rfl⟩ rfl rfl (Nat.le_of_ble_eq_true rfl) dX4_readStatement_52 (fun I35 hI35 v => ?_)
        refine r_goto B (tgt := 98) dX4_readStatement_55 (by decide) ?_
        exact r_vret B hr hk hI35 v dX4_readStatement_98
    · have v := v.2 h
      refine r_aload_n B dX4_readStatement_34 rfl rfl ?_
      refine r_cV B (st := []) (as := []) (T := TX4) (N := 4) (c_Re_readWide _ hI25 ) v o_35 rfl mw_Re_readWide wl_X4_60 ⟨Nat.le_of_ble_eq_true rfl, Nat.le_of_ble_eq_true rfl⟩ rfl rfl (Nat.le_of_ble_eq_true rfl) dX4_readStatement_35 (fun I36 hI36 v => ?_)
      refine r_goto B (tgt := 98) dX4_readStatement_38 (by decide) ?_
      exact r_vret B hr hk hI36 v dX4_readStatement_98
  · have v := v.2 h
    refine r_aload_n B dX4_readStatement_18 rfl rfl ?_
    refine r_cV B (st := []) (as := []) (T := TX4) (N := 4) (c_Re_readRows _ hI23 ) v o_35 rfl mw_Re_readRows wl_X4_55 ⟨Nat.le_of_ble_eq_true rfl, Nat.le_of_ble_eq_true rfl⟩ rfl rfl (Nat.le_of_ble_eq_true rfl) dX4_readStatement_19 (fun I37 hI37 v => ?_)
    refine r_goto B (tgt := 98) dX4_readStatement_22 (by decide) ?_
    exact r_vret B hr hk hI37 v dX4_readStatement_98
set_option maxHeartbeats 4000000 in
set_option maxRecDepth 100000 in
theorem wL_Re_readAll_19 {p : Program} {l : Launch} {e : Env} {s : State} {m : MethodId} {args : Array Value} {below : List Frame} {meth : Method} {c0 : Code} {E : En} {A : Nat → Prop}  {Q : Int → Mm → Prop}  (B : Bd p (rmm 8 209) s m args c0 cX4_readAll 2 RX4 E A 0 0) (hr : meth.sig.returnType = some .int) (hk : meth.locks = false)    : ∀ (n : Nat) (x1 : Int) (I : Mm), rgM I → r32 x1 → L_Re_readAll_19 Q n x1 I → WI p l e (rmm 8 209) s m args below meth c0 E A 2 0 0 (qI below E A args s Q) I 19 [(0, .ref (eA E 35)), (1, .int (i2 x1))] [] := by
  intro n
  induction n with
  | zero => intro x1 I _ _ v; exact absurd v id
  | succ n ih =>
    intro x1 I hI h1 v
    unfold L_Re_readAll_19 at v
    refine r_iload_n B dX4_readAll_19 rfl rfl ?_
    refine r_sipush B dX4_readAll_20 (by decide) ?_
    refine r_icmp_gt B (tgt := 106) dX4_readAll_23 (by decide) h1 ((rg_lit (by decide) (by decide))) (fun h => ?_) (fun h => ?_)
    · have v := v.1 h
      refine r_aload_n B dX4_readAll_106 rfl rfl ?_
      refine r_getI B (C := RX4) (T := TX4) (N := 4) o_35 3 rfl win_X4 (by decide) rfl wf_X4_28 dX4_readAll_107 (jj := 3) rfl ?_
      exact r_iret B hr hk rfl ((hI _ _)) hI v dX4_readAll_110
    · have v := v.2 h
      refine r_aload_n B dX4_readAll_26 rfl rfl ?_
      refine r_cV B (st := []) (as := []) (T := TX4) (N := 4) (c_Re_readStatement _ hI ) v o_35 rfl mw_Re_readStatement wl_X4_31 ⟨Nat.le_of_ble_eq_true rfl, Nat.le_of_ble_eq_true rfl⟩ rfl rfl (Nat.le_of_ble_eq_true rfl) dX4_readAll_27 (fun I24 hI24 v => ?_)
      refine r_aload_n B dX4_readAll_30 rfl rfl ?_
      refine r_cV B (st := []) (as := []) (T := TX4) (N := 4) (c_Re_skipBlanks _ hI24 ) v o_35 rfl mw_Re_skipBlanks wl_X4_34 ⟨Nat.le_of_ble_eq_true rfl, Nat.le_of_ble_eq_true rfl⟩ rfl rfl (Nat.le_of_ble_eq_true rfl) dX4_readAll_31 (fun I25 hI25 v => ?_)
      refine r_aload_n B dX4_readAll_34 rfl rfl ?_
      refine r_getI B (C := RX4) (T := TX4) (N := 4) o_35 3 rfl win_X4 (by decide) rfl wf_X4_28 dX4_readAll_35 (jj := 3) rfl ?_
      refine r_if_ne B (tgt := 55) dX4_readAll_38 (by decide) ((hI25 _ _)) (fun h => ?_) (fun h => ?_)
      · have v := v.1 h
        refine r_aload_n B dX4_readAll_55 rfl rfl ?_
        refine r_getI B (C := RX4) (T := TX4) (N := 4) o_35 3 rfl win_X4 (by decide) rfl wf_X4_28 dX4_readAll_56 (jj := 3) rfl ?_
        exact r_iret B hr hk rfl ((hI25 _ _)) hI25 v dX4_readAll_59
      · have v := v.2 h
        refine r_aload_n B dX4_readAll_41 rfl rfl ?_
        refine r_getI B (C := RX4) (T := TX4) (N := 4) o_35 2 rfl win_X4 (by decide) rfl wf_X4_24 dX4_readAll_42 (jj := 2) rfl ?_
        refine r_aload_n B dX4_readAll_45 rfl rfl ?_
        refine r_getR B (C := RX4) (T := TX4) (N := 4) o_35 0 rfl win_X4 (by decide) rfl wf_X4_9 dX4_readAll_46 ?_
        refine r_getI B (C := RX6) (T := TX6) (N := 2) o_33 0 rfl win_X6 (by decide) rfl wf_X4_37 dX4_readAll_49 (jj := 0) rfl ?_
        refine r_icmp_lt B (tgt := 60) dX4_readAll_52 (by decide) ((hI25 _ _)) ((hI25 _ _)) (fun h => ?_) (fun h => ?_)
        · have v := v.1 h
          refine r_aload_n B dX4_readAll_60 rfl rfl ?_
          refine r_getR B (C := RX4) (T := TX4) (N := 4) o_35 0 rfl win_X4 (by decide) rfl wf_X4_9 dX4_readAll_61 ?_
          refine r_aload_n B dX4_readAll_64 rfl rfl ?_
          refine r_getI B (C := RX4) (T := TX4) (N := 4) o_35 2 rfl win_X4 (by decide) rfl wf_X4_24 dX4_readAll_65 (jj := 2) rfl ?_
          refine r_cI B (st := []) (as := [.int (i2 (I25 35 2))]) (T := TX6) (N := 2) (c_Ta_at (I25 35 2) _ hI25 ((hI25 _ _))) v o_33 rfl mw_Ta_at wl_X4_42 ⟨Nat.le_of_ble_eq_true rfl, Nat.le_of_ble_eq_true rfl⟩ rfl rfl (Nat.le_of_ble_eq_true rfl) dX4_readAll_68 (fun z26 I27 hz26 hI27 v => ?_)
          refine r_bipush B dX4_readAll_71 (by decide) ?_
          refine r_icmp_eq B (tgt := 90) dX4_readAll_73 (by decide) hz26 ((rg_lit (by decide) (by decide))) (fun h => ?_) (fun h => ?_)
          · have v := v.1 h
            refine r_aload_n B dX4_readAll_90 rfl rfl ?_
            refine r_dup B dX4_readAll_91 rfl ?_
            refine r_getI B (C := RX4) (T := TX4) (N := 4) o_35 2 rfl win_X4 (by decide) rfl wf_X4_24 dX4_readAll_92 (jj := 2) rfl ?_
            refine r_iconst B dX4_readAll_95 ?_
            refine r_iadd B dX4_readAll_96 ?_
            obtain ⟨h28, v⟩ := v
            refine r_putI B (C := RX4) (T := TX4) (N := 4) o_35 2 rfl win_X4 tyX4 tyX4_ok nmX4 (by decide) rfl rfl rfl wf_X4_24 dX4_readAll_97 (jj := 2) rfl ?_
            have hI29 : rgM (wrM I27 35 2 (I27 35 2 + 1)) := rg_wr hI27 h28
            refine r_iinc B (q := 1) dX4_readAll_100 (by decide) rfl (lv' := [(1, .int (i2 (x1 + 1))), (0, .ref (eA E 35))]) rfl ?_
            refine r_sub [1, 0] rfl ?_
            refine r_goto B (tgt := 19) dX4_readAll_103 (by decide) ?_
            obtain ⟨h30, v⟩ := v
            refine r_sub [0, 1] rfl ?_
            exact ih (x1 + 1) _ hI29 h30 v
          · have v := v.2 h
            refine r_aload_n B dX4_readAll_76 rfl rfl ?_
            refine r_aload_n B dX4_readAll_77 rfl rfl ?_
            refine r_getI B (C := RX4) (T := TX4) (N := 4) o_35 2 rfl win_X4 (by decide) rfl wf_X4_24 dX4_readAll_78 (jj := 2) rfl ?_
            refine r_iconst B dX4_readAll_81 ?_
            refine r_cV B (st := []) (as := [.int (i2 (I27 35 2)), .int (i2 1)]) (T := TX4) (N := 4) (c_Re_fail (I27 35 2) 1 _ hI27 ((hI27 _ _)) ((rg_lit (by decide) (by decide)))) v o_35 rfl mw_Re_fail wl_X4_45 ⟨Nat.le_of_ble_eq_true rfl, Nat.le_of_ble_eq_true rfl⟩ rfl rfl (Nat.le_of_ble_eq_true rfl) dX4_readAll_82 (fun I31 hI31 v => ?_)
            refine r_aload_n B dX4_readAll_85 rfl rfl ?_
            refine r_getI B (C := RX4) (T := TX4) (N := 4) o_35 3 rfl win_X4 (by decide) rfl wf_X4_28 dX4_readAll_86 (jj := 3) rfl ?_
            exact r_iret B hr hk rfl ((hI31 _ _)) hI31 v dX4_readAll_89
        · have v := v.2 h
          refine r_aload_n B dX4_readAll_55 rfl rfl ?_
          refine r_getI B (C := RX4) (T := TX4) (N := 4) o_35 3 rfl win_X4 (by decide) rfl wf_X4_28 dX4_readAll_56 (jj := 3) rfl ?_
          exact r_iret B hr hk rfl ((hI25 _ _)) hI25 v dX4_readAll_59
set_option maxHeartbeats 4000000 in
set_option maxRecDepth 100000 in
theorem c_Re_readAll {l : Launch} {E : En} {A : Nat → Prop}  (I : Mm)  (hI : rgM I)  : CI l E A yX4_readAll cX4_readAll 2 .int 8 209 [.ref (eA E 35)] I (V_Re_readAll  I) := by
  intro Q v
  refine mk_met (own := RX4) (lv0 := [(0, .ref (eA E 35))]) (by decide) rfl (Nat.le_of_ble_eq_true rfl) rfl (fun p e s m args below meth c0 B hr hk => ?_)
  unfold V_Re_readAll at v
  refine r_aload_n B dX4_readAll_0 rfl rfl ?_
  refine r_getR B (C := RX4) (T := TX4) (N := 4) o_35 1 rfl win_X4 (by decide) rfl wf_X4_15 dX4_readAll_1 ?_
  refine r_cV B (st := []) (as := []) (T := TX0) (N := 9) (c_Ca_reset 17 _ ca_17 hI ) v (ca_17.1) rfl mw_Ca_reset wl_X4_19 ⟨Nat.le_of_ble_eq_true rfl, Nat.le_of_ble_eq_true rfl⟩ rfl rfl (Nat.le_of_ble_eq_true rfl) dX4_readAll_4 (fun I21 hI21 v => ?_)
  refine r_aload_n B dX4_readAll_7 rfl rfl ?_
  refine r_iconst B dX4_readAll_8 ?_
  refine r_putI B (C := RX4) (T := TX4) (N := 4) o_35 2 rfl win_X4 tyX4 tyX4_ok nmX4 (by decide) rfl rfl rfl wf_X4_24 dX4_readAll_9 (jj := 2) rfl ?_
  have hI22 : rgM (wrM I21 35 2 0) := rg_wr hI21 ((rg_lit (by decide) (by decide)))
  refine r_aload_n B dX4_readAll_12 rfl rfl ?_
  refine r_iconst B dX4_readAll_13 ?_
  refine r_putI B (C := RX4) (T := TX4) (N := 4) o_35 3 rfl win_X4 tyX4 tyX4_ok nmX4 (by decide) rfl rfl rfl wf_X4_28 dX4_readAll_14 (jj := 3) rfl ?_
  have hI23 : rgM (wrM ((wrM I21 35 2 0)) 35 3 0) := rg_wr hI22 ((rg_lit (by decide) (by decide)))
  refine r_iconst B dX4_readAll_17 ?_
  refine r_istore_n B dX4_readAll_18 rfl (by decide) (lv' := [(1, .int (i2 0)), (0, .ref (eA E 35))]) rfl ?_
  refine r_sub [1, 0] rfl ?_
  obtain ⟨f32, v⟩ := v
  refine r_sub [0, 1] rfl ?_
  exact wL_Re_readAll_19 B hr hk f32 0 _ hI23 ((rg_lit (by decide) (by decide))) v
set_option maxHeartbeats 4000000 in
set_option maxRecDepth 100000 in
theorem c_Nm_copyFrom {l : Launch} {E : En} {A : Nat → Prop} (c : Int) (c1 : Int) (I : Mm) (hc : isNm c) (hc1 : isNm c1) (hI : rgM I)  : CV l E A yX3_copyFrom cX3_copyFrom 2 1 60 [.ref (eA E c), .ref (eA E c1)] I (V_Nm_copyFrom c c1 I) := by
  intro Q v
  refine mk_met (own := RX3) (lv0 := [(0, .ref (eA E c)), (1, .ref (eA E c1))]) (by decide) rfl (Nat.le_of_ble_eq_true rfl) rfl (fun p e s m args below meth c0 B hr hk => ?_)
  unfold V_Nm_copyFrom at v
  refine r_aload_n B dX3_copyFrom_0 rfl rfl ?_
  refine r_aload_n B dX3_copyFrom_1 rfl rfl ?_
  refine r_getI B (C := RX3) (T := TX3) (N := 4) (hc1.1) 0 rfl win_X3 (by decide) rfl wf_X3_21 dX3_copyFrom_2 (jj := 0) rfl ?_
  refine r_putI B (C := RX3) (T := TX3) (N := 4) (hc.1) 0 rfl win_X3 tyX3 tyX3_ok nmX3 (by decide) rfl rfl rfl wf_X3_21 dX3_copyFrom_5 (jj := 0) rfl ?_
  have hI21 : rgM (wrM I c 0 (I c1 0)) := rg_wr hI ((hI _ _))
  refine r_aload_n B dX3_copyFrom_8 rfl rfl ?_
  refine r_getR B (C := RX3) (T := TX3) (N := 4) (hc1.1) 1 rfl win_X3 (by decide) rfl wf_X3_9 dX3_copyFrom_9 ?_
  refine r_iconst B dX3_copyFrom_12 ?_
  refine r_aload_n B dX3_copyFrom_13 rfl rfl ?_
  refine r_getR B (C := RX3) (T := TX3) (N := 4) (hc.1) 1 rfl win_X3 (by decide) rfl wf_X3_9 dX3_copyFrom_14 ?_
  refine r_iconst B dX3_copyFrom_17 ?_
  refine r_bipush B dX3_copyFrom_18 (by decide) ?_
  refine r_copy B (hc1.2.1) (hc.2.1) (by decide) (by decide) ⟨by decide, by decide, by decide, by decide, by decide⟩ wl_X3_33 wn_copy ws_copy wi_System (Nat.le_of_ble_eq_true rfl) (by decide) dX3_copyFrom_20 ?_
  have hI22 : rgM (cpM ((wrM I c 0 (I c1 0))) (c1 + 1) 0 (c + 1) 0 16) := rg_cp hI21
  refine r_aload_n B dX3_copyFrom_23 rfl rfl ?_
  refine r_getR B (C := RX3) (T := TX3) (N := 4) (hc1.1) 2 rfl win_X3 (by decide) rfl wf_X3_15 dX3_copyFrom_24 ?_
  refine r_iconst B dX3_copyFrom_27 ?_
  refine r_aload_n B dX3_copyFrom_28 rfl rfl ?_
  refine r_getR B (C := RX3) (T := TX3) (N := 4) (hc.1) 2 rfl win_X3 (by decide) rfl wf_X3_15 dX3_copyFrom_29 ?_
  refine r_iconst B dX3_copyFrom_32 ?_
  refine r_bipush B dX3_copyFrom_33 (by decide) ?_
  refine r_copy B (hc1.2.2.1) (hc.2.2.1) (by decide) (by decide) ⟨by decide, by decide, by decide, by decide, by decide⟩ wl_X3_33 wn_copy ws_copy wi_System (Nat.le_of_ble_eq_true rfl) (by decide) dX3_copyFrom_35 ?_
  have hI23 : rgM (cpM ((cpM ((wrM I c 0 (I c1 0))) (c1 + 1) 0 (c + 1) 0 16)) (c1 + 2) 0 (c + 2) 0 16) := rg_cp hI22
  refine r_aload_n B dX3_copyFrom_38 rfl rfl ?_
  refine r_getR B (C := RX3) (T := TX3) (N := 4) (hc1.1) 3 rfl win_X3 (by decide) rfl wf_X3_18 dX3_copyFrom_39 ?_
  refine r_iconst B dX3_copyFrom_42 ?_
  refine r_aload_n B dX3_copyFrom_43 rfl rfl ?_
  refine r_getR B (C := RX3) (T := TX3) (N := 4) (hc.1) 3 rfl win_X3 (by decide) rfl wf_X3_18 dX3_copyFrom_44 ?_
  refine r_iconst B dX3_copyFrom_47 ?_
  refine r_bipush B dX3_copyFrom_48 (by decide) ?_
  refine r_copy B (hc1.2.2.2) (hc.2.2.2) (by decide) (by decide) ⟨by decide, by decide, by decide, by decide, by decide⟩ wl_X3_33 wn_copy ws_copy wi_System (Nat.le_of_ble_eq_true rfl) (by decide) dX3_copyFrom_50 ?_
  have hI24 : rgM (cpM ((cpM ((cpM ((wrM I c 0 (I c1 0))) (c1 + 1) 0 (c + 1) 0 16)) (c1 + 2) 0 (c + 2) 0 16)) (c1 + 3) 0 (c + 3) 0 16) := rg_cp hI23
  exact r_vret B hr hk hI24 v dX3_copyFrom_53
set_option maxHeartbeats 4000000 in
set_option maxRecDepth 100000 in
theorem c_Th_copyFrom {l : Launch} {E : En} {A : Nat → Prop} (c : Int) (c1 : Int) (I : Mm) (hc : isTh c) (hc1 : isTh c1) (hI : rgM I)  : CV l E A yX8_copyFrom cX8_copyFrom 2 1 60 [.ref (eA E c), .ref (eA E c1)] I (V_Th_copyFrom c c1 I) := by
  intro Q v
  refine mk_met (own := RX8) (lv0 := [(0, .ref (eA E c)), (1, .ref (eA E c1))]) (by decide) rfl (Nat.le_of_ble_eq_true rfl) rfl (fun p e s m args below meth c0 B hr hk => ?_)
  unfold V_Th_copyFrom at v
  refine r_aload_n B dX8_copyFrom_0 rfl rfl ?_
  refine r_aload_n B dX8_copyFrom_1 rfl rfl ?_
  refine r_getI B (C := RX8) (T := TX8) (N := 4) (hc1.1) 0 rfl win_X8 (by decide) rfl wf_X8_21 dX8_copyFrom_2 (jj := 0) rfl ?_
  refine r_putI B (C := RX8) (T := TX8) (N := 4) (hc.1) 0 rfl win_X8 tyX8 tyX8_ok nmX8 (by decide) rfl rfl rfl wf_X8_21 dX8_copyFrom_5 (jj := 0) rfl ?_
  have hI21 : rgM (wrM I c 0 (I c1 0)) := rg_wr hI ((hI _ _))
  refine r_aload_n B dX8_copyFrom_8 rfl rfl ?_
  refine r_getR B (C := RX8) (T := TX8) (N := 4) (hc1.1) 1 rfl win_X8 (by decide) rfl wf_X8_9 dX8_copyFrom_9 ?_
  refine r_iconst B dX8_copyFrom_12 ?_
  refine r_aload_n B dX8_copyFrom_13 rfl rfl ?_
  refine r_getR B (C := RX8) (T := TX8) (N := 4) (hc.1) 1 rfl win_X8 (by decide) rfl wf_X8_9 dX8_copyFrom_14 ?_
  refine r_iconst B dX8_copyFrom_17 ?_
  refine r_aload_n B dX8_copyFrom_18 rfl rfl ?_
  refine r_getI B (C := RX8) (T := TX8) (N := 4) (hc.1) 0 rfl win_X8 (by decide) rfl wf_X8_21 dX8_copyFrom_19 (jj := 0) rfl ?_
  obtain ⟨h22, v⟩ := v
  obtain ⟨h23, v⟩ := v
  obtain ⟨h24, v⟩ := v
  refine r_copy B (hc1.2.1) (hc.2.1) (by decide) (by decide) ⟨by decide, by decide, h22, h23, h24⟩ wl_X8_29 wn_copy ws_copy wi_System (Nat.le_of_ble_eq_true rfl) (by decide) dX8_copyFrom_22 ?_
  have hI25 : rgM (cpM ((wrM I c 0 (I c1 0))) (c1 + 1) 0 (c + 1) 0 ((wrM I c 0 (I c1 0)) c 0)) := rg_cp hI21
  refine r_aload_n B dX8_copyFrom_25 rfl rfl ?_
  refine r_getR B (C := RX8) (T := TX8) (N := 4) (hc1.1) 2 rfl win_X8 (by decide) rfl wf_X8_15 dX8_copyFrom_26 ?_
  refine r_iconst B dX8_copyFrom_29 ?_
  refine r_aload_n B dX8_copyFrom_30 rfl rfl ?_
  refine r_getR B (C := RX8) (T := TX8) (N := 4) (hc.1) 2 rfl win_X8 (by decide) rfl wf_X8_15 dX8_copyFrom_31 ?_
  refine r_iconst B dX8_copyFrom_34 ?_
  refine r_aload_n B dX8_copyFrom_35 rfl rfl ?_
  refine r_getI B (C := RX8) (T := TX8) (N := 4) (hc.1) 0 rfl win_X8 (by decide) rfl wf_X8_21 dX8_copyFrom_36 (jj := 0) rfl ?_
  obtain ⟨h26, v⟩ := v
  obtain ⟨h27, v⟩ := v
  obtain ⟨h28, v⟩ := v
  refine r_copy B (hc1.2.2.1) (hc.2.2.1) (by decide) (by decide) ⟨by decide, by decide, h26, h27, h28⟩ wl_X8_29 wn_copy ws_copy wi_System (Nat.le_of_ble_eq_true rfl) (by decide) dX8_copyFrom_39 ?_
  have hI29 : rgM (cpM ((cpM ((wrM I c 0 (I c1 0))) (c1 + 1) 0 (c + 1) 0 ((wrM I c 0 (I c1 0)) c 0))) (c1 + 2) 0 (c + 2) 0 ((cpM ((wrM I c 0 (I c1 0))) (c1 + 1) 0 (c + 1) 0 ((wrM I c 0 (I c1 0)) c 0)) c 0)) := rg_cp hI25
  refine r_aload_n B dX8_copyFrom_42 rfl rfl ?_
  refine r_getR B (C := RX8) (T := TX8) (N := 4) (hc1.1) 3 rfl win_X8 (by decide) rfl wf_X8_18 dX8_copyFrom_43 ?_
  refine r_iconst B dX8_copyFrom_46 ?_
  refine r_aload_n B dX8_copyFrom_47 rfl rfl ?_
  refine r_getR B (C := RX8) (T := TX8) (N := 4) (hc.1) 3 rfl win_X8 (by decide) rfl wf_X8_18 dX8_copyFrom_48 ?_
  refine r_iconst B dX8_copyFrom_51 ?_
  refine r_aload_n B dX8_copyFrom_52 rfl rfl ?_
  refine r_getI B (C := RX8) (T := TX8) (N := 4) (hc.1) 0 rfl win_X8 (by decide) rfl wf_X8_21 dX8_copyFrom_53 (jj := 0) rfl ?_
  obtain ⟨h30, v⟩ := v
  obtain ⟨h31, v⟩ := v
  obtain ⟨h32, v⟩ := v
  refine r_copy B (hc1.2.2.2) (hc.2.2.2) (by decide) (by decide) ⟨by decide, by decide, h30, h31, h32⟩ wl_X8_29 wn_copy ws_copy wi_System (Nat.le_of_ble_eq_true rfl) (by decide) dX8_copyFrom_56 ?_
  have hI33 : rgM (cpM ((cpM ((cpM ((wrM I c 0 (I c1 0))) (c1 + 1) 0 (c + 1) 0 ((wrM I c 0 (I c1 0)) c 0))) (c1 + 2) 0 (c + 2) 0 ((cpM ((wrM I c 0 (I c1 0))) (c1 + 1) 0 (c + 1) 0 ((wrM I c 0 (I c1 0)) c 0)) c 0))) (c1 + 3) 0 (c + 3) 0 ((cpM ((cpM ((wrM I c 0 (I c1 0))) (c1 + 1) 0 (c + 1) 0 ((wrM I c 0 (I c1 0)) c 0))) (c1 + 2) 0 (c + 2) 0 ((cpM ((wrM I c 0 (I c1 0))) (c1 + 1) 0 (c + 1) 0 ((wrM I c 0 (I c1 0)) c 0)) c 0)) c 0)) := rg_cp hI29
  exact r_vret B hr hk hI33 v dX8_copyFrom_59
set_option maxHeartbeats 4000000 in
set_option maxRecDepth 100000 in
theorem c_Ru_copyFrom {l : Launch} {E : En} {A : Nat → Prop} (c : Int) (c1 : Int) (I : Mm) (hc : isRu c) (hc1 : isRu c1) (hI : rgM I)  : CV l E A yX5_copyFrom cX5_copyFrom 2 1 60 [.ref (eA E c), .ref (eA E c1)] I (V_Ru_copyFrom c c1 I) := by
  intro Q v
  refine mk_met (own := RX5) (lv0 := [(0, .ref (eA E c)), (1, .ref (eA E c1))]) (by decide) rfl (Nat.le_of_ble_eq_true rfl) rfl (fun p e s m args below meth c0 B hr hk => ?_)
  unfold V_Ru_copyFrom at v
  refine r_aload_n B dX5_copyFrom_0 rfl rfl ?_
  refine r_aload_n B dX5_copyFrom_1 rfl rfl ?_
  refine r_getI B (C := RX5) (T := TX5) (N := 4) (hc1.1) 0 rfl win_X5 (by decide) rfl wf_X5_21 dX5_copyFrom_2 (jj := 0) rfl ?_
  refine r_putI B (C := RX5) (T := TX5) (N := 4) (hc.1) 0 rfl win_X5 tyX5 tyX5_ok nmX5 (by decide) rfl rfl rfl wf_X5_21 dX5_copyFrom_5 (jj := 0) rfl ?_
  have hI21 : rgM (wrM I c 0 (I c1 0)) := rg_wr hI ((hI _ _))
  refine r_aload_n B dX5_copyFrom_8 rfl rfl ?_
  refine r_getR B (C := RX5) (T := TX5) (N := 4) (hc1.1) 1 rfl win_X5 (by decide) rfl wf_X5_9 dX5_copyFrom_9 ?_
  refine r_iconst B dX5_copyFrom_12 ?_
  refine r_aload_n B dX5_copyFrom_13 rfl rfl ?_
  refine r_getR B (C := RX5) (T := TX5) (N := 4) (hc.1) 1 rfl win_X5 (by decide) rfl wf_X5_9 dX5_copyFrom_14 ?_
  refine r_iconst B dX5_copyFrom_17 ?_
  refine r_aload_n B dX5_copyFrom_18 rfl rfl ?_
  refine r_getI B (C := RX5) (T := TX5) (N := 4) (hc.1) 0 rfl win_X5 (by decide) rfl wf_X5_21 dX5_copyFrom_19 (jj := 0) rfl ?_
  obtain ⟨h22, v⟩ := v
  obtain ⟨h23, v⟩ := v
  obtain ⟨h24, v⟩ := v
  refine r_copy B (hc1.2.1) (hc.2.1) (by decide) (by decide) ⟨by decide, by decide, h22, h23, h24⟩ wl_X5_29 wn_copy ws_copy wi_System (Nat.le_of_ble_eq_true rfl) (by decide) dX5_copyFrom_22 ?_
  have hI25 : rgM (cpM ((wrM I c 0 (I c1 0))) (c1 + 1) 0 (c + 1) 0 ((wrM I c 0 (I c1 0)) c 0)) := rg_cp hI21
  refine r_aload_n B dX5_copyFrom_25 rfl rfl ?_
  refine r_getR B (C := RX5) (T := TX5) (N := 4) (hc1.1) 2 rfl win_X5 (by decide) rfl wf_X5_15 dX5_copyFrom_26 ?_
  refine r_iconst B dX5_copyFrom_29 ?_
  refine r_aload_n B dX5_copyFrom_30 rfl rfl ?_
  refine r_getR B (C := RX5) (T := TX5) (N := 4) (hc.1) 2 rfl win_X5 (by decide) rfl wf_X5_15 dX5_copyFrom_31 ?_
  refine r_iconst B dX5_copyFrom_34 ?_
  refine r_aload_n B dX5_copyFrom_35 rfl rfl ?_
  refine r_getI B (C := RX5) (T := TX5) (N := 4) (hc.1) 0 rfl win_X5 (by decide) rfl wf_X5_21 dX5_copyFrom_36 (jj := 0) rfl ?_
  obtain ⟨h26, v⟩ := v
  obtain ⟨h27, v⟩ := v
  obtain ⟨h28, v⟩ := v
  refine r_copy B (hc1.2.2.1) (hc.2.2.1) (by decide) (by decide) ⟨by decide, by decide, h26, h27, h28⟩ wl_X5_29 wn_copy ws_copy wi_System (Nat.le_of_ble_eq_true rfl) (by decide) dX5_copyFrom_39 ?_
  have hI29 : rgM (cpM ((cpM ((wrM I c 0 (I c1 0))) (c1 + 1) 0 (c + 1) 0 ((wrM I c 0 (I c1 0)) c 0))) (c1 + 2) 0 (c + 2) 0 ((cpM ((wrM I c 0 (I c1 0))) (c1 + 1) 0 (c + 1) 0 ((wrM I c 0 (I c1 0)) c 0)) c 0)) := rg_cp hI25
  refine r_aload_n B dX5_copyFrom_42 rfl rfl ?_
  refine r_getR B (C := RX5) (T := TX5) (N := 4) (hc1.1) 3 rfl win_X5 (by decide) rfl wf_X5_18 dX5_copyFrom_43 ?_
  refine r_iconst B dX5_copyFrom_46 ?_
  refine r_aload_n B dX5_copyFrom_47 rfl rfl ?_
  refine r_getR B (C := RX5) (T := TX5) (N := 4) (hc.1) 3 rfl win_X5 (by decide) rfl wf_X5_18 dX5_copyFrom_48 ?_
  refine r_iconst B dX5_copyFrom_51 ?_
  refine r_aload_n B dX5_copyFrom_52 rfl rfl ?_
  refine r_getI B (C := RX5) (T := TX5) (N := 4) (hc.1) 0 rfl win_X5 (by decide) rfl wf_X5_21 dX5_copyFrom_53 (jj := 0) rfl ?_
  obtain ⟨h30, v⟩ := v
  obtain ⟨h31, v⟩ := v
  obtain ⟨h32, v⟩ := v
  refine r_copy B (hc1.2.2.2) (hc.2.2.2) (by decide) (by decide) ⟨by decide, by decide, h30, h31, h32⟩ wl_X5_29 wn_copy ws_copy wi_System (Nat.le_of_ble_eq_true rfl) (by decide) dX5_copyFrom_56 ?_
  have hI33 : rgM (cpM ((cpM ((cpM ((wrM I c 0 (I c1 0))) (c1 + 1) 0 (c + 1) 0 ((wrM I c 0 (I c1 0)) c 0))) (c1 + 2) 0 (c + 2) 0 ((cpM ((wrM I c 0 (I c1 0))) (c1 + 1) 0 (c + 1) 0 ((wrM I c 0 (I c1 0)) c 0)) c 0))) (c1 + 3) 0 (c + 3) 0 ((cpM ((cpM ((wrM I c 0 (I c1 0))) (c1 + 1) 0 (c + 1) 0 ((wrM I c 0 (I c1 0)) c 0))) (c1 + 2) 0 (c + 2) 0 ((cpM ((wrM I c 0 (I c1 0))) (c1 + 1) 0 (c + 1) 0 ((wrM I c 0 (I c1 0)) c 0)) c 0)) c 0)) := rg_cp hI29
  exact r_vret B hr hk hI33 v dX5_copyFrom_59
set_option maxHeartbeats 4000000 in
set_option maxRecDepth 100000 in
theorem c_Lo_copyFrom {l : Launch} {E : En} {A : Nat → Prop} (c : Int) (c1 : Int) (I : Mm) (hc : isLo c) (hc1 : isLo c1) (hI : rgM I)  : CV l E A yX2_copyFrom cX2_copyFrom 2 1 60 [.ref (eA E c), .ref (eA E c1)] I (V_Lo_copyFrom c c1 I) := by
  intro Q v
  refine mk_met (own := RX2) (lv0 := [(0, .ref (eA E c)), (1, .ref (eA E c1))]) (by decide) rfl (Nat.le_of_ble_eq_true rfl) rfl (fun p e s m args below meth c0 B hr hk => ?_)
  unfold V_Lo_copyFrom at v
  refine r_aload_n B dX2_copyFrom_0 rfl rfl ?_
  refine r_aload_n B dX2_copyFrom_1 rfl rfl ?_
  refine r_getI B (C := RX2) (T := TX2) (N := 3) (hc1.1) 0 rfl win_X2 (by decide) rfl wf_X2_19 dX2_copyFrom_2 (jj := 0) rfl ?_
  refine r_putI B (C := RX2) (T := TX2) (N := 3) (hc.1) 0 rfl win_X2 tyX2 tyX2_ok nmX2 (by decide) rfl rfl rfl wf_X2_19 dX2_copyFrom_5 (jj := 0) rfl ?_
  have hI21 : rgM (wrM I c 0 (I c1 0)) := rg_wr hI ((hI _ _))
  refine r_aload_n B dX2_copyFrom_8 rfl rfl ?_
  refine r_aload_n B dX2_copyFrom_9 rfl rfl ?_
  refine r_getI B (C := RX2) (T := TX2) (N := 3) (hc1.1) 1 rfl win_X2 (by decide) rfl wf_X2_15 dX2_copyFrom_10 (jj := 1) rfl ?_
  refine r_putI B (C := RX2) (T := TX2) (N := 3) (hc.1) 1 rfl win_X2 tyX2 tyX2_ok nmX2 (by decide) rfl rfl rfl wf_X2_15 dX2_copyFrom_13 (jj := 1) rfl ?_
  have hI22 : rgM (wrM ((wrM I c 0 (I c1 0))) c 1 ((wrM I c 0 (I c1 0)) c1 1)) := rg_wr hI21 ((hI21 _ _))
  refine r_aload_n B dX2_copyFrom_16 rfl rfl ?_
  refine r_getR B (C := RX2) (T := TX2) (N := 3) (hc1.1) 2 rfl win_X2 (by decide) rfl wf_X2_11 dX2_copyFrom_17 ?_
  refine r_iconst B dX2_copyFrom_20 ?_
  refine r_aload_n B dX2_copyFrom_21 rfl rfl ?_
  refine r_getR B (C := RX2) (T := TX2) (N := 3) (hc.1) 2 rfl win_X2 (by decide) rfl wf_X2_11 dX2_copyFrom_22 ?_
  refine r_iconst B dX2_copyFrom_25 ?_
  refine r_aload_n B dX2_copyFrom_26 rfl rfl ?_
  refine r_getR B (C := RX2) (T := TX2) (N := 3) (hc.1) 2 rfl win_X2 (by decide) rfl wf_X2_11 dX2_copyFrom_27 ?_
  refine r_len B (hc.2) dX2_copyFrom_30 ?_
  refine r_copy B (hc1.2) (hc.2) (by decide) (by decide) ⟨by decide, by decide, by decide, by decide, by decide⟩ wl_X2_28 wn_copy ws_copy wi_System (Nat.le_of_ble_eq_true rfl) (by decide) dX2_copyFrom_31 ?_
  have hI23 : rgM (cpM ((wrM ((wrM I c 0 (I c1 0))) c 1 ((wrM I c 0 (I c1 0)) c1 1))) (c1 + 1) 0 (c + 1) 0 200) := rg_cp hI22
  exact r_vret B hr hk hI23 v dX2_copyFrom_34
set_option maxHeartbeats 4000000 in
set_option maxRecDepth 100000 in
theorem c_Ca_copyFrom {l : Launch} {E : En} {A : Nat → Prop} (c : Int) (c1 : Int) (I : Mm) (hc : isCa c) (hc1 : isCa c1) (hI : rgM I)  : CV l E A yX0_copyFrom cX0_copyFrom 2 2 81 [.ref (eA E c), .ref (eA E c1)] I (V_Ca_copyFrom c c1 I) := by
  intro Q v
  refine mk_met (own := RX0) (lv0 := [(0, .ref (eA E c)), (1, .ref (eA E c1))]) (by decide) rfl (Nat.le_of_ble_eq_true rfl) rfl (fun p e s m args below meth c0 B hr hk => ?_)
  unfold V_Ca_copyFrom at v
  refine r_aload_n B dX0_copyFrom_0 rfl rfl ?_
  refine r_getR B (C := RX0) (T := TX0) (N := 9) (hc.1) 0 rfl win_X0 (by decide) rfl wf_X0_12 dX0_copyFrom_1 ?_
  refine r_aload_n B dX0_copyFrom_4 rfl rfl ?_
  refine r_getR B (C := RX0) (T := TX0) (N := 9) (hc1.1) 0 rfl win_X0 (by decide) rfl wf_X0_12 dX0_copyFrom_5 ?_
  refine r_cV B (st := []) (as := [.ref (eA E (c1 + 1))]) (T := TX3) (N := 4) (c_Nm_copyFrom (c + 1) (c1 + 1) _ (hc.2.1) (hc1.2.1) hI ) v (hc.2.1.1) rfl mw_Nm_copyFrom wl_X0_64 ⟨Nat.le_of_ble_eq_true rfl, Nat.le_of_ble_eq_true rfl⟩ rfl rfl (Nat.le_of_ble_eq_true rfl) dX0_copyFrom_8 (fun I21 hI21 v => ?_)
  refine r_aload_n B dX0_copyFrom_11 rfl rfl ?_
  refine r_getR B (C := RX0) (T := TX0) (N := 9) (hc.1) 1 rfl win_X0 (by decide) rfl wf_X0_21 dX0_copyFrom_12 ?_
  refine r_aload_n B dX0_copyFrom_15 rfl rfl ?_
  refine r_getR B (C := RX0) (T := TX0) (N := 9) (hc1.1) 1 rfl win_X0 (by decide) rfl wf_X0_21 dX0_copyFrom_16 ?_
  refine r_cV B (st := []) (as := [.ref (eA E (c1 + 5))]) (T := TX8) (N := 4) (c_Th_copyFrom (c + 5) (c1 + 5) _ (hc.2.2.1) (hc1.2.2.1) hI21 ) v (hc.2.2.1.1) rfl mw_Th_copyFrom wl_X0_68 ⟨Nat.le_of_ble_eq_true rfl, Nat.le_of_ble_eq_true rfl⟩ rfl rfl (Nat.le_of_ble_eq_true rfl) dX0_copyFrom_19 (fun I22 hI22 v => ?_)
  refine r_aload_n B dX0_copyFrom_22 rfl rfl ?_
  refine r_getR B (C := RX0) (T := TX0) (N := 9) (hc.1) 2 rfl win_X0 (by decide) rfl wf_X0_28 dX0_copyFrom_23 ?_
  refine r_aload_n B dX0_copyFrom_26 rfl rfl ?_
  refine r_getR B (C := RX0) (T := TX0) (N := 9) (hc1.1) 2 rfl win_X0 (by decide) rfl wf_X0_28 dX0_copyFrom_27 ?_
  refine r_cV B (st := []) (as := [.ref (eA E (c1 + 9))]) (T := TX5) (N := 4) (c_Ru_copyFrom (c + 9) (c1 + 9) _ (hc.2.2.2.1) (hc1.2.2.2.1) hI22 ) v (hc.2.2.2.1.1) rfl mw_Ru_copyFrom wl_X0_71 ⟨Nat.le_of_ble_eq_true rfl, Nat.le_of_ble_eq_true rfl⟩ rfl rfl (Nat.le_of_ble_eq_true rfl) dX0_copyFrom_30 (fun I23 hI23 v => ?_)
  refine r_aload_n B dX0_copyFrom_33 rfl rfl ?_
  refine r_getR B (C := RX0) (T := TX0) (N := 9) (hc.1) 3 rfl win_X0 (by decide) rfl wf_X0_35 dX0_copyFrom_34 ?_
  refine r_aload_n B dX0_copyFrom_37 rfl rfl ?_
  refine r_getR B (C := RX0) (T := TX0) (N := 9) (hc1.1) 3 rfl win_X0 (by decide) rfl wf_X0_35 dX0_copyFrom_38 ?_
  refine r_cV B (st := []) (as := [.ref (eA E (c1 + 13))]) (T := TX2) (N := 3) (c_Lo_copyFrom (c + 13) (c1 + 13) _ (hc.2.2.2.2.1) (hc1.2.2.2.2.1) hI23 ) v (hc.2.2.2.2.1.1) rfl mw_Lo_copyFrom wl_X0_74 ⟨Nat.le_of_ble_eq_true rfl, Nat.le_of_ble_eq_true rfl⟩ rfl rfl (Nat.le_of_ble_eq_true rfl) dX0_copyFrom_41 (fun I24 hI24 v => ?_)
  refine r_aload_n B dX0_copyFrom_44 rfl rfl ?_
  refine r_getR B (C := RX0) (T := TX0) (N := 9) (hc1.1) 4 rfl win_X0 (by decide) rfl wf_X0_39 dX0_copyFrom_45 ?_
  refine r_iconst B dX0_copyFrom_48 ?_
  refine r_aload_n B dX0_copyFrom_49 rfl rfl ?_
  refine r_getR B (C := RX0) (T := TX0) (N := 9) (hc.1) 4 rfl win_X0 (by decide) rfl wf_X0_39 dX0_copyFrom_50 ?_
  refine r_iconst B dX0_copyFrom_53 ?_
  refine r_bipush B dX0_copyFrom_54 (by decide) ?_
  refine r_copy B (hc1.2.2.2.2.2) (hc.2.2.2.2.2) (by decide) (by decide) ⟨by decide, by decide, by decide, by decide, by decide⟩ wl_X0_77 wn_copy ws_copy wi_System (Nat.le_of_ble_eq_true rfl) (by decide) dX0_copyFrom_56 ?_
  have hI25 : rgM (cpM I24 (c1 + 15) 0 (c + 15) 0 8) := rg_cp hI24
  refine r_aload_n B dX0_copyFrom_59 rfl rfl ?_
  refine r_aload_n B dX0_copyFrom_60 rfl rfl ?_
  refine r_getI B (C := RX0) (T := TX0) (N := 9) (hc1.1) 5 rfl win_X0 (by decide) rfl wf_X0_43 dX0_copyFrom_61 (jj := 5) rfl ?_
  refine r_putI B (C := RX0) (T := TX0) (N := 9) (hc.1) 5 rfl win_X0 tyX0 tyX0_ok nmX0 (by decide) rfl rfl rfl wf_X0_43 dX0_copyFrom_64 (jj := 5) rfl ?_
  have hI26 : rgM (wrM ((cpM I24 (c1 + 15) 0 (c + 15) 0 8)) c 5 ((cpM I24 (c1 + 15) 0 (c + 15) 0 8) c1 5)) := rg_wr hI25 ((hI25 _ _))
  refine r_aload_n B dX0_copyFrom_67 rfl rfl ?_
  refine r_aload_n B dX0_copyFrom_68 rfl rfl ?_
  refine r_getI B (C := RX0) (T := TX0) (N := 9) (hc1.1) 6 rfl win_X0 (by decide) rfl wf_X0_47 dX0_copyFrom_69 (jj := 6) rfl ?_
  refine r_putI B (C := RX0) (T := TX0) (N := 9) (hc.1) 6 rfl win_X0 tyX0 tyX0_ok nmX0 (by decide) rfl rfl rfl wf_X0_47 dX0_copyFrom_72 (jj := 6) rfl ?_
  have hI27 : rgM (wrM ((wrM ((cpM I24 (c1 + 15) 0 (c + 15) 0 8)) c 5 ((cpM I24 (c1 + 15) 0 (c + 15) 0 8) c1 5))) c 6 ((wrM ((cpM I24 (c1 + 15) 0 (c + 15) 0 8)) c 5 ((cpM I24 (c1 + 15) 0 (c + 15) 0 8) c1 5)) c1 6)) := rg_wr hI26 ((hI26 _ _))
  refine r_aload_n B dX0_copyFrom_75 rfl rfl ?_
  refine r_aload_n B dX0_copyFrom_76 rfl rfl ?_
  refine r_getI B (C := RX0) (T := TX0) (N := 9) (hc1.1) 7 rfl win_X0 (by decide) rfl wf_X0_58 dX0_copyFrom_77 (jj := 7) rfl ?_
  refine r_putI B (C := RX0) (T := TX0) (N := 9) (hc.1) 7 rfl win_X0 tyX0 tyX0_ok nmX0 (by decide) rfl rfl rfl wf_X0_58 dX0_copyFrom_80 (jj := 7) rfl ?_
  have hI28 : rgM (wrM ((wrM ((wrM ((cpM I24 (c1 + 15) 0 (c + 15) 0 8)) c 5 ((cpM I24 (c1 + 15) 0 (c + 15) 0 8) c1 5))) c 6 ((wrM ((cpM I24 (c1 + 15) 0 (c + 15) 0 8)) c 5 ((cpM I24 (c1 + 15) 0 (c + 15) 0 8) c1 5)) c1 6))) c 7 ((wrM ((wrM ((cpM I24 (c1 + 15) 0 (c + 15) 0 8)) c 5 ((cpM I24 (c1 + 15) 0 (c + 15) 0 8) c1 5))) c 6 ((wrM ((cpM I24 (c1 + 15) 0 (c + 15) 0 8)) c 5 ((cpM I24 (c1 + 15) 0 (c + 15) 0 8) c1 5)) c1 6)) c1 7)) := rg_wr hI27 ((hI27 _ _))
  refine r_aload_n B dX0_copyFrom_83 rfl rfl ?_
  refine r_aload_n B dX0_copyFrom_84 rfl rfl ?_
  refine r_getI B (C := RX0) (T := TX0) (N := 9) (hc1.1) 8 rfl win_X0 (by decide) rfl wf_X0_61 dX0_copyFrom_85 (jj := 8) rfl ?_
  refine r_putI B (C := RX0) (T := TX0) (N := 9) (hc.1) 8 rfl win_X0 tyX0 tyX0_ok nmX0 (by decide) rfl rfl rfl wf_X0_61 dX0_copyFrom_88 (jj := 8) rfl ?_
  have hI29 : rgM (wrM ((wrM ((wrM ((wrM ((cpM I24 (c1 + 15) 0 (c + 15) 0 8)) c 5 ((cpM I24 (c1 + 15) 0 (c + 15) 0 8) c1 5))) c 6 ((wrM ((cpM I24 (c1 + 15) 0 (c + 15) 0 8)) c 5 ((cpM I24 (c1 + 15) 0 (c + 15) 0 8) c1 5)) c1 6))) c 7 ((wrM ((wrM ((cpM I24 (c1 + 15) 0 (c + 15) 0 8)) c 5 ((cpM I24 (c1 + 15) 0 (c + 15) 0 8) c1 5))) c 6 ((wrM ((cpM I24 (c1 + 15) 0 (c + 15) 0 8)) c 5 ((cpM I24 (c1 + 15) 0 (c + 15) 0 8) c1 5)) c1 6)) c1 7))) c 8 ((wrM ((wrM ((wrM ((cpM I24 (c1 + 15) 0 (c + 15) 0 8)) c 5 ((cpM I24 (c1 + 15) 0 (c + 15) 0 8) c1 5))) c 6 ((wrM ((cpM I24 (c1 + 15) 0 (c + 15) 0 8)) c 5 ((cpM I24 (c1 + 15) 0 (c + 15) 0 8) c1 5)) c1 6))) c 7 ((wrM ((wrM ((cpM I24 (c1 + 15) 0 (c + 15) 0 8)) c 5 ((cpM I24 (c1 + 15) 0 (c + 15) 0 8) c1 5))) c 6 ((wrM ((cpM I24 (c1 + 15) 0 (c + 15) 0 8)) c 5 ((cpM I24 (c1 + 15) 0 (c + 15) 0 8) c1 5)) c1 6)) c1 7)) c1 8)) := rg_wr hI28 ((hI28 _ _))
  exact r_vret B hr hk hI29 v dX0_copyFrom_91
set_option maxHeartbeats 4000000 in
set_option maxRecDepth 100000 in
theorem c_Hi_forget {l : Launch} {E : En} {A : Nat → Prop}  (I : Mm)  (hI : rgM I)  : CV l E A yX1_forget cX1_forget 1 0 0 [.ref (eA E 39)] I (V_Hi_forget  I) := by
  intro Q v
  refine mk_met (own := RX1) (lv0 := [(0, .ref (eA E 39))]) (by decide) rfl (Nat.le_of_ble_eq_true rfl) rfl (fun p e s m args below meth c0 B hr hk => ?_)
  unfold V_Hi_forget at v
  refine r_aload_n B dX1_forget_0 rfl rfl ?_
  refine r_iconst B dX1_forget_1 ?_
  refine r_putI B (C := RX1) (T := TX1) (N := 3) o_39 0 rfl win_X1 tyX1 tyX1_ok nmX1 (by decide) rfl rfl rfl wf_X1_26 dX1_forget_2 (jj := 0) rfl ?_
  have hI21 : rgM (wrM I 39 0 0) := rg_wr hI ((rg_lit (by decide) (by decide)))
  exact r_vret B hr hk hI21 v dX1_forget_5
set_option maxHeartbeats 4000000 in
set_option maxRecDepth 100000 in
theorem c_X_tell {l : Launch} {E : En} {A : Nat → Prop}  (I : Mm)  (hI : rgM I)  : CI l E A yX10_tell cX10_tell 2 .int 9 230 [.ref (eA E 0)] I (V_X_tell  I) := by
  intro Q v
  refine mk_met (own := RX10) (lv0 := [(0, .ref (eA E 0))]) (by decide) rfl (Nat.le_of_ble_eq_true rfl) rfl (fun p e s m args below meth c0 B hr hk => ?_)
  unfold V_X_tell at v
  refine r_aload_n B dX10_tell_0 rfl rfl ?_
  refine r_getR B (C := RX10) (T := TX10) (N := 11) o_0 3 rfl win_X10 (by decide) rfl wf_X10_31 dX10_tell_1 ?_
  refine r_cI B (st := []) (as := []) (T := TX4) (N := 4) (c_Re_readAll _ hI ) v o_35 rfl mw_Re_readAll wl_X10_78 ⟨Nat.le_of_ble_eq_true rfl, Nat.le_of_ble_eq_true rfl⟩ rfl rfl (Nat.le_of_ble_eq_true rfl) dX10_tell_4 (fun z21 I22 hz21 hI22 v => ?_)
  refine r_istore_n B dX10_tell_7 rfl (by decide) (lv' := [(1, .int (i2 z21)), (0, .ref (eA E 0))]) rfl ?_
  refine r_sub [1, 0] rfl ?_
  refine r_aload_n B dX10_tell_8 rfl rfl ?_
  refine r_getR B (C := RX10) (T := TX10) (N := 11) o_0 2 rfl win_X10 (by decide) rfl wf_X10_22 dX10_tell_9 ?_
  refine r_iconst B dX10_tell_12 ?_
  refine r_putI B (C := RX6) (T := TX6) (N := 2) o_33 0 rfl win_X6 tyX6 tyX6_ok nmX6 (by decide) rfl rfl rfl wf_X10_71 dX10_tell_13 (jj := 0) rfl ?_
  have hI23 : rgM (wrM I22 33 0 0) := rg_wr hI22 ((rg_lit (by decide) (by decide)))
  refine r_iload_n B dX10_tell_16 rfl rfl ?_
  refine r_if_eq B (tgt := 25) dX10_tell_17 (by decide) hz21 (fun h => ?_) (fun h => ?_)
  · have v := v.1 h
    refine r_aload_n B dX10_tell_25 rfl rfl ?_
    refine r_getR B (C := RX10) (T := TX10) (N := 11) o_0 0 rfl win_X10 (by decide) rfl wf_X10_10 dX10_tell_26 ?_
    refine r_aload_n B dX10_tell_29 rfl rfl ?_
    refine r_getR B (C := RX10) (T := TX10) (N := 11) o_0 1 rfl win_X10 (by decide) rfl wf_X10_16 dX10_tell_30 ?_
    refine r_cV B (st := []) (as := [.ref (eA E 17)]) (T := TX0) (N := 9) (c_Ca_copyFrom 1 17 _ ca_1 ca_17 hI23 ) v (ca_1.1) rfl mw_Ca_copyFrom wl_X10_82 ⟨Nat.le_of_ble_eq_true rfl, Nat.le_of_ble_eq_true rfl⟩ rfl rfl (Nat.le_of_ble_eq_true rfl) dX10_tell_33 (fun I24 hI24 v => ?_)
    refine r_aload_n B dX10_tell_36 rfl rfl ?_
    refine r_getR B (C := RX10) (T := TX10) (N := 11) o_0 6 rfl win_X10 (by decide) rfl wf_X10_52 dX10_tell_37 ?_
    refine r_cV B (st := []) (as := []) (T := TX1) (N := 3) (c_Hi_forget _ hI24 ) v o_39 rfl mw_Hi_forget wl_X10_86 ⟨Nat.le_of_ble_eq_true rfl, Nat.le_of_ble_eq_true rfl⟩ rfl rfl (Nat.le_of_ble_eq_true rfl) dX10_tell_40 (fun I25 hI25 v => ?_)
    refine r_aload_n B dX10_tell_43 rfl rfl ?_
    refine r_getR B (C := RX10) (T := TX10) (N := 11) o_0 0 rfl win_X10 (by decide) rfl wf_X10_10 dX10_tell_44 ?_
    refine r_getR B (C := RX0) (T := TX0) (N := 9) (ca_1.1) 1 rfl win_X0 (by decide) rfl wf_X10_89 dX10_tell_47 ?_
    refine r_getI B (C := RX8) (T := TX8) (N := 4) (ca_1.2.2.1.1) 0 rfl win_X8 (by decide) rfl wf_X10_93 dX10_tell_50 (jj := 0) rfl ?_
    exact r_iret B hr hk rfl ((hI25 _ _)) hI25 v dX10_tell_53
  · have v := v.2 h
    refine r_bipush B dX10_tell_20 (by decide) ?_
    refine r_iload_n B dX10_tell_22 rfl rfl ?_
    refine r_isub B dX10_tell_23 ?_
    obtain ⟨h26, v⟩ := v
    exact r_iret B hr hk rfl h26 hI23 v dX10_tell_24
set_option maxHeartbeats 4000000 in
set_option maxRecDepth 100000 in
theorem wL_Ta_asWord_15 {p : Program} {l : Launch} {e : Env} {s : State} {m : MethodId} {args : Array Value} {below : List Frame} {meth : Method} {c0 : Code} {E : En} {A : Nat → Prop}  {Q : Int → Mm → Prop}  (B : Bd p (rmm 1 21) s m args c0 cX6_asWord 3 RX6 E A 0 0) (hr : meth.sig.returnType = some .int) (hk : meth.locks = false)    : ∀ (n : Nat) (x1 : Int) (x2 : Int) (I : Mm), rgM I → r32 x1 → r32 x2 → L_Ta_asWord_15 Q n x1 x2 I → WI p l e (rmm 1 21) s m args below meth c0 E A 3 0 0 (qI below E A args s Q) I 15 [(0, .ref (eA E 33)), (1, .int (i2 x1)), (2, .int (i2 x2))] [] := by
  intro n
  induction n with
  | zero => intro x1 x2 I _ _ _ v; exact absurd v id
  | succ n ih =>
    intro x1 x2 I hI h1 h2 v
    unfold L_Ta_asWord_15 at v
    refine r_iload_n B dX6_asWord_15 rfl rfl ?_
    refine r_aload_n B dX6_asWord_16 rfl rfl ?_
    refine r_getI B (C := RX6) (T := TX6) (N := 2) o_33 0 rfl win_X6 (by decide) rfl wf_X6_15 dX6_asWord_17 (jj := 0) rfl ?_
    refine r_icmp_ge B (tgt := 52) dX6_asWord_20 (by decide) h2 ((hI _ _)) (fun h => ?_) (fun h => ?_)
    · have v := v.1 h
      refine r_iload_n B dX6_asWord_52 rfl rfl ?_
      exact r_iret B hr hk rfl h1 hI v dX6_asWord_53
    · have v := v.2 h
      refine r_aload_n B dX6_asWord_23 rfl rfl ?_
      refine r_iload_n B dX6_asWord_24 rfl rfl ?_
      refine r_cI B (st := []) (as := [.int (i2 x2)]) (T := TX6) (N := 2) (c_Ta_at x2 _ hI h2) v o_33 rfl mw_Ta_at wl_X6_19 ⟨Nat.le_of_ble_eq_true rfl, Nat.le_of_ble_eq_true rfl⟩ rfl rfl (Nat.le_of_ble_eq_true rfl) dX6_asWord_25 (fun z21 I22 hz21 hI22 v => ?_)
      refine r_nI B (st := []) (as := [.int (i2 z21)]) (host := "DayRows") (c_X_isLetter z21 _ hI22 hz21) v mw_X_isLetter (by decide) ⟨Nat.le_of_ble_eq_true rfl, Nat.le_of_ble_eq_true rfl⟩ rfl rfl (Nat.le_of_ble_eq_true rfl) dX6_asWord_28 (fun z23 I24 hz23 hI24 v => ?_)
      refine r_if_ne B (tgt := 36) dX6_asWord_31 (by decide) hz23 (fun h => ?_) (fun h => ?_)
      · have v := v.1 h
        refine r_iload_n B dX6_asWord_36 rfl rfl ?_
        refine r_aload_n B dX6_asWord_37 rfl rfl ?_
        refine r_iload_n B dX6_asWord_38 rfl rfl ?_
        refine r_cI B (st := [.int (i2 x1)]) (as := [.int (i2 x2)]) (T := TX6) (N := 2) (c_Ta_at x2 _ hI24 h2) v o_33 rfl mw_Ta_at wl_X6_19 ⟨Nat.le_of_ble_eq_true rfl, Nat.le_of_ble_eq_true rfl⟩ rfl rfl (Nat.le_of_ble_eq_true rfl) dX6_asWord_39 (fun z25 I26 hz25 hI26 v => ?_)
        refine r_nI B (st := []) (as := [.int (i2 x1), .int (i2 z25)]) (host := "DayRows") (c_X_withLetter x1 z25 _ hI26 h1 hz25) v mw_X_withLetter (by decide) ⟨Nat.le_of_ble_eq_true rfl, Nat.le_of_ble_eq_true rfl⟩ rfl rfl (Nat.le_of_ble_eq_true rfl) dX6_asWord_42 (fun z27 I28 hz27 hI28 v => ?_)
        refine r_istore_n B dX6_asWord_45 rfl (by decide) (lv' := [(1, .int (i2 z27)), (0, .ref (eA E 33)), (2, .int (i2 x2))]) rfl ?_
        refine r_sub [1, 0, 2] rfl ?_
        refine r_iinc B (q := 2) dX6_asWord_46 (by decide) rfl (lv' := [(2, .int (i2 (x2 + 1))), (0, .ref (eA E 33)), (1, .int (i2 z27))]) rfl ?_
        refine r_sub [1, 2, 0] rfl ?_
        refine r_goto B (tgt := 15) dX6_asWord_49 (by decide) ?_
        obtain ⟨h29, v⟩ := v
        refine r_sub [0, 1, 2] rfl ?_
        exact ih z27 (x2 + 1) _ hI28 hz27 h29 v
      · have v := v.2 h
        refine r_iconst B dX6_asWord_34 ?_
        exact r_iret B hr hk rfl ((rg_lit (by decide) (by decide))) hI24 v dX6_asWord_35
set_option maxHeartbeats 4000000 in
set_option maxRecDepth 100000 in
theorem c_Ta_asWord {l : Launch} {E : En} {A : Nat → Prop}  (I : Mm)  (hI : rgM I)  : CI l E A yX6_asWord cX6_asWord 3 .int 1 21 [.ref (eA E 33)] I (V_Ta_asWord  I) := by
  intro Q v
  refine mk_met (own := RX6) (lv0 := [(0, .ref (eA E 33))]) (by decide) rfl (Nat.le_of_ble_eq_true rfl) rfl (fun p e s m args below meth c0 B hr hk => ?_)
  unfold V_Ta_asWord at v
  refine r_aload_n B dX6_asWord_0 rfl rfl ?_
  refine r_getI B (C := RX6) (T := TX6) (N := 2) o_33 0 rfl win_X6 (by decide) rfl wf_X6_15 dX6_asWord_1 (jj := 0) rfl ?_
  refine r_bipush B dX6_asWord_4 (by decide) ?_
  refine r_icmp_le B (tgt := 11) dX6_asWord_6 (by decide) ((hI _ _)) ((rg_lit (by decide) (by decide))) (fun h => ?_) (fun h => ?_)
  · have v := v.1 h
    refine r_iconst B dX6_asWord_11 ?_
    refine r_istore_n B dX6_asWord_12 rfl (by decide) (lv' := [(1, .int (i2 0)), (0, .ref (eA E 33))]) rfl ?_
    refine r_sub [1, 0] rfl ?_
    refine r_iconst B dX6_asWord_13 ?_
    refine r_istore_n B dX6_asWord_14 rfl (by decide) (lv' := [(2, .int (i2 0)), (0, .ref (eA E 33)), (1, .int (i2 0))]) rfl ?_
    refine r_sub [1, 2, 0] rfl ?_
    obtain ⟨f30, v⟩ := v
    refine r_sub [0, 1, 2] rfl ?_
    exact wL_Ta_asWord_15 B hr hk f30 0 0 I hI ((rg_lit (by decide) (by decide))) ((rg_lit (by decide) (by decide))) v
  · have v := v.2 h
    refine r_iconst B dX6_asWord_9 ?_
    exact r_iret B hr hk rfl ((rg_lit (by decide) (by decide))) hI v dX6_asWord_10
set_option maxHeartbeats 4000000 in
set_option maxRecDepth 100000 in
theorem c_Hi_remember {l : Launch} {E : En} {A : Nat → Prop} (c1 : Int) (I : Mm) (hc1 : isCa c1) (hI : rgM I)  : CV l E A yX1_remember cX1_remember 2 3 102 [.ref (eA E 39), .ref (eA E c1)] I (V_Hi_remember c1 I) := by
  intro Q v
  refine mk_met (own := RX1) (lv0 := [(0, .ref (eA E 39)), (1, .ref (eA E c1))]) (by decide) rfl (Nat.le_of_ble_eq_true rfl) rfl (fun p e s m args below meth c0 B hr hk => ?_)
  unfold V_Hi_remember at v
  refine r_aload_n B dX1_remember_0 rfl rfl ?_
  refine r_getR B (C := RX1) (T := TX1) (N := 3) o_39 2 rfl win_X1 (by decide) rfl wf_X1_11 dX1_remember_1 ?_
  refine r_aload_n B dX1_remember_4 rfl rfl ?_
  refine r_getI B (C := RX1) (T := TX1) (N := 3) o_39 1 rfl win_X1 (by decide) rfl wf_X1_18 dX1_remember_5 (jj := 1) rfl ?_
  obtain ⟨h21, v⟩ := v
  refine r_aald B (b := 41) (n := 10) q_40.1 q_40.2.1 (by decide) q_40.2.2 h21 dX1_remember_8 ?_
  refine r_aload_n B dX1_remember_9 rfl rfl ?_
  refine r_cV B (st := []) (as := [.ref (eA E c1)]) (T := TX0) (N := 9) (c_Ca_copyFrom (41 + 16 * I 39 1) c1 _ ((ca_hist h21)) hc1 hI ) v ((ca_hist h21).1) rfl mw_Ca_copyFrom wl_X1_22 ⟨Nat.le_of_ble_eq_true rfl, Nat.le_of_ble_eq_true rfl⟩ rfl rfl (Nat.le_of_ble_eq_true rfl) dX1_remember_10 (fun I22 hI22 v => ?_)
  refine r_aload_n B dX1_remember_13 rfl rfl ?_
  refine r_aload_n B dX1_remember_14 rfl rfl ?_
  refine r_getI B (C := RX1) (T := TX1) (N := 3) o_39 1 rfl win_X1 (by decide) rfl wf_X1_18 dX1_remember_15 (jj := 1) rfl ?_
  refine r_iconst B dX1_remember_18 ?_
  refine r_iadd B dX1_remember_19 ?_
  refine r_bipush B dX1_remember_20 (by decide) ?_
  obtain ⟨h23, v⟩ := v
  obtain ⟨h24, v⟩ := v
  refine r_irem B dX1_remember_22 h23 ((rg_lit (by decide) (by decide))) (show 0 ≤ (I22 39 1 + 1) ∧ (0 : Int) < 10 from ⟨h24, by decide⟩) ?_
  refine r_putI B (C := RX1) (T := TX1) (N := 3) o_39 1 rfl win_X1 tyX1 tyX1_ok nmX1 (by decide) rfl rfl rfl wf_X1_18 dX1_remember_23 (jj := 1) rfl ?_
  have hI25 : rgM (wrM I22 39 1 ((I22 39 1 + 1) % 10)) := rg_wr hI22 ((rg_rem ((rg_lit (by decide) (by decide))) (show 0 ≤ (I22 39 1 + 1) ∧ (0 : Int) < 10 from ⟨h24, by decide⟩).2))
  refine r_aload_n B dX1_remember_26 rfl rfl ?_
  refine r_aload_n B dX1_remember_27 rfl rfl ?_
  refine r_getI B (C := RX1) (T := TX1) (N := 3) o_39 0 rfl win_X1 (by decide) rfl wf_X1_26 dX1_remember_28 (jj := 0) rfl ?_
  refine r_iconst B dX1_remember_31 ?_
  refine r_iadd B dX1_remember_32 ?_
  refine r_bipush B dX1_remember_33 (by decide) ?_
  obtain ⟨h26, v⟩ := v
  refine r_min B wl_X1_29 ws_r_min wi_Math wd_r_min (Nat.le_of_ble_eq_true rfl) (Nat.le_of_ble_eq_true rfl) h26 ((rg_lit (by decide) (by decide))) dX1_remember_35 ?_
  refine r_putI B (C := RX1) (T := TX1) (N := 3) o_39 0 rfl win_X1 tyX1 tyX1_ok nmX1 (by decide) rfl rfl rfl wf_X1_26 dX1_remember_38 (jj := 0) rfl ?_
  have hI27 : rgM (wrM ((wrM I22 39 1 ((I22 39 1 + 1) % 10))) 39 0 (min ((wrM I22 39 1 ((I22 39 1 + 1) % 10)) 39 0 + 1) 10)) := rg_wr hI25 ((rg_min h26 ((rg_lit (by decide) (by decide)))))
  exact r_vret B hr hk hI27 v dX1_remember_41
set_option maxHeartbeats 4000000 in
set_option maxRecDepth 100000 in
theorem c_X_name {l : Launch} {E : En} {A : Nat → Prop}  (I : Mm)  (hI : rgM I)  : CI l E A yX10_name cX10_name 3 .int 4 123 [.ref (eA E 0)] I (V_X_name  I) := by
  intro Q v
  refine mk_met (own := RX10) (lv0 := [(0, .ref (eA E 0))]) (by decide) rfl (Nat.le_of_ble_eq_true rfl) rfl (fun p e s m args below meth c0 B hr hk => ?_)
  unfold V_X_name at v
  refine r_aload_n B dX10_name_0 rfl rfl ?_
  refine r_getR B (C := RX10) (T := TX10) (N := 11) o_0 2 rfl win_X10 (by decide) rfl wf_X10_22 dX10_name_1 ?_
  refine r_cI B (st := []) (as := []) (T := TX6) (N := 2) (c_Ta_asWord _ hI ) v o_33 rfl mw_Ta_asWord wl_X10_98 ⟨Nat.le_of_ble_eq_true rfl, Nat.le_of_ble_eq_true rfl⟩ rfl rfl (Nat.le_of_ble_eq_true rfl) dX10_name_4 (fun z21 I22 hz21 hI22 v => ?_)
  refine r_istore_n B dX10_name_7 rfl (by decide) (lv' := [(1, .int (i2 z21)), (0, .ref (eA E 0))]) rfl ?_
  refine r_sub [1, 0] rfl ?_
  refine r_aload_n B dX10_name_8 rfl rfl ?_
  refine r_getR B (C := RX10) (T := TX10) (N := 11) o_0 2 rfl win_X10 (by decide) rfl wf_X10_22 dX10_name_9 ?_
  refine r_iconst B dX10_name_12 ?_
  refine r_putI B (C := RX6) (T := TX6) (N := 2) o_33 0 rfl win_X6 tyX6 tyX6_ok nmX6 (by decide) rfl rfl rfl wf_X10_71 dX10_name_13 (jj := 0) rfl ?_
  have hI23 : rgM (wrM I22 33 0 0) := rg_wr hI22 ((rg_lit (by decide) (by decide)))
  refine r_iload_n B dX10_name_16 rfl rfl ?_
  refine r_if_ne B (tgt := 23) dX10_name_17 (by decide) hz21 (fun h => ?_) (fun h => ?_)
  · have v := v.1 h
    refine r_aload_n B dX10_name_23 rfl rfl ?_
    refine r_getR B (C := RX10) (T := TX10) (N := 11) o_0 0 rfl win_X10 (by decide) rfl wf_X10_10 dX10_name_24 ?_
    refine r_getR B (C := RX0) (T := TX0) (N := 9) (ca_1.1) 0 rfl win_X0 (by decide) rfl wf_X10_101 dX10_name_27 ?_
    refine r_iload_n B dX10_name_30 rfl rfl ?_
    refine r_cI B (st := []) (as := [.int (i2 z21)]) (T := TX3) (N := 4) (c_Nm_find (1 + 1) z21 _ (ca_1.2.1) hI23 hz21) v (ca_1.2.1.1) rfl mw_Nm_find wl_X10_105 ⟨Nat.le_of_ble_eq_true rfl, Nat.le_of_ble_eq_true rfl⟩ rfl rfl (Nat.le_of_ble_eq_true rfl) dX10_name_31 (fun z24 I25 hz24 hI25 v => ?_)
    refine r_istore_n B dX10_name_34 rfl (by decide) (lv' := [(2, .int (i2 z24)), (0, .ref (eA E 0)), (1, .int (i2 z21))]) rfl ?_
    refine r_sub [1, 2, 0] rfl ?_
    refine r_iload_n B dX10_name_35 rfl rfl ?_
    refine r_iconst B dX10_name_36 ?_
    refine r_icmp_eq B (tgt := 42) dX10_name_37 (by decide) hz24 ((rg_lit (by decide) (by decide))) (fun h => ?_) (fun h => ?_)
    · have v := v.1 h
      refine r_aload_n B dX10_name_42 rfl rfl ?_
      refine r_getR B (C := RX10) (T := TX10) (N := 11) o_0 0 rfl win_X10 (by decide) rfl wf_X10_10 dX10_name_43 ?_
      refine r_getR B (C := RX0) (T := TX0) (N := 9) (ca_1.1) 0 rfl win_X0 (by decide) rfl wf_X10_101 dX10_name_46 ?_
      refine r_getI B (C := RX3) (T := TX3) (N := 4) (ca_1.2.1.1) 0 rfl win_X3 (by decide) rfl wf_X10_111 dX10_name_49 (jj := 0) rfl ?_
      refine r_bipush B dX10_name_52 (by decide) ?_
      refine r_icmp_lt B (tgt := 60) dX10_name_54 (by decide) ((hI25 _ _)) ((rg_lit (by decide) (by decide))) (fun h => ?_) (fun h => ?_)
      · have v := v.1 h
        refine r_aload_n B dX10_name_60 rfl rfl ?_
        refine r_getR B (C := RX10) (T := TX10) (N := 11) o_0 6 rfl win_X10 (by decide) rfl wf_X10_52 dX10_name_61 ?_
        refine r_aload_n B dX10_name_64 rfl rfl ?_
        refine r_getR B (C := RX10) (T := TX10) (N := 11) o_0 0 rfl win_X10 (by decide) rfl wf_X10_10 dX10_name_65 ?_
        refine r_cV B (st := []) (as := [.ref (eA E 1)]) (T := TX1) (N := 3) (c_Hi_remember 1 _ ca_1 hI25 ) v o_39 rfl mw_Hi_remember wl_X10_112 ⟨Nat.le_of_ble_eq_true rfl, Nat.le_of_ble_eq_true rfl⟩ rfl rfl (Nat.le_of_ble_eq_true rfl) dX10_name_68 (fun I26 hI26 v => ?_)
        refine r_aload_n B dX10_name_71 rfl rfl ?_
        refine r_getR B (C := RX10) (T := TX10) (N := 11) o_0 0 rfl win_X10 (by decide) rfl wf_X10_10 dX10_name_72 ?_
        refine r_getR B (C := RX0) (T := TX0) (N := 9) (ca_1.1) 0 rfl win_X0 (by decide) rfl wf_X10_101 dX10_name_75 ?_
        refine r_iload_n B dX10_name_78 rfl rfl ?_
        refine r_cI B (st := []) (as := [.int (i2 z21)]) (T := TX3) (N := 4) (c_Nm_findOrAdd (1 + 1) z21 _ (ca_1.2.1) hI26 hz21) v (ca_1.2.1.1) rfl mw_Nm_findOrAdd wl_X10_115 ⟨Nat.le_of_ble_eq_true rfl, Nat.le_of_ble_eq_true rfl⟩ rfl rfl (Nat.le_of_ble_eq_true rfl) dX10_name_79 (fun z27 I28 hz27 hI28 v => ?_)
        exact r_iret B hr hk rfl hz27 hI28 v dX10_name_82
      · have v := v.2 h
        refine r_bipush B dX10_name_57 (by decide) ?_
        exact r_iret B hr hk rfl ((rg_lit (by decide) (by decide))) hI25 v dX10_name_59
    · have v := v.2 h
      refine r_iload_n B dX10_name_40 rfl rfl ?_
      exact r_iret B hr hk rfl hz24 hI25 v dX10_name_41
  · have v := v.2 h
    refine r_bipush B dX10_name_20 (by decide) ?_
    exact r_iret B hr hk rfl ((rg_lit (by decide) (by decide))) hI23 v dX10_name_22
set_option maxHeartbeats 4000000 in
set_option maxRecDepth 100000 in
theorem c_Nm_has {l : Launch} {E : En} {A : Nat → Prop} (c : Int) (x1 : Int) (I : Mm) (hc : isNm c) (hI : rgM I) (h1 : r32 x1) : CI l E A yX3_has cX3_has 2 .boolean 0 0 [.ref (eA E c), .int (i2 x1)] I (V_Nm_has c x1 I) := by
  intro Q v
  refine mk_met (own := RX3) (lv0 := [(0, .ref (eA E c)), (1, .int (i2 x1))]) (by decide) rfl (Nat.le_of_ble_eq_true rfl) rfl (fun p e s m args below meth c0 B hr hk => ?_)
  unfold V_Nm_has at v
  refine r_iload_n B dX3_has_0 rfl rfl ?_
  refine r_if_lt B (tgt := 16) dX3_has_1 (by decide) h1 (fun h => ?_) (fun h => ?_)
  · have v := v.1 h
    refine r_iconst B dX3_has_16 ?_
    exact r_iret B hr hk rfl ((rg_lit (by decide) (by decide))) hI v dX3_has_17
  · have v := v.2 h
    refine r_iload_n B dX3_has_4 rfl rfl ?_
    refine r_aload_n B dX3_has_5 rfl rfl ?_
    refine r_getI B (C := RX3) (T := TX3) (N := 4) (hc.1) 0 rfl win_X3 (by decide) rfl wf_X3_21 dX3_has_6 (jj := 0) rfl ?_
    refine r_icmp_ge B (tgt := 16) dX3_has_9 (by decide) h1 ((hI _ _)) (fun h => ?_) (fun h => ?_)
    · have v := v.1 h
      refine r_iconst B dX3_has_16 ?_
      exact r_iret B hr hk rfl ((rg_lit (by decide) (by decide))) hI v dX3_has_17
    · have v := v.2 h
      refine r_iconst B dX3_has_12 ?_
      refine r_goto B (tgt := 17) dX3_has_13 (by decide) ?_
      exact r_iret B hr hk rfl ((rg_lit (by decide) (by decide))) hI v dX3_has_17
set_option maxHeartbeats 4000000 in
set_option maxRecDepth 100000 in
theorem c_X_isHour {l : Launch} {E : En} {A : Nat → Prop} (x0 : Int) (I : Mm)  (hI : rgM I) (h0 : r32 x0) : CI l E A yX10_isHour cX10_isHour 1 .boolean 0 0 [.int (i2 x0)] I (V_X_isHour x0 I) := by
  intro Q v
  refine mk_met (own := RX10) (lv0 := [(0, .int (i2 x0))]) (by decide) rfl (Nat.le_of_ble_eq_true rfl) rfl (fun p e s m args below meth c0 B hr hk => ?_)
  unfold V_X_isHour at v
  refine r_iload_n B dX10_isHour_0 rfl rfl ?_
  refine r_if_lt B (tgt := 14) dX10_isHour_1 (by decide) h0 (fun h => ?_) (fun h => ?_)
  · have v := v.1 h
    refine r_iconst B dX10_isHour_14 ?_
    exact r_iret B hr hk rfl ((rg_lit (by decide) (by decide))) hI v dX10_isHour_15
  · have v := v.2 h
    refine r_iload_n B dX10_isHour_4 rfl rfl ?_
    refine r_ldc B (999999999) dX10_isHour_5 wc_X10_175 (by decide) ?_
    refine r_icmp_gt B (tgt := 14) dX10_isHour_7 (by decide) h0 ((rg_lit (by decide) (by decide))) (fun h => ?_) (fun h => ?_)
    · have v := v.1 h
      refine r_iconst B dX10_isHour_14 ?_
      exact r_iret B hr hk rfl ((rg_lit (by decide) (by decide))) hI v dX10_isHour_15
    · have v := v.2 h
      refine r_iconst B dX10_isHour_10 ?_
      refine r_goto B (tgt := 15) dX10_isHour_11 (by decide) ?_
      exact r_iret B hr hk rfl ((rg_lit (by decide) (by decide))) hI v dX10_isHour_15
set_option maxHeartbeats 4000000 in
set_option maxRecDepth 100000 in
theorem c_X_push {l : Launch} {E : En} {A : Nat → Prop} (x1 : Int) (x2 : Int) (I : Mm)  (hI : rgM I) (h1 : r32 x1) (h2 : r32 x2) : CI l E A yX10_push cX10_push 3 .int 4 136 [.ref (eA E 0), .int (i2 x1), .int (i2 x2)] I (V_X_push x1 x2 I) := by
  intro Q v
  refine mk_met (own := RX10) (lv0 := [(0, .ref (eA E 0)), (1, .int (i2 x1)), (2, .int (i2 x2))]) (by decide) rfl (Nat.le_of_ble_eq_true rfl) rfl (fun p e s m args below meth c0 B hr hk => ?_)
  unfold V_X_push at v
  refine r_aload_n B dX10_push_0 rfl rfl ?_
  refine r_getR B (C := RX10) (T := TX10) (N := 11) o_0 0 rfl win_X10 (by decide) rfl wf_X10_10 dX10_push_1 ?_
  refine r_getR B (C := RX0) (T := TX0) (N := 9) (ca_1.1) 0 rfl win_X0 (by decide) rfl wf_X10_101 dX10_push_4 ?_
  refine r_iload_n B dX10_push_7 rfl rfl ?_
  refine r_cI B (st := []) (as := [.int (i2 x1)]) (T := TX3) (N := 4) (c_Nm_has (1 + 1) x1 _ (ca_1.2.1) hI h1) v (ca_1.2.1.1) rfl mw_Nm_has wl_X10_118 ⟨Nat.le_of_ble_eq_true rfl, Nat.le_of_ble_eq_true rfl⟩ rfl rfl (Nat.le_of_ble_eq_true rfl) dX10_push_8 (fun z21 I22 hz21 hI22 v => ?_)
  refine r_if_eq B (tgt := 21) dX10_push_11 (by decide) hz21 (fun h => ?_) (fun h => ?_)
  · have v := v.1 h
    refine r_iconst B dX10_push_21 ?_
    exact r_iret B hr hk rfl ((rg_lit (by decide) (by decide))) hI22 v dX10_push_22
  · have v := v.2 h
    refine r_iload_n B dX10_push_14 rfl rfl ?_
    refine r_sI B (st := []) (as := [.int (i2 x2)]) (c_X_isHour x2 _ hI22 h2) v mw_X_isHour wl_X10_122 ⟨Nat.le_of_ble_eq_true rfl, Nat.le_of_ble_eq_true rfl⟩ rfl rfl (Nat.le_of_ble_eq_true rfl) dX10_push_15 (fun z23 I24 hz23 hI24 v => ?_)
    refine r_if_ne B (tgt := 23) dX10_push_18 (by decide) hz23 (fun h => ?_) (fun h => ?_)
    · have v := v.1 h
      refine r_iload_n B dX10_push_23 rfl rfl ?_
      refine r_aload_n B dX10_push_24 rfl rfl ?_
      refine r_getR B (C := RX10) (T := TX10) (N := 11) o_0 0 rfl win_X10 (by decide) rfl wf_X10_10 dX10_push_25 ?_
      refine r_getI B (C := RX0) (T := TX0) (N := 9) (ca_1.1) 7 rfl win_X0 (by decide) rfl wf_X10_125 dX10_push_28 (jj := 7) rfl ?_
      refine r_icmp_ge B (tgt := 37) dX10_push_31 (by decide) h2 ((hI24 _ _)) (fun h => ?_) (fun h => ?_)
      · have v := v.1 h
        refine r_aload_n B dX10_push_37 rfl rfl ?_
        refine r_getR B (C := RX10) (T := TX10) (N := 11) o_0 0 rfl win_X10 (by decide) rfl wf_X10_10 dX10_push_38 ?_
        refine r_getR B (C := RX0) (T := TX0) (N := 9) (ca_1.1) 1 rfl win_X0 (by decide) rfl wf_X10_89 dX10_push_41 ?_
        refine r_getI B (C := RX8) (T := TX8) (N := 4) (ca_1.2.2.1.1) 0 rfl win_X8 (by decide) rfl wf_X10_93 dX10_push_44 (jj := 0) rfl ?_
        refine r_sipush B dX10_push_47 (by decide) ?_
        refine r_icmp_lt B (tgt := 56) dX10_push_50 (by decide) ((hI24 _ _)) ((rg_lit (by decide) (by decide))) (fun h => ?_) (fun h => ?_)
        · have v := v.1 h
          refine r_aload_n B dX10_push_56 rfl rfl ?_
          refine r_getR B (C := RX10) (T := TX10) (N := 11) o_0 6 rfl win_X10 (by decide) rfl wf_X10_52 dX10_push_57 ?_
          refine r_aload_n B dX10_push_60 rfl rfl ?_
          refine r_getR B (C := RX10) (T := TX10) (N := 11) o_0 0 rfl win_X10 (by decide) rfl wf_X10_10 dX10_push_61 ?_
          refine r_cV B (st := []) (as := [.ref (eA E 1)]) (T := TX1) (N := 3) (c_Hi_remember 1 _ ca_1 hI24 ) v o_39 rfl mw_Hi_remember wl_X10_112 ⟨Nat.le_of_ble_eq_true rfl, Nat.le_of_ble_eq_true rfl⟩ rfl rfl (Nat.le_of_ble_eq_true rfl) dX10_push_64 (fun I25 hI25 v => ?_)
          refine r_aload_n B dX10_push_67 rfl rfl ?_
          refine r_getR B (C := RX10) (T := TX10) (N := 11) o_0 0 rfl win_X10 (by decide) rfl wf_X10_10 dX10_push_68 ?_
          refine r_iload_n B dX10_push_71 rfl rfl ?_
          refine r_iconst B dX10_push_72 ?_
          refine r_iload_n B dX10_push_73 rfl rfl ?_
          refine r_iconst B dX10_push_74 ?_
          refine r_cI B (st := []) (as := [.int (i2 x1), .int (i2 1), .int (i2 x2), .int (i2 1)]) (T := TX0) (N := 9) (c_Ca_comesOften 1 x1 1 x2 1 _ ca_1 hI25 h1 ((rg_lit (by decide) (by decide))) h2 ((rg_lit (by decide) (by decide)))) v (ca_1.1) rfl mw_Ca_comesOften wl_X10_128 ⟨Nat.le_of_ble_eq_true rfl, Nat.le_of_ble_eq_true rfl⟩ rfl rfl (Nat.le_of_ble_eq_true rfl) dX10_push_75 (fun z26 I27 hz26 hI27 v => ?_)
          exact r_iret B hr hk rfl hz26 hI27 v dX10_push_78
        · have v := v.2 h
          refine r_bipush B dX10_push_53 (by decide) ?_
          exact r_iret B hr hk rfl ((rg_lit (by decide) (by decide))) hI24 v dX10_push_55
      · have v := v.2 h
        refine r_bipush B dX10_push_34 (by decide) ?_
        exact r_iret B hr hk rfl ((rg_lit (by decide) (by decide))) hI24 v dX10_push_36
    · have v := v.2 h
      refine r_iconst B dX10_push_21 ?_
      exact r_iret B hr hk rfl ((rg_lit (by decide) (by decide))) hI24 v dX10_push_22
