set_option maxHeartbeats 4000000 in
set_option maxRecDepth 100000 in
theorem c_X_row {l : Launch} {E : En} {A : Nat → Prop} (x1 : Int) (x2 : Int) (I : Mm)  (hI : rgM I) (h1 : r32 x1) (h2 : r32 x2) : CI l E A yX10_row cX10_row 4 .int 4 88 [.ref (eA E 0), .int (i2 x1), .int (i2 x2)] I (V_X_row x1 x2 I) := by
  intro Q v
  refine mk_met (own := RX10) (lv0 := [(0, .ref (eA E 0)), (1, .int (i2 x1)), (2, .int (i2 x2))]) (by decide) rfl (Nat.le_of_ble_eq_true rfl) rfl (fun p e s m args below meth c0 B hr hk => ?_)
  unfold V_X_row at v
  refine r_iload_n B dX10_row_0 rfl rfl ?_
  refine r_if_lt B (tgt := 20) dX10_row_1 (by decide) h1 (fun h => ?_) (fun h => ?_)
  · have v := v.1 h
    refine r_iconst B dX10_row_20 ?_
    exact r_iret B hr hk rfl ((rg_lit (by decide) (by decide))) hI v dX10_row_21
  · have v := v.2 h
    refine r_iload_n B dX10_row_4 rfl rfl ?_
    refine r_aload_n B dX10_row_5 rfl rfl ?_
    refine r_getR B (C := RX10) (T := TX10) (N := 11) o_0 0 rfl win_X10 (by decide) rfl wf_X10_10 dX10_row_6 ?_
    refine r_getI B (C := RX0) (T := TX0) (N := 9) (ca_1.1) 5 rfl win_X0 (by decide) rfl wf_X10_212 dX10_row_9 (jj := 5) rfl ?_
    refine r_icmp_ge B (tgt := 20) dX10_row_12 (by decide) h1 ((hI _ _)) (fun h => ?_) (fun h => ?_)
    · have v := v.1 h
      refine r_iconst B dX10_row_20 ?_
      exact r_iret B hr hk rfl ((rg_lit (by decide) (by decide))) hI v dX10_row_21
    · have v := v.2 h
      refine r_iload_n B dX10_row_15 rfl rfl ?_
      refine r_iconst B dX10_row_16 ?_
      refine r_icmp_ge B (tgt := 22) dX10_row_17 (by decide) h2 ((rg_lit (by decide) (by decide))) (fun h => ?_) (fun h => ?_)
      · have v := v.1 h
        refine r_iload_n B dX10_row_22 rfl rfl ?_
        refine r_iconst B dX10_row_23 ?_
        refine r_icmp_ne B (tgt := 46) dX10_row_24 (by decide) h2 ((rg_lit (by decide) (by decide))) (fun h => ?_) (fun h => ?_)
        · have v := v.1 h
          refine r_aload_n B dX10_row_46 rfl rfl ?_
          refine r_getR B (C := RX10) (T := TX10) (N := 11) o_0 0 rfl win_X10 (by decide) rfl wf_X10_10 dX10_row_47 ?_
          refine r_iload_n B dX10_row_50 rfl rfl ?_
          refine r_iload_n B dX10_row_51 rfl rfl ?_
          refine r_cI B (st := []) (as := [.int (i2 x1), .int (i2 x2)]) (T := TX0) (N := 9) (c_Ca_placeInRow 1 x1 x2 _ ca_1 hI h1 h2) v (ca_1.1) rfl mw_Ca_placeInRow wl_X10_241 ⟨Nat.le_of_ble_eq_true rfl, Nat.le_of_ble_eq_true rfl⟩ rfl rfl (Nat.le_of_ble_eq_true rfl) dX10_row_52 (fun z21 I22 hz21 hI22 v => ?_)
          refine r_istore_n B dX10_row_55 rfl (by decide) (lv' := [(3, .int (i2 z21)), (0, .ref (eA E 0)), (1, .int (i2 x1)), (2, .int (i2 x2))]) rfl ?_
          refine r_sub [1, 2, 3, 0] rfl ?_
          refine r_iload_n B dX10_row_56 rfl rfl ?_
          refine r_iconst B dX10_row_57 ?_
          refine r_icmp_ne B (tgt := 66) dX10_row_58 (by decide) hz21 ((rg_lit (by decide) (by decide))) (fun h => ?_) (fun h => ?_)
          · have v := v.1 h
            refine r_aload_n B dX10_row_66 rfl rfl ?_
            refine r_getR B (C := RX10) (T := TX10) (N := 11) o_0 0 rfl win_X10 (by decide) rfl wf_X10_10 dX10_row_67 ?_
            refine r_getR B (C := RX0) (T := TX0) (N := 9) (ca_1.1) 1 rfl win_X0 (by decide) rfl wf_X10_89 dX10_row_70 ?_
            refine r_getR B (C := RX8) (T := TX8) (N := 4) (ca_1.2.2.1.1) 1 rfl win_X8 (by decide) rfl wf_X10_232 dX10_row_73 ?_
            refine r_iload_n B dX10_row_76 rfl rfl ?_
            obtain ⟨h23, v⟩ := v
            refine r_ald B (ca_1.2.2.1.2.1) (by decide) h23 dX10_row_77 ?_
            exact r_iret B hr hk rfl ((hI22 _ _)) hI22 v dX10_row_78
          · have v := v.2 h
            refine r_bipush B dX10_row_61 (by decide) ?_
            refine r_goto B (tgt := 78) dX10_row_63 (by decide) ?_
            exact r_iret B hr hk rfl ((rg_lit (by decide) (by decide))) hI22 v dX10_row_78
        · have v := v.2 h
          refine r_aload_n B dX10_row_27 rfl rfl ?_
          refine r_getR B (C := RX10) (T := TX10) (N := 11) o_0 0 rfl win_X10 (by decide) rfl wf_X10_10 dX10_row_28 ?_
          refine r_iload_n B dX10_row_31 rfl rfl ?_
          refine r_aload_n B dX10_row_32 rfl rfl ?_
          refine r_getR B (C := RX10) (T := TX10) (N := 11) o_0 0 rfl win_X10 (by decide) rfl wf_X10_10 dX10_row_33 ?_
          refine r_getR B (C := RX0) (T := TX0) (N := 9) (ca_1.1) 1 rfl win_X0 (by decide) rfl wf_X10_89 dX10_row_36 ?_
          refine r_getI B (C := RX8) (T := TX8) (N := 4) (ca_1.2.2.1.1) 0 rfl win_X8 (by decide) rfl wf_X10_93 dX10_row_39 (jj := 0) rfl ?_
          refine r_cI B (st := []) (as := [.int (i2 x1), .int (i2 (I (1 + 5) 0))]) (T := TX0) (N := 9) (c_Ca_countInRow 1 x1 (I (1 + 5) 0) _ ca_1 hI h1 ((hI _ _))) v (ca_1.1) rfl mw_Ca_countInRow wl_X10_238 ⟨Nat.le_of_ble_eq_true rfl, Nat.le_of_ble_eq_true rfl⟩ rfl rfl (Nat.le_of_ble_eq_true rfl) dX10_row_42 (fun z24 I25 hz24 hI25 v => ?_)
          exact r_iret B hr hk rfl hz24 hI25 v dX10_row_45
      · have v := v.2 h
        refine r_iconst B dX10_row_20 ?_
        exact r_iret B hr hk rfl ((rg_lit (by decide) (by decide))) hI v dX10_row_21
set_option maxHeartbeats 4000000 in
set_option maxRecDepth 100000 in
theorem wL_X_lettersIn_4 {p : Program} {l : Launch} {e : Env} {s : State} {m : MethodId} {args : Array Value} {below : List Frame} {meth : Method} {c0 : Code} {E : En} {A : Nat → Prop} {x0 : Int} {Q : Int → Mm → Prop}  (B : Bd p (rmm 0 0) s m args c0 cX10_lettersIn 3 RX10 E A 0 0) (hr : meth.sig.returnType = some .int) (hk : meth.locks = false) (h0 : r32 x0)   : ∀ (n : Nat) (x1 : Int) (x2 : Int) (I : Mm), rgM I → r32 x1 → r32 x2 → L_X_lettersIn_4 x0 Q n x1 x2 I → WI p l e (rmm 0 0) s m args below meth c0 E A 3 0 0 (qI below E A args s Q) I 4 [(0, .int (i2 x0)), (1, .int (i2 x1)), (2, .int (i2 x2))] [] := by
  intro n
  induction n with
  | zero => intro x1 x2 I _ _ _ v; exact absurd v id
  | succ n ih =>
    intro x1 x2 I hI h1 h2 v
    unfold L_X_lettersIn_4 at v
    refine r_iload_n B dX10_lettersIn_4 rfl rfl ?_
    refine r_bipush B dX10_lettersIn_5 (by decide) ?_
    refine r_icmp_ge B (tgt := 30) dX10_lettersIn_7 (by decide) h2 ((rg_lit (by decide) (by decide))) (fun h => ?_) (fun h => ?_)
    · have v := v.1 h
      refine r_iload_n B dX10_lettersIn_30 rfl rfl ?_
      exact r_iret B hr hk rfl h1 hI v dX10_lettersIn_31
    · have v := v.2 h
      refine r_iload_n B dX10_lettersIn_10 rfl rfl ?_
      refine r_iload_n B dX10_lettersIn_11 rfl rfl ?_
      refine r_iconst B dX10_lettersIn_12 ?_
      refine r_imul B dX10_lettersIn_13 ?_
      refine r_ishr B dX10_lettersIn_14 ?_
      refine r_bipush B dX10_lettersIn_15 (by decide) ?_
      refine r_iand B dX10_lettersIn_17 ?_
      refine r_if_eq B (tgt := 24) dX10_lettersIn_18 (by decide) ((rg_and _ _)) (fun h => ?_) (fun h => ?_)
      · have v := v.1 h
        refine r_iinc B (q := 2) dX10_lettersIn_24 (by decide) rfl (lv' := [(2, .int (i2 (x2 + 1))), (0, .int (i2 x0)), (1, .int (i2 x1))]) rfl ?_
        refine r_sub [1, 2, 0] rfl ?_
        refine r_goto B (tgt := 4) dX10_lettersIn_27 (by decide) ?_
        obtain ⟨h21, v⟩ := v
        refine r_sub [0, 1, 2] rfl ?_
        exact ih x1 (x2 + 1) _ hI h1 h21 v
      · have v := v.2 h
        refine r_iinc B (q := 1) dX10_lettersIn_21 (by decide) rfl (lv' := [(1, .int (i2 (x1 + 1))), (0, .int (i2 x0)), (2, .int (i2 x2))]) rfl ?_
        refine r_sub [1, 0, 2] rfl ?_
        refine r_iinc B (q := 2) dX10_lettersIn_24 (by decide) rfl (lv' := [(2, .int (i2 (x2 + 1))), (0, .int (i2 x0)), (1, .int (i2 (x1 + 1)))]) rfl ?_
        refine r_sub [1, 2, 0] rfl ?_
        refine r_goto B (tgt := 4) dX10_lettersIn_27 (by decide) ?_
        obtain ⟨h22, v⟩ := v
        obtain ⟨h23, v⟩ := v
        refine r_sub [0, 1, 2] rfl ?_
        exact ih (x1 + 1) (x2 + 1) _ hI h22 h23 v
set_option maxHeartbeats 4000000 in
set_option maxRecDepth 100000 in
theorem c_X_lettersIn {l : Launch} {E : En} {A : Nat → Prop} (x0 : Int) (I : Mm)  (hI : rgM I) (h0 : r32 x0) : CI l E A yX10_lettersIn cX10_lettersIn 3 .int 0 0 [.int (i2 x0)] I (V_X_lettersIn x0 I) := by
  intro Q v
  refine mk_met (own := RX10) (lv0 := [(0, .int (i2 x0))]) (by decide) rfl (Nat.le_of_ble_eq_true rfl) rfl (fun p e s m args below meth c0 B hr hk => ?_)
  unfold V_X_lettersIn at v
  refine r_iconst B dX10_lettersIn_0 ?_
  refine r_istore_n B dX10_lettersIn_1 rfl (by decide) (lv' := [(1, .int (i2 0)), (0, .int (i2 x0))]) rfl ?_
  refine r_sub [1, 0] rfl ?_
  refine r_iconst B dX10_lettersIn_2 ?_
  refine r_istore_n B dX10_lettersIn_3 rfl (by decide) (lv' := [(2, .int (i2 0)), (0, .int (i2 x0)), (1, .int (i2 0))]) rfl ?_
  refine r_sub [1, 2, 0] rfl ?_
  obtain ⟨f24, v⟩ := v
  refine r_sub [0, 1, 2] rfl ?_
  exact wL_X_lettersIn_4 B hr hk h0 f24 0 0 I hI ((rg_lit (by decide) (by decide))) ((rg_lit (by decide) (by decide))) v
set_option maxHeartbeats 4000000 in
set_option maxRecDepth 100000 in
theorem c_X_letterAt {l : Launch} {E : En} {A : Nat → Prop} (x0 : Int) (x1 : Int) (I : Mm)  (hI : rgM I) (h0 : r32 x0) (h1 : r32 x1) : CI l E A yX10_letterAt cX10_letterAt 3 .int 1 22 [.int (i2 x0), .int (i2 x1)] I (V_X_letterAt x0 x1 I) := by
  intro Q v
  refine mk_met (own := RX10) (lv0 := [(0, .int (i2 x0)), (1, .int (i2 x1))]) (by decide) rfl (Nat.le_of_ble_eq_true rfl) rfl (fun p e s m args below meth c0 B hr hk => ?_)
  unfold V_X_letterAt at v
  refine r_iload_n B dX10_letterAt_0 rfl rfl ?_
  refine r_sI B (st := []) (as := [.int (i2 x0)]) (c_X_lettersIn x0 _ hI h0) v mw_X_lettersIn wl_X10_372 ⟨Nat.le_of_ble_eq_true rfl, Nat.le_of_ble_eq_true rfl⟩ rfl rfl (Nat.le_of_ble_eq_true rfl) dX10_letterAt_1 (fun z21 I22 hz21 hI22 v => ?_)
  refine r_istore_n B dX10_letterAt_4 rfl (by decide) (lv' := [(2, .int (i2 z21)), (0, .int (i2 x0)), (1, .int (i2 x1))]) rfl ?_
  refine r_sub [1, 2, 0] rfl ?_
  refine r_iload_n B dX10_letterAt_5 rfl rfl ?_
  refine r_if_lt B (tgt := 14) dX10_letterAt_6 (by decide) h1 (fun h => ?_) (fun h => ?_)
  · have v := v.1 h
    refine r_iconst B dX10_letterAt_14 ?_
    exact r_iret B hr hk rfl ((rg_lit (by decide) (by decide))) hI22 v dX10_letterAt_15
  · have v := v.2 h
    refine r_iload_n B dX10_letterAt_9 rfl rfl ?_
    refine r_iload_n B dX10_letterAt_10 rfl rfl ?_
    refine r_icmp_lt B (tgt := 16) dX10_letterAt_11 (by decide) h1 hz21 (fun h => ?_) (fun h => ?_)
    · have v := v.1 h
      refine r_iload_n B dX10_letterAt_16 rfl rfl ?_
      refine r_iload_n B dX10_letterAt_17 rfl rfl ?_
      refine r_iconst B dX10_letterAt_18 ?_
      refine r_isub B dX10_letterAt_19 ?_
      refine r_iload_n B dX10_letterAt_20 rfl rfl ?_
      refine r_isub B dX10_letterAt_21 ?_
      refine r_iconst B dX10_letterAt_22 ?_
      refine r_imul B dX10_letterAt_23 ?_
      refine r_ishr B dX10_letterAt_24 ?_
      refine r_bipush B dX10_letterAt_25 (by decide) ?_
      refine r_iand B dX10_letterAt_27 ?_
      refine r_bipush B dX10_letterAt_28 (by decide) ?_
      refine r_iadd B dX10_letterAt_30 ?_
      refine r_iconst B dX10_letterAt_31 ?_
      refine r_isub B dX10_letterAt_32 ?_
      obtain ⟨h23, v⟩ := v
      exact r_iret B hr hk rfl h23 hI22 v dX10_letterAt_33
    · have v := v.2 h
      refine r_iconst B dX10_letterAt_14 ?_
      exact r_iret B hr hk rfl ((rg_lit (by decide) (by decide))) hI22 v dX10_letterAt_15
set_option maxHeartbeats 4000000 in
set_option maxRecDepth 100000 in
theorem c_X_letter {l : Launch} {E : En} {A : Nat → Prop} (x1 : Int) (x2 : Int) (I : Mm)  (hI : rgM I) (h1 : r32 x1) (h2 : r32 x2) : CI l E A yX10_letter cX10_letter 3 .int 2 44 [.ref (eA E 0), .int (i2 x1), .int (i2 x2)] I (V_X_letter x1 x2 I) := by
  intro Q v
  refine mk_met (own := RX10) (lv0 := [(0, .ref (eA E 0)), (1, .int (i2 x1)), (2, .int (i2 x2))]) (by decide) rfl (Nat.le_of_ble_eq_true rfl) rfl (fun p e s m args below meth c0 B hr hk => ?_)
  unfold V_X_letter at v
  refine r_aload_n B dX10_letter_0 rfl rfl ?_
  refine r_getR B (C := RX10) (T := TX10) (N := 11) o_0 0 rfl win_X10 (by decide) rfl wf_X10_10 dX10_letter_1 ?_
  refine r_getR B (C := RX0) (T := TX0) (N := 9) (ca_1.1) 0 rfl win_X0 (by decide) rfl wf_X10_101 dX10_letter_4 ?_
  refine r_iload_n B dX10_letter_7 rfl rfl ?_
  refine r_cI B (st := []) (as := [.int (i2 x1)]) (T := TX3) (N := 4) (c_Nm_has (1 + 1) x1 _ (ca_1.2.1) hI h1) v (ca_1.2.1.1) rfl mw_Nm_has wl_X10_118 ⟨Nat.le_of_ble_eq_true rfl, Nat.le_of_ble_eq_true rfl⟩ rfl rfl (Nat.le_of_ble_eq_true rfl) dX10_letter_8 (fun z21 I22 hz21 hI22 v => ?_)
  refine r_if_eq B (tgt := 33) dX10_letter_11 (by decide) hz21 (fun h => ?_) (fun h => ?_)
  · have v := v.1 h
    refine r_iconst B dX10_letter_33 ?_
    exact r_iret B hr hk rfl ((rg_lit (by decide) (by decide))) hI22 v dX10_letter_34
  · have v := v.2 h
    refine r_aload_n B dX10_letter_14 rfl rfl ?_
    refine r_getR B (C := RX10) (T := TX10) (N := 11) o_0 0 rfl win_X10 (by decide) rfl wf_X10_10 dX10_letter_15 ?_
    refine r_getR B (C := RX0) (T := TX0) (N := 9) (ca_1.1) 0 rfl win_X0 (by decide) rfl wf_X10_101 dX10_letter_18 ?_
    refine r_getR B (C := RX3) (T := TX3) (N := 4) (ca_1.2.1.1) 1 rfl win_X3 (by decide) rfl wf_X10_244 dX10_letter_21 ?_
    refine r_iload_n B dX10_letter_24 rfl rfl ?_
    obtain ⟨h23, v⟩ := v
    refine r_ald B (ca_1.2.1.2.1) (by decide) h23 dX10_letter_25 ?_
    refine r_iload_n B dX10_letter_26 rfl rfl ?_
    refine r_sI B (st := []) (as := [.int (i2 (I22 (1 + 1 + 1) x1)), .int (i2 x2)]) (c_X_letterAt (I22 (1 + 1 + 1) x1) x2 _ hI22 ((hI22 _ _)) h2) v mw_X_letterAt wl_X10_247 ⟨Nat.le_of_ble_eq_true rfl, Nat.le_of_ble_eq_true rfl⟩ rfl rfl (Nat.le_of_ble_eq_true rfl) dX10_letter_27 (fun z24 I25 hz24 hI25 v => ?_)
    refine r_goto B (tgt := 34) dX10_letter_30 (by decide) ?_
    exact r_iret B hr hk rfl hz24 hI25 v dX10_letter_34
set_option maxHeartbeats 4000000 in
set_option maxRecDepth 100000 in
theorem c_Th_firstHourOf {l : Launch} {E : En} {A : Nat → Prop} (c : Int) (x1 : Int) (I : Mm) (hc : isTh c) (hI : rgM I) (h1 : r32 x1) : CI l E A yX8_firstHourOf cX8_firstHourOf 3 .int 1 22 [.ref (eA E c), .int (i2 x1)] I (V_Th_firstHourOf c x1 I) := by
  intro Q v
  refine mk_met (own := RX8) (lv0 := [(0, .ref (eA E c)), (1, .int (i2 x1))]) (by decide) rfl (Nat.le_of_ble_eq_true rfl) rfl (fun p e s m args below meth c0 B hr hk => ?_)
  unfold V_Th_firstHourOf at v
  refine r_aload_n B dX8_firstHourOf_0 rfl rfl ?_
  refine r_iload_n B dX8_firstHourOf_1 rfl rfl ?_
  refine r_cI B (st := []) (as := [.int (i2 x1)]) (T := TX8) (N := 4) (c_Th_firstOf c x1 _ hc hI h1) v (hc.1) rfl mw_Th_firstOf wl_X8_39 ⟨Nat.le_of_ble_eq_true rfl, Nat.le_of_ble_eq_true rfl⟩ rfl rfl (Nat.le_of_ble_eq_true rfl) dX8_firstHourOf_2 (fun z21 I22 hz21 hI22 v => ?_)
  refine r_istore_n B dX8_firstHourOf_5 rfl (by decide) (lv' := [(2, .int (i2 z21)), (0, .ref (eA E c)), (1, .int (i2 x1))]) rfl ?_
  refine r_sub [1, 2, 0] rfl ?_
  refine r_iload_n B dX8_firstHourOf_6 rfl rfl ?_
  refine r_iconst B dX8_firstHourOf_7 ?_
  refine r_icmp_ne B (tgt := 16) dX8_firstHourOf_8 (by decide) hz21 ((rg_lit (by decide) (by decide))) (fun h => ?_) (fun h => ?_)
  · have v := v.1 h
    refine r_aload_n B dX8_firstHourOf_16 rfl rfl ?_
    refine r_getR B (C := RX8) (T := TX8) (N := 4) (hc.1) 3 rfl win_X8 (by decide) rfl wf_X8_18 dX8_firstHourOf_17 ?_
    refine r_iload_n B dX8_firstHourOf_20 rfl rfl ?_
    obtain ⟨h23, v⟩ := v
    refine r_ald B (hc.2.2.2) (by decide) h23 dX8_firstHourOf_21 ?_
    exact r_iret B hr hk rfl ((hI22 _ _)) hI22 v dX8_firstHourOf_22
  · have v := v.2 h
    refine r_bipush B dX8_firstHourOf_11 (by decide) ?_
    refine r_goto B (tgt := 22) dX8_firstHourOf_13 (by decide) ?_
    exact r_iret B hr hk rfl ((rg_lit (by decide) (by decide))) hI22 v dX8_firstHourOf_22
set_option maxHeartbeats 4000000 in
set_option maxRecDepth 100000 in
theorem wL_Ru_countOf_4 {p : Program} {l : Launch} {e : Env} {s : State} {m : MethodId} {args : Array Value} {below : List Frame} {meth : Method} {c0 : Code} {E : En} {A : Nat → Prop} {c : Int} {x1 : Int} {Q : Int → Mm → Prop}  (B : Bd p (rmm 0 0) s m args c0 cX5_countOf 4 RX5 E A 0 0) (hr : meth.sig.returnType = some .int) (hk : meth.locks = false) (hc : isRu c) (h1 : r32 x1)   : ∀ (n : Nat) (x2 : Int) (x3 : Int) (I : Mm), rgM I → r32 x2 → r32 x3 → L_Ru_countOf_4 c x1 Q n x2 x3 I → WI p l e (rmm 0 0) s m args below meth c0 E A 4 0 0 (qI below E A args s Q) I 4 [(0, .ref (eA E c)), (1, .int (i2 x1)), (2, .int (i2 x2)), (3, .int (i2 x3))] [] := by
  intro n
  induction n with
  | zero => intro x2 x3 I _ _ _ v; exact absurd v id
  | succ n ih =>
    intro x2 x3 I hI h2 h3 v
    unfold L_Ru_countOf_4 at v
    refine r_iload_n B dX5_countOf_4 rfl rfl ?_
    refine r_aload_n B dX5_countOf_5 rfl rfl ?_
    refine r_getI B (C := RX5) (T := TX5) (N := 4) (hc.1) 0 rfl win_X5 (by decide) rfl wf_X5_21 dX5_countOf_6 (jj := 0) rfl ?_
    refine r_icmp_ge B (tgt := 31) dX5_countOf_9 (by decide) h3 ((hI _ _)) (fun h => ?_) (fun h => ?_)
    · have v := v.1 h
      refine r_iload_n B dX5_countOf_31 rfl rfl ?_
      exact r_iret B hr hk rfl h2 hI v dX5_countOf_32
    · have v := v.2 h
      refine r_aload_n B dX5_countOf_12 rfl rfl ?_
      refine r_getR B (C := RX5) (T := TX5) (N := 4) (hc.1) 1 rfl win_X5 (by decide) rfl wf_X5_9 dX5_countOf_13 ?_
      refine r_iload_n B dX5_countOf_16 rfl rfl ?_
      obtain ⟨h21, v⟩ := v
      refine r_ald B (hc.2.1) (by decide) h21 dX5_countOf_17 ?_
      refine r_iload_n B dX5_countOf_18 rfl rfl ?_
      refine r_icmp_ne B (tgt := 25) dX5_countOf_19 (by decide) ((hI _ _)) h1 (fun h => ?_) (fun h => ?_)
      · have v := v.1 h
        refine r_iinc B (q := 3) dX5_countOf_25 (by decide) rfl (lv' := [(3, .int (i2 (x3 + 1))), (0, .ref (eA E c)), (1, .int (i2 x1)), (2, .int (i2 x2))]) rfl ?_
        refine r_sub [1, 2, 3, 0] rfl ?_
        refine r_goto B (tgt := 4) dX5_countOf_28 (by decide) ?_
        obtain ⟨h22, v⟩ := v
        refine r_sub [0, 1, 2, 3] rfl ?_
        exact ih x2 (x3 + 1) _ hI h2 h22 v
      · have v := v.2 h
        refine r_iinc B (q := 2) dX5_countOf_22 (by decide) rfl (lv' := [(2, .int (i2 (x2 + 1))), (0, .ref (eA E c)), (1, .int (i2 x1)), (3, .int (i2 x3))]) rfl ?_
        refine r_sub [1, 2, 0, 3] rfl ?_
        refine r_iinc B (q := 3) dX5_countOf_25 (by decide) rfl (lv' := [(3, .int (i2 (x3 + 1))), (0, .ref (eA E c)), (1, .int (i2 x1)), (2, .int (i2 (x2 + 1)))]) rfl ?_
        refine r_sub [1, 2, 3, 0] rfl ?_
        refine r_goto B (tgt := 4) dX5_countOf_28 (by decide) ?_
        obtain ⟨h23, v⟩ := v
        obtain ⟨h24, v⟩ := v
        refine r_sub [0, 1, 2, 3] rfl ?_
        exact ih (x2 + 1) (x3 + 1) _ hI h23 h24 v
set_option maxHeartbeats 4000000 in
set_option maxRecDepth 100000 in
theorem c_Ru_countOf {l : Launch} {E : En} {A : Nat → Prop} (c : Int) (x1 : Int) (I : Mm) (hc : isRu c) (hI : rgM I) (h1 : r32 x1) : CI l E A yX5_countOf cX5_countOf 4 .int 0 0 [.ref (eA E c), .int (i2 x1)] I (V_Ru_countOf c x1 I) := by
  intro Q v
  refine mk_met (own := RX5) (lv0 := [(0, .ref (eA E c)), (1, .int (i2 x1))]) (by decide) rfl (Nat.le_of_ble_eq_true rfl) rfl (fun p e s m args below meth c0 B hr hk => ?_)
  unfold V_Ru_countOf at v
  refine r_iconst B dX5_countOf_0 ?_
  refine r_istore_n B dX5_countOf_1 rfl (by decide) (lv' := [(2, .int (i2 0)), (0, .ref (eA E c)), (1, .int (i2 x1))]) rfl ?_
  refine r_sub [1, 2, 0] rfl ?_
  refine r_iconst B dX5_countOf_2 ?_
  refine r_istore_n B dX5_countOf_3 rfl (by decide) (lv' := [(3, .int (i2 0)), (0, .ref (eA E c)), (1, .int (i2 x1)), (2, .int (i2 0))]) rfl ?_
  refine r_sub [1, 2, 3, 0] rfl ?_
  obtain ⟨f25, v⟩ := v
  refine r_sub [0, 1, 2, 3] rfl ?_
  exact wL_Ru_countOf_4 B hr hk hc h1 f25 0 0 I hI ((rg_lit (by decide) (by decide))) ((rg_lit (by decide) (by decide))) v
set_option maxHeartbeats 4000000 in
set_option maxRecDepth 100000 in
theorem c_X_named {l : Launch} {E : En} {A : Nat → Prop} (x1 : Int) (x2 : Int) (I : Mm)  (hI : rgM I) (h1 : r32 x1) (h2 : r32 x2) : CI l E A yX10_named cX10_named 3 .int 2 44 [.ref (eA E 0), .int (i2 x1), .int (i2 x2)] I (V_X_named x1 x2 I) := by
  intro Q v
  refine mk_met (own := RX10) (lv0 := [(0, .ref (eA E 0)), (1, .int (i2 x1)), (2, .int (i2 x2))]) (by decide) rfl (Nat.le_of_ble_eq_true rfl) rfl (fun p e s m args below meth c0 B hr hk => ?_)
  unfold V_X_named at v
  refine r_aload_n B dX10_named_0 rfl rfl ?_
  refine r_getR B (C := RX10) (T := TX10) (N := 11) o_0 0 rfl win_X10 (by decide) rfl wf_X10_10 dX10_named_1 ?_
  refine r_getR B (C := RX0) (T := TX0) (N := 9) (ca_1.1) 0 rfl win_X0 (by decide) rfl wf_X10_101 dX10_named_4 ?_
  refine r_iload_n B dX10_named_7 rfl rfl ?_
  refine r_cI B (st := []) (as := [.int (i2 x1)]) (T := TX3) (N := 4) (c_Nm_has (1 + 1) x1 _ (ca_1.2.1) hI h1) v (ca_1.2.1.1) rfl mw_Nm_has wl_X10_118 ⟨Nat.le_of_ble_eq_true rfl, Nat.le_of_ble_eq_true rfl⟩ rfl rfl (Nat.le_of_ble_eq_true rfl) dX10_named_8 (fun z21 I22 hz21 hI22 v => ?_)
  refine r_if_ne B (tgt := 16) dX10_named_11 (by decide) hz21 (fun h => ?_) (fun h => ?_)
  · have v := v.1 h
    refine r_iload_n B dX10_named_16 rfl rfl ?_
    have hsw : x2 = 0 ∨ x2 = 1 ∨ x2 = 2 ∨ x2 = 3 ∨ x2 = 4 ∨ (x2 < 0 ∨ 4 < x2) := by omega
    rcases hsw with hcs | hcs | hcs | hcs | hcs | hcs
    · have v := v.1 hcs
      refine r_tabIn B (tgt := 52) dX10_named_17 h2 0 hcs (by decide) (by decide) rfl (by decide) ?_
      refine r_aload_n B dX10_named_52 rfl rfl ?_
      refine r_getR B (C := RX10) (T := TX10) (N := 11) o_0 0 rfl win_X10 (by decide) rfl wf_X10_10 dX10_named_53 ?_
      refine r_getR B (C := RX0) (T := TX0) (N := 9) (ca_1.1) 1 rfl win_X0 (by decide) rfl wf_X10_89 dX10_named_56 ?_
      refine r_iload_n B dX10_named_59 rfl rfl ?_
      refine r_cI B (st := []) (as := [.int (i2 x1)]) (T := TX8) (N := 4) (c_Th_countOf (1 + 5) x1 _ (ca_1.2.2.1) hI22 h1) v (ca_1.2.2.1.1) rfl mw_Th_countOf wl_X10_148 ⟨Nat.le_of_ble_eq_true rfl, Nat.le_of_ble_eq_true rfl⟩ rfl rfl (Nat.le_of_ble_eq_true rfl) dX10_named_60 (fun z23 I24 hz23 hI24 v => ?_)
      exact r_iret B hr hk rfl hz23 hI24 v dX10_named_63
    · have v := v.2.1 hcs
      refine r_tabIn B (tgt := 64) dX10_named_17 h2 1 hcs (by decide) (by decide) rfl (by decide) ?_
      refine r_aload_n B dX10_named_64 rfl rfl ?_
      refine r_getR B (C := RX10) (T := TX10) (N := 11) o_0 0 rfl win_X10 (by decide) rfl wf_X10_10 dX10_named_65 ?_
      refine r_getR B (C := RX0) (T := TX0) (N := 9) (ca_1.1) 1 rfl win_X0 (by decide) rfl wf_X10_89 dX10_named_68 ?_
      refine r_iload_n B dX10_named_71 rfl rfl ?_
      refine r_cI B (st := []) (as := [.int (i2 x1)]) (T := TX8) (N := 4) (c_Th_firstHourOf (1 + 5) x1 _ (ca_1.2.2.1) hI22 h1) v (ca_1.2.2.1.1) rfl mw_Th_firstHourOf wl_X10_250 ⟨Nat.le_of_ble_eq_true rfl, Nat.le_of_ble_eq_true rfl⟩ rfl rfl (Nat.le_of_ble_eq_true rfl) dX10_named_72 (fun z25 I26 hz25 hI26 v => ?_)
      exact r_iret B hr hk rfl hz25 hI26 v dX10_named_75
    · have v := v.2.2.1 hcs
      refine r_tabIn B (tgt := 76) dX10_named_17 h2 2 hcs (by decide) (by decide) rfl (by decide) ?_
      refine r_aload_n B dX10_named_76 rfl rfl ?_
      refine r_getR B (C := RX10) (T := TX10) (N := 11) o_0 0 rfl win_X10 (by decide) rfl wf_X10_10 dX10_named_77 ?_
      refine r_getR B (C := RX0) (T := TX0) (N := 9) (ca_1.1) 0 rfl win_X0 (by decide) rfl wf_X10_101 dX10_named_80 ?_
      refine r_getR B (C := RX3) (T := TX3) (N := 4) (ca_1.2.1.1) 2 rfl win_X3 (by decide) rfl wf_X10_253 dX10_named_83 ?_
      refine r_iload_n B dX10_named_86 rfl rfl ?_
      obtain ⟨h27, v⟩ := v
      refine r_ald B (ca_1.2.1.2.2.1) (by decide) h27 dX10_named_87 ?_
      exact r_iret B hr hk rfl ((hI22 _ _)) hI22 v dX10_named_88
    · have v := v.2.2.2.1 hcs
      refine r_tabIn B (tgt := 89) dX10_named_17 h2 3 hcs (by decide) (by decide) rfl (by decide) ?_
      refine r_aload_n B dX10_named_89 rfl rfl ?_
      refine r_getR B (C := RX10) (T := TX10) (N := 11) o_0 0 rfl win_X10 (by decide) rfl wf_X10_10 dX10_named_90 ?_
      refine r_getR B (C := RX0) (T := TX0) (N := 9) (ca_1.1) 2 rfl win_X0 (by decide) rfl wf_X10_191 dX10_named_93 ?_
      refine r_iload_n B dX10_named_96 rfl rfl ?_
      refine r_cI B (st := []) (as := [.int (i2 x1)]) (T := TX5) (N := 4) (c_Ru_countOf (1 + 9) x1 _ (ca_1.2.2.2.1) hI22 h1) v (ca_1.2.2.2.1.1) rfl mw_Ru_countOf wl_X10_256 ⟨Nat.le_of_ble_eq_true rfl, Nat.le_of_ble_eq_true rfl⟩ rfl rfl (Nat.le_of_ble_eq_true rfl) dX10_named_97 (fun z28 I29 hz28 hI29 v => ?_)
      exact r_iret B hr hk rfl hz28 hI29 v dX10_named_100
    · have v := v.2.2.2.2.1 hcs
      refine r_tabIn B (tgt := 101) dX10_named_17 h2 4 hcs (by decide) (by decide) rfl (by decide) ?_
      refine r_aload_n B dX10_named_101 rfl rfl ?_
      refine r_getR B (C := RX10) (T := TX10) (N := 11) o_0 0 rfl win_X10 (by decide) rfl wf_X10_10 dX10_named_102 ?_
      refine r_getR B (C := RX0) (T := TX0) (N := 9) (ca_1.1) 0 rfl win_X0 (by decide) rfl wf_X10_101 dX10_named_105 ?_
      refine r_getR B (C := RX3) (T := TX3) (N := 4) (ca_1.2.1.1) 3 rfl win_X3 (by decide) rfl wf_X10_257 dX10_named_108 ?_
      refine r_iload_n B dX10_named_111 rfl rfl ?_
      obtain ⟨h30, v⟩ := v
      refine r_ald B (ca_1.2.1.2.2.2) (by decide) h30 dX10_named_112 ?_
      exact r_iret B hr hk rfl ((hI22 _ _)) hI22 v dX10_named_113
    · have v := v.2.2.2.2.2 hcs
      refine r_tabOut B (tgt := 114) dX10_named_17 h2 hcs (by decide) ?_
      refine r_iconst B dX10_named_114 ?_
      exact r_iret B hr hk rfl ((rg_lit (by decide) (by decide))) hI22 v dX10_named_115
  · have v := v.2 h
    refine r_iconst B dX10_named_14 ?_
    exact r_iret B hr hk rfl ((rg_lit (by decide) (by decide))) hI22 v dX10_named_15
set_option maxHeartbeats 4000000 in
set_option maxRecDepth 100000 in
theorem c_X_ruled {l : Launch} {E : En} {A : Nat → Prop} (x1 : Int) (x2 : Int) (I : Mm)  (hI : rgM I) (h1 : r32 x1) (h2 : r32 x2) : CI l E A yX10_ruled cX10_ruled 3 .int 1 21 [.ref (eA E 0), .int (i2 x1), .int (i2 x2)] I (V_X_ruled x1 x2 I) := by
  intro Q v
  refine mk_met (own := RX10) (lv0 := [(0, .ref (eA E 0)), (1, .int (i2 x1)), (2, .int (i2 x2))]) (by decide) rfl (Nat.le_of_ble_eq_true rfl) rfl (fun p e s m args below meth c0 B hr hk => ?_)
  unfold V_X_ruled at v
  refine r_aload_n B dX10_ruled_0 rfl rfl ?_
  refine r_getR B (C := RX10) (T := TX10) (N := 11) o_0 0 rfl win_X10 (by decide) rfl wf_X10_10 dX10_ruled_1 ?_
  refine r_getR B (C := RX0) (T := TX0) (N := 9) (ca_1.1) 2 rfl win_X0 (by decide) rfl wf_X10_191 dX10_ruled_4 ?_
  refine r_iload_n B dX10_ruled_7 rfl rfl ?_
  refine r_cI B (st := []) (as := [.int (i2 x1)]) (T := TX5) (N := 4) (c_Ru_has (1 + 9) x1 _ (ca_1.2.2.2.1) hI h1) v (ca_1.2.2.2.1.1) rfl mw_Ru_has wl_X10_202 ⟨Nat.le_of_ble_eq_true rfl, Nat.le_of_ble_eq_true rfl⟩ rfl rfl (Nat.le_of_ble_eq_true rfl) dX10_ruled_8 (fun z21 I22 hz21 hI22 v => ?_)
  refine r_if_ne B (tgt := 16) dX10_ruled_11 (by decide) hz21 (fun h => ?_) (fun h => ?_)
  · have v := v.1 h
    refine r_iload_n B dX10_ruled_16 rfl rfl ?_
    have hsw : x2 = 0 ∨ x2 = 1 ∨ x2 = 2 ∨ (x2 < 0 ∨ 2 < x2) := by omega
    rcases hsw with hcs | hcs | hcs | hcs
    · have v := v.1 hcs
      refine r_tabIn B (tgt := 44) dX10_ruled_17 h2 0 hcs (by decide) (by decide) rfl (by decide) ?_
      refine r_aload_n B dX10_ruled_44 rfl rfl ?_
      refine r_getR B (C := RX10) (T := TX10) (N := 11) o_0 0 rfl win_X10 (by decide) rfl wf_X10_10 dX10_ruled_45 ?_
      refine r_getR B (C := RX0) (T := TX0) (N := 9) (ca_1.1) 2 rfl win_X0 (by decide) rfl wf_X10_191 dX10_ruled_48 ?_
      refine r_getR B (C := RX5) (T := TX5) (N := 4) (ca_1.2.2.2.1.1) 1 rfl win_X5 (by decide) rfl wf_X10_260 dX10_ruled_51 ?_
      refine r_iload_n B dX10_ruled_54 rfl rfl ?_
      obtain ⟨h23, v⟩ := v
      refine r_ald B (ca_1.2.2.2.1.2.1) (by decide) h23 dX10_ruled_55 ?_
      exact r_iret B hr hk rfl ((hI22 _ _)) hI22 v dX10_ruled_56
    · have v := v.2.1 hcs
      refine r_tabIn B (tgt := 57) dX10_ruled_17 h2 1 hcs (by decide) (by decide) rfl (by decide) ?_
      refine r_aload_n B dX10_ruled_57 rfl rfl ?_
      refine r_getR B (C := RX10) (T := TX10) (N := 11) o_0 0 rfl win_X10 (by decide) rfl wf_X10_10 dX10_ruled_58 ?_
      refine r_getR B (C := RX0) (T := TX0) (N := 9) (ca_1.1) 2 rfl win_X0 (by decide) rfl wf_X10_191 dX10_ruled_61 ?_
      refine r_getR B (C := RX5) (T := TX5) (N := 4) (ca_1.2.2.2.1.1) 2 rfl win_X5 (by decide) rfl wf_X10_261 dX10_ruled_64 ?_
      refine r_iload_n B dX10_ruled_67 rfl rfl ?_
      obtain ⟨h24, v⟩ := v
      refine r_ald B (ca_1.2.2.2.1.2.2.1) (by decide) h24 dX10_ruled_68 ?_
      exact r_iret B hr hk rfl ((hI22 _ _)) hI22 v dX10_ruled_69
    · have v := v.2.2.1 hcs
      refine r_tabIn B (tgt := 70) dX10_ruled_17 h2 2 hcs (by decide) (by decide) rfl (by decide) ?_
      refine r_aload_n B dX10_ruled_70 rfl rfl ?_
      refine r_getR B (C := RX10) (T := TX10) (N := 11) o_0 0 rfl win_X10 (by decide) rfl wf_X10_10 dX10_ruled_71 ?_
      refine r_getR B (C := RX0) (T := TX0) (N := 9) (ca_1.1) 2 rfl win_X0 (by decide) rfl wf_X10_191 dX10_ruled_74 ?_
      refine r_getR B (C := RX5) (T := TX5) (N := 4) (ca_1.2.2.2.1.1) 3 rfl win_X5 (by decide) rfl wf_X10_264 dX10_ruled_77 ?_
      refine r_iload_n B dX10_ruled_80 rfl rfl ?_
      obtain ⟨h25, v⟩ := v
      refine r_ald B (ca_1.2.2.2.1.2.2.2) (by decide) h25 dX10_ruled_81 ?_
      exact r_iret B hr hk rfl ((hI22 _ _)) hI22 v dX10_ruled_82
    · have v := v.2.2.2 hcs
      refine r_tabOut B (tgt := 83) dX10_ruled_17 h2 hcs (by decide) ?_
      refine r_iconst B dX10_ruled_83 ?_
      exact r_iret B hr hk rfl ((rg_lit (by decide) (by decide))) hI22 v dX10_ruled_84
  · have v := v.2 h
    refine r_iconst B dX10_ruled_14 ?_
    exact r_iret B hr hk rfl ((rg_lit (by decide) (by decide))) hI22 v dX10_ruled_15
set_option maxHeartbeats 4000000 in
set_option maxRecDepth 100000 in
theorem c_Lo_at {l : Launch} {E : En} {A : Nat → Prop} (c : Int) (x1 : Int) (x2 : Int) (I : Mm) (hc : isLo c) (hI : rgM I) (h1 : r32 x1) (h2 : r32 x2) : CI l E A yX2_at cX2_at 4 .int 0 0 [.ref (eA E c), .int (i2 x1), .int (i2 x2)] I (V_Lo_at c x1 x2 I) := by
  intro Q v
  refine mk_met (own := RX2) (lv0 := [(0, .ref (eA E c)), (1, .int (i2 x1)), (2, .int (i2 x2))]) (by decide) rfl (Nat.le_of_ble_eq_true rfl) rfl (fun p e s m args below meth c0 B hr hk => ?_)
  unfold V_Lo_at at v
  refine r_iload_n B dX2_at_0 rfl rfl ?_
  refine r_if_lt B (tgt := 21) dX2_at_1 (by decide) h1 (fun h => ?_) (fun h => ?_)
  · have v := v.1 h
    refine r_iconst B dX2_at_21 ?_
    exact r_iret B hr hk rfl ((rg_lit (by decide) (by decide))) hI v dX2_at_22
  · have v := v.2 h
    refine r_iload_n B dX2_at_4 rfl rfl ?_
    refine r_aload_n B dX2_at_5 rfl rfl ?_
    refine r_getI B (C := RX2) (T := TX2) (N := 3) (hc.1) 0 rfl win_X2 (by decide) rfl wf_X2_19 dX2_at_6 (jj := 0) rfl ?_
    refine r_icmp_ge B (tgt := 21) dX2_at_9 (by decide) h1 ((hI _ _)) (fun h => ?_) (fun h => ?_)
    · have v := v.1 h
      refine r_iconst B dX2_at_21 ?_
      exact r_iret B hr hk rfl ((rg_lit (by decide) (by decide))) hI v dX2_at_22
    · have v := v.2 h
      refine r_iload_n B dX2_at_12 rfl rfl ?_
      refine r_if_lt B (tgt := 21) dX2_at_13 (by decide) h2 (fun h => ?_) (fun h => ?_)
      · have v := v.1 h
        refine r_iconst B dX2_at_21 ?_
        exact r_iret B hr hk rfl ((rg_lit (by decide) (by decide))) hI v dX2_at_22
      · have v := v.2 h
        refine r_iload_n B dX2_at_16 rfl rfl ?_
        refine r_iconst B dX2_at_17 ?_
        refine r_icmp_lt B (tgt := 23) dX2_at_18 (by decide) h2 ((rg_lit (by decide) (by decide))) (fun h => ?_) (fun h => ?_)
        · have v := v.1 h
          refine r_aload_n B dX2_at_23 rfl rfl ?_
          refine r_getI B (C := RX2) (T := TX2) (N := 3) (hc.1) 1 rfl win_X2 (by decide) rfl wf_X2_15 dX2_at_24 (jj := 1) rfl ?_
          refine r_bipush B dX2_at_27 (by decide) ?_
          refine r_iadd B dX2_at_29 ?_
          refine r_iconst B dX2_at_30 ?_
          refine r_isub B dX2_at_31 ?_
          refine r_iload_n B dX2_at_32 rfl rfl ?_
          refine r_isub B dX2_at_33 ?_
          refine r_bipush B dX2_at_34 (by decide) ?_
          obtain ⟨h21, v⟩ := v
          obtain ⟨h22, v⟩ := v
          refine r_irem B dX2_at_36 h21 ((rg_lit (by decide) (by decide))) (show 0 ≤ (((I c 1 + 50) - 1) - x1) ∧ (0 : Int) < 50 from ⟨h22, by decide⟩) ?_
          refine r_name (fun y23 ey23 => ?_)
          have v := v y23 ey23
          have hy23 : r32 y23 := by rw [ey23]; exact (rg_rem ((rg_lit (by decide) (by decide))) (show 0 ≤ (((I c 1 + 50) - 1) - x1) ∧ (0 : Int) < 50 from ⟨h22, by decide⟩).2)
          refine r_istore_n B dX2_at_37 rfl (by decide) (lv' := [(3, .int (i2 y23)), (0, .ref (eA E c)), (1, .int (i2 x1)), (2, .int (i2 x2))]) rfl ?_
          refine r_sub [1, 2, 3, 0] rfl ?_
          refine r_aload_n B dX2_at_38 rfl rfl ?_
          refine r_getR B (C := RX2) (T := TX2) (N := 3) (hc.1) 2 rfl win_X2 (by decide) rfl wf_X2_11 dX2_at_39 ?_
          refine r_iload_n B dX2_at_42 rfl rfl ?_
          refine r_iconst B dX2_at_43 ?_
          refine r_imul B dX2_at_44 ?_
          refine r_iload_n B dX2_at_45 rfl rfl ?_
          refine r_iadd B dX2_at_46 ?_
          obtain ⟨h24, v⟩ := v
          refine r_ald B (hc.2) (by decide) h24 dX2_at_47 ?_
          exact r_iret B hr hk rfl ((hI _ _)) hI v dX2_at_48
        · have v := v.2 h
          refine r_iconst B dX2_at_21 ?_
          exact r_iret B hr hk rfl ((rg_lit (by decide) (by decide))) hI v dX2_at_22
set_option maxHeartbeats 4000000 in
set_option maxRecDepth 100000 in
theorem c_X_log {l : Launch} {E : En} {A : Nat → Prop} (x1 : Int) (x2 : Int) (I : Mm)  (hI : rgM I) (h1 : r32 x1) (h2 : r32 x2) : CI l E A yX10_log cX10_log 3 .int 1 23 [.ref (eA E 0), .int (i2 x1), .int (i2 x2)] I (V_X_log x1 x2 I) := by
  intro Q v
  refine mk_met (own := RX10) (lv0 := [(0, .ref (eA E 0)), (1, .int (i2 x1)), (2, .int (i2 x2))]) (by decide) rfl (Nat.le_of_ble_eq_true rfl) rfl (fun p e s m args below meth c0 B hr hk => ?_)
  unfold V_X_log at v
  refine r_aload_n B dX10_log_0 rfl rfl ?_
  refine r_getR B (C := RX10) (T := TX10) (N := 11) o_0 0 rfl win_X10 (by decide) rfl wf_X10_10 dX10_log_1 ?_
  refine r_getR B (C := RX0) (T := TX0) (N := 9) (ca_1.1) 3 rfl win_X0 (by decide) rfl wf_X10_267 dX10_log_4 ?_
  refine r_iload_n B dX10_log_7 rfl rfl ?_
  refine r_iload_n B dX10_log_8 rfl rfl ?_
  refine r_cI B (st := []) (as := [.int (i2 x1), .int (i2 x2)]) (T := TX2) (N := 3) (c_Lo_at (1 + 13) x1 x2 _ (ca_1.2.2.2.2.1) hI h1 h2) v (ca_1.2.2.2.2.1.1) rfl mw_Lo_at wl_X10_271 ⟨Nat.le_of_ble_eq_true rfl, Nat.le_of_ble_eq_true rfl⟩ rfl rfl (Nat.le_of_ble_eq_true rfl) dX10_log_9 (fun z21 I22 hz21 hI22 v => ?_)
  exact r_iret B hr hk rfl hz21 hI22 v dX10_log_12
set_option maxHeartbeats 4000000 in
set_option maxRecDepth 100000 in
theorem c_X_total {l : Launch} {E : En} {A : Nat → Prop} (x1 : Int) (I : Mm)  (hI : rgM I) (h1 : r32 x1) : CI l E A yX10_total cX10_total 2 .int 0 0 [.ref (eA E 0), .int (i2 x1)] I (V_X_total x1 I) := by
  intro Q v
  refine mk_met (own := RX10) (lv0 := [(0, .ref (eA E 0)), (1, .int (i2 x1))]) (by decide) rfl (Nat.le_of_ble_eq_true rfl) rfl (fun p e s m args below meth c0 B hr hk => ?_)
  unfold V_X_total at v
  refine r_iload_n B dX10_total_0 rfl rfl ?_
  refine r_if_lt B (tgt := 10) dX10_total_1 (by decide) h1 (fun h => ?_) (fun h => ?_)
  · have v := v.1 h
    refine r_iconst B dX10_total_10 ?_
    refine r_goto B (tgt := 23) dX10_total_11 (by decide) ?_
    exact r_iret B hr hk rfl ((rg_lit (by decide) (by decide))) hI v dX10_total_23
  · have v := v.2 h
    refine r_iload_n B dX10_total_4 rfl rfl ?_
    refine r_bipush B dX10_total_5 (by decide) ?_
    refine r_icmp_lt B (tgt := 14) dX10_total_7 (by decide) h1 ((rg_lit (by decide) (by decide))) (fun h => ?_) (fun h => ?_)
    · have v := v.1 h
      refine r_aload_n B dX10_total_14 rfl rfl ?_
      refine r_getR B (C := RX10) (T := TX10) (N := 11) o_0 0 rfl win_X10 (by decide) rfl wf_X10_10 dX10_total_15 ?_
      refine r_getR B (C := RX0) (T := TX0) (N := 9) (ca_1.1) 4 rfl win_X0 (by decide) rfl wf_X10_276 dX10_total_18 ?_
      refine r_iload_n B dX10_total_21 rfl rfl ?_
      obtain ⟨h21, v⟩ := v
      refine r_ald B (ca_1.2.2.2.2.2) (by decide) h21 dX10_total_22 ?_
      exact r_iret B hr hk rfl ((hI _ _)) hI v dX10_total_23
    · have v := v.2 h
      refine r_iconst B dX10_total_10 ?_
      refine r_goto B (tgt := 23) dX10_total_11 (by decide) ?_
      exact r_iret B hr hk rfl ((rg_lit (by decide) (by decide))) hI v dX10_total_23
set_option maxHeartbeats 4000000 in
set_option maxRecDepth 100000 in
theorem wL_X_skewIn_11 {p : Program} {l : Launch} {e : Env} {s : State} {m : MethodId} {args : Array Value} {below : List Frame} {meth : Method} {c0 : Code} {E : En} {A : Nat → Prop} {x1 : Int} {x2 : Int} {x3 : Int} {x4 : Int} {Q : Int → Mm → Prop} {K32 : Mm → Prop} (B : Bd p (rmm 2 60) s m args c0 cX10_skewIn 8 RX10 E A 0 0) (hr : meth.sig.returnType = some .int) (hk : meth.locks = false) (h1 : r32 x1) (h2 : r32 x2) (h3 : r32 x3) (h4 : r32 x4) (k32 : ∀ (I : Mm), rgM I → K32 I → WI p l e (rmm 2 60) s m args below meth c0 E A 8 0 0 (qI below E A args s Q) I 32 [(0, .ref (eA E 0)), (2, .int (i2 x2)), (3, .int (i2 x3)), (4, .int (i2 x4))] []) : ∀ (n : Nat) (x5 : Int) (I : Mm), rgM I → r32 x5 → L_X_skewIn_11 x1 x2 x3 x4 Q K32 n x5 I → WI p l e (rmm 2 60) s m args below meth c0 E A 8 0 0 (qI below E A args s Q) I 11 [(0, .ref (eA E 0)), (2, .int (i2 x2)), (3, .int (i2 x3)), (4, .int (i2 x4)), (5, .int (i2 x5))] [] := by
  intro n
  induction n with
  | zero => intro x5 I _ _ v; exact absurd v id
  | succ n ih =>
    intro x5 I hI h5 v
    unfold L_X_skewIn_11 at v
    refine r_iload B dX10_skewIn_11 rfl ?_
    refine r_iload B dX10_skewIn_13 rfl ?_
    refine r_icmp_ge B (tgt := 32) dX10_skewIn_15 (by decide) h5 h4 (fun h => ?_) (fun h => ?_)
    · have v := v.1 h
      refine r_sub [0, 1, 2, 3] rfl ?_
      exact k32 _ hI v
    · have v := v.2 h
      refine r_aload_n B dX10_skewIn_18 rfl rfl ?_
      refine r_getR B (C := RX10) (T := TX10) (N := 11) o_0 8 rfl win_X10 (by decide) rfl wf_X10_60 dX10_skewIn_19 ?_
      refine r_iload B dX10_skewIn_22 rfl ?_
      refine r_iconst B dX10_skewIn_24 ?_
      obtain ⟨h21, v⟩ := v
      refine r_ast B a_234 (by decide) h21 dX10_skewIn_25 ?_
      have hI22 : rgM (wrM I 234 x5 0) := rg_wr hI ((rg_lit (by decide) (by decide)))
      refine r_iinc B (q := 4) dX10_skewIn_26 (by decide) rfl (lv' := [(5, .int (i2 (x5 + 1))), (0, .ref (eA E 0)), (2, .int (i2 x2)), (3, .int (i2 x3)), (4, .int (i2 x4))]) rfl ?_
      refine r_sub [1, 2, 3, 4, 0] rfl ?_
      refine r_goto B (tgt := 11) dX10_skewIn_29 (by decide) ?_
      obtain ⟨h23, v⟩ := v
      refine r_sub [0, 1, 2, 3, 4] rfl ?_
      exact ih (x5 + 1) _ hI22 h23 v
set_option maxHeartbeats 4000000 in
set_option maxRecDepth 100000 in
theorem wL_X_skewIn_35 {p : Program} {l : Launch} {e : Env} {s : State} {m : MethodId} {args : Array Value} {below : List Frame} {meth : Method} {c0 : Code} {E : En} {A : Nat → Prop} {x1 : Int} {x2 : Int} {x3 : Int} {x4 : Int} {Q : Int → Mm → Prop} {K84 : Mm → Prop} (B : Bd p (rmm 2 60) s m args c0 cX10_skewIn 8 RX10 E A 0 0) (hr : meth.sig.returnType = some .int) (hk : meth.locks = false) (h1 : r32 x1) (h2 : r32 x2) (h3 : r32 x3) (h4 : r32 x4) (k84 : ∀ (I : Mm), rgM I → K84 I → WI p l e (rmm 2 60) s m args below meth c0 E A 8 0 0 (qI below E A args s Q) I 84 [(0, .ref (eA E 0)), (3, .int (i2 x3)), (4, .int (i2 x4))] []) : ∀ (n : Nat) (x5 : Int) (I : Mm), rgM I → r32 x5 → L_X_skewIn_35 x1 x2 x3 x4 Q K84 n x5 I → WI p l e (rmm 2 60) s m args below meth c0 E A 8 0 0 (qI below E A args s Q) I 35 [(0, .ref (eA E 0)), (2, .int (i2 x2)), (3, .int (i2 x3)), (4, .int (i2 x4)), (5, .int (i2 x5))] [] := by
  intro n
  induction n with
  | zero => intro x5 I _ _ v; exact absurd v id
  | succ n ih =>
    intro x5 I hI h5 v
    unfold L_X_skewIn_35 at v
    refine r_iload B dX10_skewIn_35 rfl ?_
    refine r_aload_n B dX10_skewIn_37 rfl rfl ?_
    refine r_getR B (C := RX10) (T := TX10) (N := 11) o_0 0 rfl win_X10 (by decide) rfl wf_X10_10 dX10_skewIn_38 ?_
    refine r_getR B (C := RX0) (T := TX0) (N := 9) (ca_1.1) 1 rfl win_X0 (by decide) rfl wf_X10_89 dX10_skewIn_41 ?_
    refine r_getI B (C := RX8) (T := TX8) (N := 4) (ca_1.2.2.1.1) 0 rfl win_X8 (by decide) rfl wf_X10_93 dX10_skewIn_44 (jj := 0) rfl ?_
    refine r_icmp_ge B (tgt := 84) dX10_skewIn_47 (by decide) h5 ((hI _ _)) (fun h => ?_) (fun h => ?_)
    · have v := v.1 h
      refine r_sub [0, 2, 3] rfl ?_
      exact k84 _ hI v
    · have v := v.2 h
      refine r_aload_n B dX10_skewIn_50 rfl rfl ?_
      refine r_getR B (C := RX10) (T := TX10) (N := 11) o_0 8 rfl win_X10 (by decide) rfl wf_X10_60 dX10_skewIn_51 ?_
      refine r_aload_n B dX10_skewIn_54 rfl rfl ?_
      refine r_getR B (C := RX10) (T := TX10) (N := 11) o_0 0 rfl win_X10 (by decide) rfl wf_X10_10 dX10_skewIn_55 ?_
      refine r_getR B (C := RX0) (T := TX0) (N := 9) (ca_1.1) 1 rfl win_X0 (by decide) rfl wf_X10_89 dX10_skewIn_58 ?_
      refine r_getR B (C := RX8) (T := TX8) (N := 4) (ca_1.2.2.1.1) 3 rfl win_X8 (by decide) rfl wf_X10_154 dX10_skewIn_61 ?_
      refine r_iload B dX10_skewIn_64 rfl ?_
      obtain ⟨h25, v⟩ := v
      refine r_ald B (ca_1.2.2.1.2.2.2) (by decide) h25 dX10_skewIn_66 ?_
      refine r_iload B dX10_skewIn_67 rfl ?_
      refine r_iload_n B dX10_skewIn_69 rfl rfl ?_
      refine r_sI B (st := [.ref (eA E 234)]) (as := [.int (i2 (I (1 + 5 + 3) x5)), .int (i2 x4), .int (i2 x2)]) (c_X_rowOf (I (1 + 5 + 3) x5) x4 x2 _ hI ((hI _ _)) h4 h2) v mw_X_rowOf wl_X10_362 ⟨Nat.le_of_ble_eq_true rfl, Nat.le_of_ble_eq_true rfl⟩ rfl rfl (Nat.le_of_ble_eq_true rfl) dX10_skewIn_70 (fun z26 I27 hz26 hI27 v => ?_)
      refine r_dup2 B dX10_skewIn_73 rfl rfl ?_
      obtain ⟨h28, v⟩ := v
      refine r_ald B a_234 (by decide) h28 dX10_skewIn_74 ?_
      refine r_iconst B dX10_skewIn_75 ?_
      refine r_iadd B dX10_skewIn_76 ?_
      obtain ⟨h29, v⟩ := v
      obtain ⟨h30, v⟩ := v
      refine r_ast B a_234 (by decide) h29 dX10_skewIn_77 ?_
      have hI31 : rgM (wrM I27 234 z26 (I27 234 z26 + 1)) := rg_wr hI27 h30
      refine r_iinc B (q := 4) dX10_skewIn_78 (by decide) rfl (lv' := [(5, .int (i2 (x5 + 1))), (0, .ref (eA E 0)), (2, .int (i2 x2)), (3, .int (i2 x3)), (4, .int (i2 x4))]) rfl ?_
      refine r_sub [1, 2, 3, 4, 0] rfl ?_
      refine r_goto B (tgt := 35) dX10_skewIn_81 (by decide) ?_
      obtain ⟨h32, v⟩ := v
      refine r_sub [0, 1, 2, 3, 4] rfl ?_
      exact ih (x5 + 1) _ hI31 h32 v
set_option maxHeartbeats 4000000 in
set_option maxRecDepth 100000 in
theorem wL_X_skewIn_93 {p : Program} {l : Launch} {e : Env} {s : State} {m : MethodId} {args : Array Value} {below : List Frame} {meth : Method} {c0 : Code} {E : En} {A : Nat → Prop} {x1 : Int} {x2 : Int} {x3 : Int} {x4 : Int} {Q : Int → Mm → Prop}  (B : Bd p (rmm 2 60) s m args c0 cX10_skewIn 8 RX10 E A 0 0) (hr : meth.sig.returnType = some .int) (hk : meth.locks = false) (h1 : r32 x1) (h2 : r32 x2) (h3 : r32 x3) (h4 : r32 x4)  : ∀ (n : Nat) (x5 : Int) (x6 : Int) (x7 : Int) (I : Mm), rgM I → r32 x5 → r32 x6 → r32 x7 → L_X_skewIn_93 x1 x2 x3 x4 Q n x5 x6 x7 I → WI p l e (rmm 2 60) s m args below meth c0 E A 8 0 0 (qI below E A args s Q) I 93 [(0, .ref (eA E 0)), (3, .int (i2 x3)), (4, .int (i2 x4)), (5, .int (i2 x5)), (6, .int (i2 x6)), (7, .int (i2 x7))] [] := by
  intro n
  induction n with
  | zero => intro x5 x6 x7 I _ _ _ _ v; exact absurd v id
  | succ n ih =>
    intro x5 x6 x7 I hI h5 h6 h7 v
    unfold L_X_skewIn_93 at v
    refine r_iload B dX10_skewIn_93 rfl ?_
    refine r_iload B dX10_skewIn_95 rfl ?_
    refine r_icmp_ge B (tgt := 140) dX10_skewIn_97 (by decide) h7 h4 (fun h => ?_) (fun h => ?_)
    · have v := v.1 h
      refine r_iload_n B dX10_skewIn_140 rfl rfl ?_
      have hsw : x3 = 0 ∨ x3 = 1 ∨ (¬ x3 = 0 ∧ ¬ x3 = 1) := by omega
      rcases hsw with hcs | hcs | hcs
      · have v := v.1 hcs
        refine r_look B (off := 27) (tgt := 168) dX10_skewIn_141 (by decide) h3 (by rw [hcs]; first | done | rfl) (by decide) ?_
        refine r_aload_n B dX10_skewIn_168 rfl rfl ?_
        refine r_getR B (C := RX10) (T := TX10) (N := 11) o_0 8 rfl win_X10 (by decide) rfl wf_X10_60 dX10_skewIn_169 ?_
        refine r_iload B dX10_skewIn_172 rfl ?_
        obtain ⟨h34, v⟩ := v
        refine r_ald B a_234 (by decide) h34 dX10_skewIn_174 ?_
        exact r_iret B hr hk rfl ((hI _ _)) hI v dX10_skewIn_175
      · have v := v.2.1 hcs
        refine r_look B (off := 35) (tgt := 176) dX10_skewIn_141 (by decide) h3 (by rw [hcs]; first | done | rfl) (by decide) ?_
        refine r_iload B dX10_skewIn_176 rfl ?_
        exact r_iret B hr hk rfl h5 hI v dX10_skewIn_178
      · have v := v.2.2 hcs
        refine r_look B (off := 38) (tgt := 179) dX10_skewIn_141 (by decide) h3 (by simp only [Op.lookupswitch.offset]; rw [if_neg (by omega), if_neg (by omega)]) (by decide) ?_
        refine r_iload B dX10_skewIn_179 rfl ?_
        exact r_iret B hr hk rfl h6 hI v dX10_skewIn_181
    · have v := v.2 h
      refine r_aload_n B dX10_skewIn_100 rfl rfl ?_
      refine r_getR B (C := RX10) (T := TX10) (N := 11) o_0 8 rfl win_X10 (by decide) rfl wf_X10_60 dX10_skewIn_101 ?_
      refine r_iload B dX10_skewIn_104 rfl ?_
      obtain ⟨h35, v⟩ := v
      refine r_ald B a_234 (by decide) h35 dX10_skewIn_106 ?_
      refine r_aload_n B dX10_skewIn_107 rfl rfl ?_
      refine r_getR B (C := RX10) (T := TX10) (N := 11) o_0 8 rfl win_X10 (by decide) rfl wf_X10_60 dX10_skewIn_108 ?_
      refine r_iload B dX10_skewIn_111 rfl ?_
      obtain ⟨h36, v⟩ := v
      refine r_ald B a_234 (by decide) h36 dX10_skewIn_113 ?_
      refine r_icmp_le B (tgt := 121) dX10_skewIn_114 (by decide) ((hI _ _)) ((hI _ _)) (fun h => ?_) (fun h => ?_)
      · have v := v.1 h
        refine r_aload_n B dX10_skewIn_121 rfl rfl ?_
        refine r_getR B (C := RX10) (T := TX10) (N := 11) o_0 8 rfl win_X10 (by decide) rfl wf_X10_60 dX10_skewIn_122 ?_
        refine r_iload B dX10_skewIn_125 rfl ?_
        obtain ⟨h37, v⟩ := v
        refine r_ald B a_234 (by decide) h37 dX10_skewIn_127 ?_
        refine r_if_ne B (tgt := 134) dX10_skewIn_128 (by decide) ((hI _ _)) (fun h => ?_) (fun h => ?_)
        · have v := v.1 h
          refine r_iinc B (q := 5) dX10_skewIn_134 (by decide) rfl (lv' := [(7, .int (i2 (x7 + 1))), (0, .ref (eA E 0)), (3, .int (i2 x3)), (4, .int (i2 x4)), (5, .int (i2 x5)), (6, .int (i2 x6))]) rfl ?_
          refine r_sub [1, 2, 3, 4, 5, 0] rfl ?_
          refine r_goto B (tgt := 93) dX10_skewIn_137 (by decide) ?_
          obtain ⟨h38, v⟩ := v
          refine r_sub [0, 1, 2, 3, 4, 5] rfl ?_
          exact ih x5 x6 (x7 + 1) _ hI h5 h6 h38 v
        · have v := v.2 h
          refine r_iinc B (q := 4) dX10_skewIn_131 (by decide) rfl (lv' := [(6, .int (i2 (x6 + 1))), (0, .ref (eA E 0)), (3, .int (i2 x3)), (4, .int (i2 x4)), (5, .int (i2 x5)), (7, .int (i2 x7))]) rfl ?_
          refine r_sub [1, 2, 3, 4, 0, 5] rfl ?_
          refine r_iinc B (q := 5) dX10_skewIn_134 (by decide) rfl (lv' := [(7, .int (i2 (x7 + 1))), (0, .ref (eA E 0)), (3, .int (i2 x3)), (4, .int (i2 x4)), (5, .int (i2 x5)), (6, .int (i2 (x6 + 1)))]) rfl ?_
          refine r_sub [1, 2, 3, 4, 5, 0] rfl ?_
          refine r_goto B (tgt := 93) dX10_skewIn_137 (by decide) ?_
          obtain ⟨h39, v⟩ := v
          obtain ⟨h40, v⟩ := v
          refine r_sub [0, 1, 2, 3, 4, 5] rfl ?_
          exact ih x5 (x6 + 1) (x7 + 1) _ hI h5 h39 h40 v
      · have v := v.2 h
        refine r_iload B dX10_skewIn_117 rfl ?_
        refine r_istore B dX10_skewIn_119 (by decide) (lv' := [(5, .int (i2 x7)), (0, .ref (eA E 0)), (3, .int (i2 x3)), (4, .int (i2 x4)), (6, .int (i2 x6)), (7, .int (i2 x7))]) rfl ?_
        refine r_sub [1, 2, 3, 0, 4, 5] rfl ?_
        refine r_aload_n B dX10_skewIn_121 rfl rfl ?_
        refine r_getR B (C := RX10) (T := TX10) (N := 11) o_0 8 rfl win_X10 (by decide) rfl wf_X10_60 dX10_skewIn_122 ?_
        refine r_iload B dX10_skewIn_125 rfl ?_
        obtain ⟨h41, v⟩ := v
        refine r_ald B a_234 (by decide) h41 dX10_skewIn_127 ?_
        refine r_if_ne B (tgt := 134) dX10_skewIn_128 (by decide) ((hI _ _)) (fun h => ?_) (fun h => ?_)
        · have v := v.1 h
          refine r_iinc B (q := 5) dX10_skewIn_134 (by decide) rfl (lv' := [(7, .int (i2 (x7 + 1))), (0, .ref (eA E 0)), (3, .int (i2 x3)), (4, .int (i2 x4)), (5, .int (i2 x7)), (6, .int (i2 x6))]) rfl ?_
          refine r_sub [1, 2, 3, 4, 5, 0] rfl ?_
          refine r_goto B (tgt := 93) dX10_skewIn_137 (by decide) ?_
          obtain ⟨h42, v⟩ := v
          refine r_sub [0, 1, 2, 3, 4, 5] rfl ?_
          exact ih x7 x6 (x7 + 1) _ hI h7 h6 h42 v
        · have v := v.2 h
          refine r_iinc B (q := 4) dX10_skewIn_131 (by decide) rfl (lv' := [(6, .int (i2 (x6 + 1))), (0, .ref (eA E 0)), (3, .int (i2 x3)), (4, .int (i2 x4)), (5, .int (i2 x7)), (7, .int (i2 x7))]) rfl ?_
          refine r_sub [1, 2, 3, 4, 0, 5] rfl ?_
          refine r_iinc B (q := 5) dX10_skewIn_134 (by decide) rfl (lv' := [(7, .int (i2 (x7 + 1))), (0, .ref (eA E 0)), (3, .int (i2 x3)), (4, .int (i2 x4)), (5, .int (i2 x7)), (6, .int (i2 (x6 + 1)))]) rfl ?_
          refine r_sub [1, 2, 3, 4, 5, 0] rfl ?_
          refine r_goto B (tgt := 93) dX10_skewIn_137 (by decide) ?_
          obtain ⟨h43, v⟩ := v
          obtain ⟨h44, v⟩ := v
          refine r_sub [0, 1, 2, 3, 4, 5] rfl ?_
          exact ih x7 (x6 + 1) (x7 + 1) _ hI h7 h43 h44 v
set_option maxHeartbeats 4000000 in
set_option maxRecDepth 100000 in
theorem c_X_skewIn {l : Launch} {E : En} {A : Nat → Prop} (x1 : Int) (x2 : Int) (x3 : Int) (I : Mm)  (hI : rgM I) (h1 : r32 x1) (h2 : r32 x2) (h3 : r32 x3) : CI l E A yX10_skewIn cX10_skewIn 8 .int 2 60 [.ref (eA E 0), .int (i2 x1), .int (i2 x2), .int (i2 x3)] I (V_X_skewIn x1 x2 x3 I) := by
  intro Q v
  refine mk_met (own := RX10) (lv0 := [(0, .ref (eA E 0)), (1, .int (i2 x1)), (2, .int (i2 x2)), (3, .int (i2 x3))]) (by decide) rfl (Nat.le_of_ble_eq_true rfl) rfl (fun p e s m args below meth c0 B hr hk => ?_)
  unfold V_X_skewIn at v
  refine r_iload_n B dX10_skewIn_0 rfl rfl ?_
  refine r_bipush B dX10_skewIn_1 (by decide) ?_
  refine r_min B wl_X10_357 ws_r_min wi_Math wd_r_min (Nat.le_of_ble_eq_true rfl) (Nat.le_of_ble_eq_true rfl) h1 ((rg_lit (by decide) (by decide))) dX10_skewIn_3 ?_
  refine r_istore B dX10_skewIn_6 (by decide) (lv' := [(4, .int (i2 (min x1 64))), (0, .ref (eA E 0)), (1, .int (i2 x1)), (2, .int (i2 x2)), (3, .int (i2 x3))]) rfl ?_
  refine r_sub [1, 2, 3, 4, 0] rfl ?_
  refine r_iconst B dX10_skewIn_8 ?_
  refine r_istore B dX10_skewIn_9 (by decide) (lv' := [(5, .int (i2 0)), (0, .ref (eA E 0)), (1, .int (i2 x1)), (2, .int (i2 x2)), (3, .int (i2 x3)), (4, .int (i2 (min x1 64)))]) rfl ?_
  refine r_sub [1, 2, 3, 4, 5, 0] rfl ?_
  obtain ⟨f47, v⟩ := v
  refine r_sub [0, 2, 3, 4, 5] rfl ?_
  refine wL_X_skewIn_11 B hr hk h1 h2 h3 ((rg_min h1 ((rg_lit (by decide) (by decide))))) (fun I24 hI24 v => ?_) f47 0 I hI ((rg_lit (by decide) (by decide))) v
  · refine r_iconst B dX10_skewIn_32 ?_
    refine r_istore B dX10_skewIn_33 (by decide) (lv' := [(5, .int (i2 0)), (0, .ref (eA E 0)), (2, .int (i2 x2)), (3, .int (i2 x3)), (4, .int (i2 (min x1 64)))]) rfl ?_
    refine r_sub [1, 2, 3, 4, 0] rfl ?_
    obtain ⟨f46, v⟩ := v
    refine r_sub [0, 1, 2, 3, 4] rfl ?_
    refine wL_X_skewIn_35 B hr hk h1 h2 h3 ((rg_min h1 ((rg_lit (by decide) (by decide))))) (fun I33 hI33 v => ?_) f46 0 I24 hI24 ((rg_lit (by decide) (by decide))) v
    · refine r_iconst B dX10_skewIn_84 ?_
      refine r_istore B dX10_skewIn_85 (by decide) (lv' := [(5, .int (i2 0)), (0, .ref (eA E 0)), (3, .int (i2 x3)), (4, .int (i2 (min x1 64)))]) rfl ?_
      refine r_sub [1, 2, 3, 0] rfl ?_
      refine r_iconst B dX10_skewIn_87 ?_
      refine r_istore B dX10_skewIn_88 (by decide) (lv' := [(6, .int (i2 0)), (0, .ref (eA E 0)), (3, .int (i2 x3)), (4, .int (i2 (min x1 64))), (5, .int (i2 0))]) rfl ?_
      refine r_sub [1, 2, 3, 4, 0] rfl ?_
      refine r_iconst B dX10_skewIn_90 ?_
      refine r_istore B dX10_skewIn_91 (by decide) (lv' := [(7, .int (i2 0)), (0, .ref (eA E 0)), (3, .int (i2 x3)), (4, .int (i2 (min x1 64))), (5, .int (i2 0)), (6, .int (i2 0))]) rfl ?_
      refine r_sub [1, 2, 3, 4, 5, 0] rfl ?_
      obtain ⟨f45, v⟩ := v
      refine r_sub [0, 1, 2, 3, 4, 5] rfl ?_
      exact wL_X_skewIn_93 B hr hk h1 h2 h3 ((rg_min h1 ((rg_lit (by decide) (by decide))))) f45 0 0 0 I33 hI33 ((rg_lit (by decide) (by decide))) ((rg_lit (by decide) (by decide))) ((rg_lit (by decide) (by decide))) v
set_option maxHeartbeats 4000000 in
set_option maxRecDepth 100000 in
theorem wL_Th_mostWithin_21 {p : Program} {l : Launch} {e : Env} {s : State} {m : MethodId} {args : Array Value} {below : List Frame} {meth : Method} {c0 : Code} {E : En} {A : Nat → Prop} {c : Int} {x1 : Int} {x2 : Int} {x3 : Int} {x4 : Int} {x6 : Int} {Q : Int → Mm → Prop} {K55 : Int → Mm → Prop} (B : Bd p (rmm 0 0) s m args c0 cX8_mostWithin 7 RX8 E A 0 0) (hr : meth.sig.returnType = some .int) (hk : meth.locks = false) (hc : isTh c) (h1 : r32 x1) (h2 : r32 x2) (h3 : r32 x3) (h4 : r32 x4) (h6 : r32 x6) (k55 : ∀ (x5 : Int) (I : Mm), rgM I → r32 x5 → K55 x5 I → WI p l e (rmm 0 0) s m args below meth c0 E A 7 0 0 (qI below E A args s Q) I 55 [(0, .ref (eA E c)), (1, .int (i2 x1)), (2, .int (i2 x2)), (3, .int (i2 x3)), (4, .int (i2 x4)), (5, .int (i2 x5)), (6, .int (i2 x6))] []) : ∀ (n : Nat) (x5 : Int) (I : Mm), rgM I → r32 x5 → L_Th_mostWithin_21 c x1 x2 x3 x4 x6 Q K55 n x5 I → WI p l e (rmm 0 0) s m args below meth c0 E A 7 0 0 (qI below E A args s Q) I 21 [(0, .ref (eA E c)), (1, .int (i2 x1)), (2, .int (i2 x2)), (3, .int (i2 x3)), (4, .int (i2 x4)), (5, .int (i2 x5)), (6, .int (i2 x6))] [] := by
  intro n
  induction n with
  | zero => intro x5 I _ _ v; exact absurd v id
  | succ n ih =>
    intro x5 I hI h5 v
    unfold L_Th_mostWithin_21 at v
    refine r_iload B dX8_mostWithin_21 rfl ?_
    refine r_aload_n B dX8_mostWithin_23 rfl rfl ?_
    refine r_getI B (C := RX8) (T := TX8) (N := 4) (hc.1) 0 rfl win_X8 (by decide) rfl wf_X8_21 dX8_mostWithin_24 (jj := 0) rfl ?_
    refine r_icmp_ge B (tgt := 55) dX8_mostWithin_27 (by decide) h5 ((hI _ _)) (fun h => ?_) (fun h => ?_)
    · have v := v.1 h
      refine r_sub [0, 1, 2, 3, 4, 5, 6] rfl ?_
      exact k55 x5 _ hI h5 v
    · have v := v.2 h
      refine r_aload_n B dX8_mostWithin_30 rfl rfl ?_
      refine r_getR B (C := RX8) (T := TX8) (N := 4) (hc.1) 3 rfl win_X8 (by decide) rfl wf_X8_18 dX8_mostWithin_31 ?_
      refine r_iload B dX8_mostWithin_34 rfl ?_
      obtain ⟨h21, v⟩ := v
      refine r_ald B (hc.2.2.2) (by decide) h21 dX8_mostWithin_36 ?_
      refine r_aload_n B dX8_mostWithin_37 rfl rfl ?_
      refine r_getR B (C := RX8) (T := TX8) (N := 4) (hc.1) 3 rfl win_X8 (by decide) rfl wf_X8_18 dX8_mostWithin_38 ?_
      refine r_iload B dX8_mostWithin_41 rfl ?_
      obtain ⟨h22, v⟩ := v
      refine r_ald B (hc.2.2.2) (by decide) h22 dX8_mostWithin_43 ?_
      refine r_isub B dX8_mostWithin_44 ?_
      refine r_iload_n B dX8_mostWithin_45 rfl rfl ?_
      obtain ⟨h23, v⟩ := v
      refine r_icmp_ge B (tgt := 55) dX8_mostWithin_46 (by decide) h23 h1 (fun h => ?_) (fun h => ?_)
      · have v := v.1 h
        refine r_sub [0, 1, 2, 3, 4, 5, 6] rfl ?_
        exact k55 x5 _ hI h5 v
      · have v := v.2 h
        refine r_iinc B (q := 5) dX8_mostWithin_49 (by decide) rfl (lv' := [(5, .int (i2 (x5 + 1))), (0, .ref (eA E c)), (1, .int (i2 x1)), (2, .int (i2 x2)), (3, .int (i2 x3)), (4, .int (i2 x4)), (6, .int (i2 x6))]) rfl ?_
        refine r_sub [1, 2, 3, 4, 5, 0, 6] rfl ?_
        refine r_goto B (tgt := 21) dX8_mostWithin_52 (by decide) ?_
        obtain ⟨h24, v⟩ := v
        refine r_sub [0, 1, 2, 3, 4, 5, 6] rfl ?_
        exact ih (x5 + 1) _ hI h24 v
set_option maxHeartbeats 4000000 in
set_option maxRecDepth 100000 in
theorem wL_Th_mostWithin_12 {p : Program} {l : Launch} {e : Env} {s : State} {m : MethodId} {args : Array Value} {below : List Frame} {meth : Method} {c0 : Code} {E : En} {A : Nat → Prop} {c : Int} {x1 : Int} {x2 : Int} {Q : Int → Mm → Prop}  (B : Bd p (rmm 0 0) s m args c0 cX8_mostWithin 7 RX8 E A 0 0) (hr : meth.sig.returnType = some .int) (hk : meth.locks = false) (hc : isTh c) (h1 : r32 x1) (h2 : r32 x2)   : ∀ (n : Nat) (x3 : Int) (x4 : Int) (x5 : Int) (x6 : Int) (I : Mm), rgM I → r32 x3 → r32 x4 → r32 x5 → r32 x6 → L_Th_mostWithin_12 c x1 x2 Q n x3 x4 x5 x6 I → WI p l e (rmm 0 0) s m args below meth c0 E A 7 0 0 (qI below E A args s Q) I 12 [(0, .ref (eA E c)), (1, .int (i2 x1)), (2, .int (i2 x2)), (3, .int (i2 x3)), (4, .int (i2 x4)), (5, .int (i2 x5)), (6, .int (i2 x6))] [] := by
  intro n
  induction n with
  | zero => intro x3 x4 x5 x6 I _ _ _ _ _ v; exact absurd v id
  | succ n ih =>
    intro x3 x4 x5 x6 I hI h3 h4 h5 h6 v
    unfold L_Th_mostWithin_12 at v
    refine r_iload B dX8_mostWithin_12 rfl ?_
    refine r_aload_n B dX8_mostWithin_14 rfl rfl ?_
    refine r_getI B (C := RX8) (T := TX8) (N := 4) (hc.1) 0 rfl win_X8 (by decide) rfl wf_X8_21 dX8_mostWithin_15 (jj := 0) rfl ?_
    refine r_icmp_ge B (tgt := 85) dX8_mostWithin_18 (by decide) h6 ((hI _ _)) (fun h => ?_) (fun h => ?_)
    · have v := v.1 h
      refine r_iload_n B dX8_mostWithin_85 rfl rfl ?_
      refine r_if_ne B (tgt := 93) dX8_mostWithin_86 (by decide) h2 (fun h => ?_) (fun h => ?_)
      · have v := v.1 h
        refine r_iload B dX8_mostWithin_93 rfl ?_
        exact r_iret B hr hk rfl h4 hI v dX8_mostWithin_95
      · have v := v.2 h
        refine r_iload_n B dX8_mostWithin_89 rfl rfl ?_
        refine r_goto B (tgt := 95) dX8_mostWithin_90 (by decide) ?_
        exact r_iret B hr hk rfl h3 hI v dX8_mostWithin_95
    · have v := v.2 h
      obtain ⟨f32, v⟩ := v
      refine r_sub [0, 1, 2, 3, 4, 5, 6] rfl ?_
      refine wL_Th_mostWithin_21 B hr hk hc h1 h2 h3 h4 h6 (fun y25 I26 hI26 hy25 v => ?_) f32 x5 I hI h5 v
      · refine r_iload B dX8_mostWithin_55 rfl ?_
        refine r_iload B dX8_mostWithin_57 rfl ?_
        refine r_isub B dX8_mostWithin_59 ?_
        refine r_iload_n B dX8_mostWithin_60 rfl rfl ?_
        obtain ⟨h27, v⟩ := v
        refine r_icmp_le B (tgt := 79) dX8_mostWithin_61 (by decide) h27 h3 (fun h => ?_) (fun h => ?_)
        · have v := v.1 h
          refine r_iinc B (q := 6) dX8_mostWithin_79 (by decide) rfl (lv' := [(6, .int (i2 (x6 + 1))), (0, .ref (eA E c)), (1, .int (i2 x1)), (2, .int (i2 x2)), (3, .int (i2 x3)), (4, .int (i2 x4)), (5, .int (i2 y25))]) rfl ?_
          refine r_sub [1, 2, 3, 4, 5, 6, 0] rfl ?_
          refine r_goto B (tgt := 12) dX8_mostWithin_82 (by decide) ?_
          obtain ⟨h28, v⟩ := v
          refine r_sub [0, 1, 2, 3, 4, 5, 6] rfl ?_
          exact ih x3 x4 y25 (x6 + 1) _ hI26 h3 h4 hy25 h28 v
        · have v := v.2 h
          refine r_iload B dX8_mostWithin_64 rfl ?_
          refine r_iload B dX8_mostWithin_66 rfl ?_
          refine r_isub B dX8_mostWithin_68 ?_
          refine r_istore_n B dX8_mostWithin_69 rfl (by decide) (lv' := [(3, .int (i2 (y25 - x6))), (0, .ref (eA E c)), (1, .int (i2 x1)), (2, .int (i2 x2)), (4, .int (i2 x4)), (5, .int (i2 y25)), (6, .int (i2 x6))]) rfl ?_
          refine r_sub [1, 2, 3, 0, 4, 5, 6] rfl ?_
          refine r_aload_n B dX8_mostWithin_70 rfl rfl ?_
          refine r_getR B (C := RX8) (T := TX8) (N := 4) (hc.1) 3 rfl win_X8 (by decide) rfl wf_X8_18 dX8_mostWithin_71 ?_
          refine r_iload B dX8_mostWithin_74 rfl ?_
          obtain ⟨h29, v⟩ := v
          refine r_ald B (hc.2.2.2) (by decide) h29 dX8_mostWithin_76 ?_
          refine r_istore B dX8_mostWithin_77 (by decide) (lv' := [(4, .int (i2 (I26 (c + 3) x6))), (0, .ref (eA E c)), (1, .int (i2 x1)), (2, .int (i2 x2)), (3, .int (i2 (y25 - x6))), (5, .int (i2 y25)), (6, .int (i2 x6))]) rfl ?_
          refine r_sub [1, 2, 3, 4, 0, 5, 6] rfl ?_
          refine r_iinc B (q := 6) dX8_mostWithin_79 (by decide) rfl (lv' := [(6, .int (i2 (x6 + 1))), (0, .ref (eA E c)), (1, .int (i2 x1)), (2, .int (i2 x2)), (3, .int (i2 (y25 - x6))), (4, .int (i2 (I26 (c + 3) x6))), (5, .int (i2 y25))]) rfl ?_
          refine r_sub [1, 2, 3, 4, 5, 6, 0] rfl ?_
          refine r_goto B (tgt := 12) dX8_mostWithin_82 (by decide) ?_
          obtain ⟨h30, v⟩ := v
          obtain ⟨h31, v⟩ := v
          refine r_sub [0, 1, 2, 3, 4, 5, 6] rfl ?_
          exact ih (y25 - x6) (I26 (c + 3) x6) y25 (x6 + 1) _ hI26 h30 ((hI26 _ _)) hy25 h31 v
set_option maxHeartbeats 4000000 in
set_option maxRecDepth 100000 in
theorem c_Th_mostWithin {l : Launch} {E : En} {A : Nat → Prop} (c : Int) (x1 : Int) (x2 : Int) (I : Mm) (hc : isTh c) (hI : rgM I) (h1 : r32 x1) (h2 : r32 x2) : CI l E A yX8_mostWithin cX8_mostWithin 7 .int 0 0 [.ref (eA E c), .int (i2 x1), .int (i2 x2)] I (V_Th_mostWithin c x1 x2 I) := by
  intro Q v
  refine mk_met (own := RX8) (lv0 := [(0, .ref (eA E c)), (1, .int (i2 x1)), (2, .int (i2 x2))]) (by decide) rfl (Nat.le_of_ble_eq_true rfl) rfl (fun p e s m args below meth c0 B hr hk => ?_)
  unfold V_Th_mostWithin at v
  refine r_iconst B dX8_mostWithin_0 ?_
  refine r_istore_n B dX8_mostWithin_1 rfl (by decide) (lv' := [(3, .int (i2 0)), (0, .ref (eA E c)), (1, .int (i2 x1)), (2, .int (i2 x2))]) rfl ?_
  refine r_sub [1, 2, 3, 0] rfl ?_
  refine r_bipush B dX8_mostWithin_2 (by decide) ?_
  refine r_istore B dX8_mostWithin_4 (by decide) (lv' := [(4, .int (i2 (-2))), (0, .ref (eA E c)), (1, .int (i2 x1)), (2, .int (i2 x2)), (3, .int (i2 0))]) rfl ?_
  refine r_sub [1, 2, 3, 4, 0] rfl ?_
  refine r_iconst B dX8_mostWithin_6 ?_
  refine r_istore B dX8_mostWithin_7 (by decide) (lv' := [(5, .int (i2 0)), (0, .ref (eA E c)), (1, .int (i2 x1)), (2, .int (i2 x2)), (3, .int (i2 0)), (4, .int (i2 (-2)))]) rfl ?_
  refine r_sub [1, 2, 3, 4, 5, 0] rfl ?_
  refine r_iconst B dX8_mostWithin_9 ?_
  refine r_istore B dX8_mostWithin_10 (by decide) (lv' := [(6, .int (i2 0)), (0, .ref (eA E c)), (1, .int (i2 x1)), (2, .int (i2 x2)), (3, .int (i2 0)), (4, .int (i2 (-2))), (5, .int (i2 0))]) rfl ?_
  refine r_sub [1, 2, 3, 4, 5, 6, 0] rfl ?_
  obtain ⟨f33, v⟩ := v
  refine r_sub [0, 1, 2, 3, 4, 5, 6] rfl ?_
  exact wL_Th_mostWithin_12 B hr hk hc h1 h2 f33 0 (-2) 0 0 I hI ((rg_lit (by decide) (by decide))) ((rg_lit (by decide) (by decide))) ((rg_lit (by decide) (by decide))) ((rg_lit (by decide) (by decide))) v
set_option maxHeartbeats 4000000 in
set_option maxRecDepth 100000 in
theorem c_Th_meanGap {l : Launch} {E : En} {A : Nat → Prop} (c : Int) (I : Mm) (hc : isTh c) (hI : rgM I)  : CI l E A yX8_meanGap cX8_meanGap 1 .int 0 0 [.ref (eA E c)] I (V_Th_meanGap c I) := by
  intro Q v
  refine mk_met (own := RX8) (lv0 := [(0, .ref (eA E c))]) (by decide) rfl (Nat.le_of_ble_eq_true rfl) rfl (fun p e s m args below meth c0 B hr hk => ?_)
  unfold V_Th_meanGap at v
  refine r_aload_n B dX8_meanGap_0 rfl rfl ?_
  refine r_getI B (C := RX8) (T := TX8) (N := 4) (hc.1) 0 rfl win_X8 (by decide) rfl wf_X8_21 dX8_meanGap_1 (jj := 0) rfl ?_
  refine r_iconst B dX8_meanGap_4 ?_
  refine r_icmp_ge B (tgt := 12) dX8_meanGap_5 (by decide) ((hI _ _)) ((rg_lit (by decide) (by decide))) (fun h => ?_) (fun h => ?_)
  · have v := v.1 h
    refine r_aload_n B dX8_meanGap_12 rfl rfl ?_
    refine r_getR B (C := RX8) (T := TX8) (N := 4) (hc.1) 3 rfl win_X8 (by decide) rfl wf_X8_18 dX8_meanGap_13 ?_
    refine r_aload_n B dX8_meanGap_16 rfl rfl ?_
    refine r_getI B (C := RX8) (T := TX8) (N := 4) (hc.1) 0 rfl win_X8 (by decide) rfl wf_X8_21 dX8_meanGap_17 (jj := 0) rfl ?_
    refine r_iconst B dX8_meanGap_20 ?_
    refine r_isub B dX8_meanGap_21 ?_
    obtain ⟨h21, v⟩ := v
    refine r_ald B (hc.2.2.2) (by decide) h21 dX8_meanGap_22 ?_
    refine r_aload_n B dX8_meanGap_23 rfl rfl ?_
    refine r_getR B (C := RX8) (T := TX8) (N := 4) (hc.1) 3 rfl win_X8 (by decide) rfl wf_X8_18 dX8_meanGap_24 ?_
    refine r_iconst B dX8_meanGap_27 ?_
    refine r_ald B (hc.2.2.2) (by decide) (by decide) dX8_meanGap_28 ?_
    refine r_isub B dX8_meanGap_29 ?_
    refine r_aload_n B dX8_meanGap_30 rfl rfl ?_
    refine r_getI B (C := RX8) (T := TX8) (N := 4) (hc.1) 0 rfl win_X8 (by decide) rfl wf_X8_21 dX8_meanGap_31 (jj := 0) rfl ?_
    refine r_iconst B dX8_meanGap_34 ?_
    refine r_isub B dX8_meanGap_35 ?_
    obtain ⟨h22, v⟩ := v
    obtain ⟨h23, v⟩ := v
    obtain ⟨h24, v⟩ := v
    refine r_idiv B dX8_meanGap_36 h22 h23 h24 ?_
    exact r_iret B hr hk rfl ((rg_div h22 h24.1 h24.2)) hI v dX8_meanGap_37
  · have v := v.2 h
    refine r_iconst B dX8_meanGap_8 ?_
    refine r_goto B (tgt := 37) dX8_meanGap_9 (by decide) ?_
    exact r_iret B hr hk rfl ((rg_lit (by decide) (by decide))) hI v dX8_meanGap_37
set_option maxHeartbeats 4000000 in
set_option maxRecDepth 100000 in
theorem c_Th_gapBehind {l : Launch} {E : En} {A : Nat → Prop} (c : Int) (x1 : Int) (I : Mm) (hc : isTh c) (hI : rgM I) (h1 : r32 x1) : CI l E A yX8_gapBehind cX8_gapBehind 2 .int 0 0 [.ref (eA E c), .int (i2 x1)] I (V_Th_gapBehind c x1 I) := by
  intro Q v
  refine mk_met (own := RX8) (lv0 := [(0, .ref (eA E c)), (1, .int (i2 x1))]) (by decide) rfl (Nat.le_of_ble_eq_true rfl) rfl (fun p e s m args below meth c0 B hr hk => ?_)
  unfold V_Th_gapBehind at v
  refine r_iload_n B dX8_gapBehind_0 rfl rfl ?_
  refine r_if_lt B (tgt := 14) dX8_gapBehind_1 (by decide) h1 (fun h => ?_) (fun h => ?_)
  · have v := v.1 h
    refine r_iconst B dX8_gapBehind_14 ?_
    refine r_goto B (tgt := 33) dX8_gapBehind_15 (by decide) ?_
    exact r_iret B hr hk rfl ((rg_lit (by decide) (by decide))) hI v dX8_gapBehind_33
  · have v := v.2 h
    refine r_iload_n B dX8_gapBehind_4 rfl rfl ?_
    refine r_iconst B dX8_gapBehind_5 ?_
    refine r_iadd B dX8_gapBehind_6 ?_
    refine r_aload_n B dX8_gapBehind_7 rfl rfl ?_
    refine r_getI B (C := RX8) (T := TX8) (N := 4) (hc.1) 0 rfl win_X8 (by decide) rfl wf_X8_21 dX8_gapBehind_8 (jj := 0) rfl ?_
    obtain ⟨h21, v⟩ := v
    refine r_icmp_lt B (tgt := 18) dX8_gapBehind_11 (by decide) h21 ((hI _ _)) (fun h => ?_) (fun h => ?_)
    · have v := v.1 h
      refine r_aload_n B dX8_gapBehind_18 rfl rfl ?_
      refine r_getR B (C := RX8) (T := TX8) (N := 4) (hc.1) 3 rfl win_X8 (by decide) rfl wf_X8_18 dX8_gapBehind_19 ?_
      refine r_iload_n B dX8_gapBehind_22 rfl rfl ?_
      refine r_iconst B dX8_gapBehind_23 ?_
      refine r_iadd B dX8_gapBehind_24 ?_
      obtain ⟨h22, v⟩ := v
      refine r_ald B (hc.2.2.2) (by decide) h22 dX8_gapBehind_25 ?_
      refine r_aload_n B dX8_gapBehind_26 rfl rfl ?_
      refine r_getR B (C := RX8) (T := TX8) (N := 4) (hc.1) 3 rfl win_X8 (by decide) rfl wf_X8_18 dX8_gapBehind_27 ?_
      refine r_iload_n B dX8_gapBehind_30 rfl rfl ?_
      obtain ⟨h23, v⟩ := v
      refine r_ald B (hc.2.2.2) (by decide) h23 dX8_gapBehind_31 ?_
      refine r_isub B dX8_gapBehind_32 ?_
      obtain ⟨h24, v⟩ := v
      exact r_iret B hr hk rfl h24 hI v dX8_gapBehind_33
    · have v := v.2 h
      refine r_iconst B dX8_gapBehind_14 ?_
      refine r_goto B (tgt := 33) dX8_gapBehind_15 (by decide) ?_
      exact r_iret B hr hk rfl ((rg_lit (by decide) (by decide))) hI v dX8_gapBehind_33
set_option maxHeartbeats 4000000 in
set_option maxRecDepth 100000 in
theorem wL_Th_greatestGap_4 {p : Program} {l : Launch} {e : Env} {s : State} {m : MethodId} {args : Array Value} {below : List Frame} {meth : Method} {c0 : Code} {E : En} {A : Nat → Prop} {c : Int} {Q : Int → Mm → Prop}  (B : Bd p (rmm 1 60) s m args c0 cX8_greatestGap 3 RX8 E A 0 0) (hr : meth.sig.returnType = some .int) (hk : meth.locks = false) (hc : isTh c)   : ∀ (n : Nat) (x1 : Int) (x2 : Int) (I : Mm), rgM I → r32 x1 → r32 x2 → L_Th_greatestGap_4 c Q n x1 x2 I → WI p l e (rmm 1 60) s m args below meth c0 E A 3 0 0 (qI below E A args s Q) I 4 [(0, .ref (eA E c)), (1, .int (i2 x1)), (2, .int (i2 x2))] [] := by
  intro n
  induction n with
  | zero => intro x1 x2 I _ _ _ v; exact absurd v id
  | succ n ih =>
    intro x1 x2 I hI h1 h2 v
    unfold L_Th_greatestGap_4 at v
    refine r_iload_n B dX8_greatestGap_4 rfl rfl ?_
    refine r_iconst B dX8_greatestGap_5 ?_
    refine r_iadd B dX8_greatestGap_6 ?_
    refine r_aload_n B dX8_greatestGap_7 rfl rfl ?_
    refine r_getI B (C := RX8) (T := TX8) (N := 4) (hc.1) 0 rfl win_X8 (by decide) rfl wf_X8_21 dX8_greatestGap_8 (jj := 0) rfl ?_
    obtain ⟨h21, v⟩ := v
    refine r_icmp_ge B (tgt := 30) dX8_greatestGap_11 (by decide) h21 ((hI _ _)) (fun h => ?_) (fun h => ?_)
    · have v := v.1 h
      refine r_iload_n B dX8_greatestGap_30 rfl rfl ?_
      exact r_iret B hr hk rfl h1 hI v dX8_greatestGap_31
    · have v := v.2 h
      refine r_iload_n B dX8_greatestGap_14 rfl rfl ?_
      refine r_aload_n B dX8_greatestGap_15 rfl rfl ?_
      refine r_iload_n B dX8_greatestGap_16 rfl rfl ?_
      refine r_cI B (st := [.int (i2 x1)]) (as := [.int (i2 x2)]) (T := TX8) (N := 4) (c_Th_gapBehind c x2 _ hc hI h2) v (hc.1) rfl mw_Th_gapBehind wl_X8_43 ⟨Nat.le_of_ble_eq_true rfl, Nat.le_of_ble_eq_true rfl⟩ rfl rfl (Nat.le_of_ble_eq_true rfl) dX8_greatestGap_17 (fun z22 I23 hz22 hI23 v => ?_)
      refine r_max B wl_X8_46 ws_r_max wi_Math wd_r_max (Nat.le_of_ble_eq_true rfl) (Nat.le_of_ble_eq_true rfl) h1 hz22 dX8_greatestGap_20 ?_
      refine r_istore_n B dX8_greatestGap_23 rfl (by decide) (lv' := [(1, .int (i2 (max x1 z22))), (0, .ref (eA E c)), (2, .int (i2 x2))]) rfl ?_
      refine r_sub [1, 0, 2] rfl ?_
      refine r_iinc B (q := 2) dX8_greatestGap_24 (by decide) rfl (lv' := [(2, .int (i2 (x2 + 1))), (0, .ref (eA E c)), (1, .int (i2 (max x1 z22)))]) rfl ?_
      refine r_sub [1, 2, 0] rfl ?_
      refine r_goto B (tgt := 4) dX8_greatestGap_27 (by decide) ?_
      obtain ⟨h24, v⟩ := v
      refine r_sub [0, 1, 2] rfl ?_
      exact ih (max x1 z22) (x2 + 1) _ hI23 ((rg_max h1 hz22)) h24 v
set_option maxHeartbeats 4000000 in
set_option maxRecDepth 100000 in
theorem c_Th_greatestGap {l : Launch} {E : En} {A : Nat → Prop} (c : Int) (I : Mm) (hc : isTh c) (hI : rgM I)  : CI l E A yX8_greatestGap cX8_greatestGap 3 .int 1 60 [.ref (eA E c)] I (V_Th_greatestGap c I) := by
  intro Q v
  refine mk_met (own := RX8) (lv0 := [(0, .ref (eA E c))]) (by decide) rfl (Nat.le_of_ble_eq_true rfl) rfl (fun p e s m args below meth c0 B hr hk => ?_)
  unfold V_Th_greatestGap at v
  refine r_iconst B dX8_greatestGap_0 ?_
  refine r_istore_n B dX8_greatestGap_1 rfl (by decide) (lv' := [(1, .int (i2 0)), (0, .ref (eA E c))]) rfl ?_
  refine r_sub [1, 0] rfl ?_
  refine r_iconst B dX8_greatestGap_2 ?_
  refine r_istore_n B dX8_greatestGap_3 rfl (by decide) (lv' := [(2, .int (i2 0)), (0, .ref (eA E c)), (1, .int (i2 0))]) rfl ?_
  refine r_sub [1, 2, 0] rfl ?_
  obtain ⟨f25, v⟩ := v
  refine r_sub [0, 1, 2] rfl ?_
  exact wL_Th_greatestGap_4 B hr hk hc f25 0 0 I hI ((rg_lit (by decide) (by decide))) ((rg_lit (by decide) (by decide))) v
set_option maxHeartbeats 4000000 in
set_option maxRecDepth 100000 in
theorem c_X_skew {l : Launch} {E : En} {A : Nat → Prop} (x1 : Int) (I : Mm)  (hI : rgM I) (h1 : r32 x1) : CI l E A yX10_skew cX10_skew 2 .int 3 87 [.ref (eA E 0), .int (i2 x1)] I (V_X_skew x1 I) := by
  intro Q v
  refine mk_met (own := RX10) (lv0 := [(0, .ref (eA E 0)), (1, .int (i2 x1))]) (by decide) rfl (Nat.le_of_ble_eq_true rfl) rfl (fun p e s m args below meth c0 B hr hk => ?_)
  unfold V_X_skew at v
  refine r_iload_n B dX10_skew_0 rfl rfl ?_
  have hsw : x1 = 0 ∨ x1 = 1 ∨ x1 = 2 ∨ x1 = 3 ∨ x1 = 4 ∨ x1 = 5 ∨ (x1 < 0 ∨ 5 < x1) := by omega
  rcases hsw with hcs | hcs | hcs | hcs | hcs | hcs | hcs
  · have v := v.1 hcs
    refine r_tabIn B (tgt := 40) dX10_skew_1 h1 0 hcs (by decide) (by decide) rfl (by decide) ?_
    refine r_aload_n B dX10_skew_40 rfl rfl ?_
    refine r_aload_n B dX10_skew_41 rfl rfl ?_
    refine r_getR B (C := RX10) (T := TX10) (N := 11) o_0 0 rfl win_X10 (by decide) rfl wf_X10_10 dX10_skew_42 ?_
    refine r_getI B (C := RX0) (T := TX0) (N := 9) (ca_1.1) 5 rfl win_X0 (by decide) rfl wf_X10_212 dX10_skew_45 (jj := 5) rfl ?_
    refine r_aload_n B dX10_skew_48 rfl rfl ?_
    refine r_getR B (C := RX10) (T := TX10) (N := 11) o_0 0 rfl win_X10 (by decide) rfl wf_X10_10 dX10_skew_49 ?_
    refine r_getI B (C := RX0) (T := TX0) (N := 9) (ca_1.1) 6 rfl win_X0 (by decide) rfl wf_X10_215 dX10_skew_52 (jj := 6) rfl ?_
    refine r_iload_n B dX10_skew_55 rfl rfl ?_
    refine r_cI B (st := []) (as := [.int (i2 (I 1 5)), .int (i2 (I 1 6)), .int (i2 x1)]) (T := TX10) (N := 11) (c_X_skewIn (I 1 5) (I 1 6) x1 _ hI ((hI _ _)) ((hI _ _)) h1) v o_0 rfl mw_X_skewIn wl_X10_279 ⟨Nat.le_of_ble_eq_true rfl, Nat.le_of_ble_eq_true rfl⟩ rfl rfl (Nat.le_of_ble_eq_true rfl) dX10_skew_56 (fun z21 I22 hz21 hI22 v => ?_)
    exact r_iret B hr hk rfl hz21 hI22 v dX10_skew_59
  · have v := v.2.1 hcs
    refine r_tabIn B (tgt := 40) dX10_skew_1 h1 1 hcs (by decide) (by decide) rfl (by decide) ?_
    refine r_aload_n B dX10_skew_40 rfl rfl ?_
    refine r_aload_n B dX10_skew_41 rfl rfl ?_
    refine r_getR B (C := RX10) (T := TX10) (N := 11) o_0 0 rfl win_X10 (by decide) rfl wf_X10_10 dX10_skew_42 ?_
    refine r_getI B (C := RX0) (T := TX0) (N := 9) (ca_1.1) 5 rfl win_X0 (by decide) rfl wf_X10_212 dX10_skew_45 (jj := 5) rfl ?_
    refine r_aload_n B dX10_skew_48 rfl rfl ?_
    refine r_getR B (C := RX10) (T := TX10) (N := 11) o_0 0 rfl win_X10 (by decide) rfl wf_X10_10 dX10_skew_49 ?_
    refine r_getI B (C := RX0) (T := TX0) (N := 9) (ca_1.1) 6 rfl win_X0 (by decide) rfl wf_X10_215 dX10_skew_52 (jj := 6) rfl ?_
    refine r_iload_n B dX10_skew_55 rfl rfl ?_
    refine r_cI B (st := []) (as := [.int (i2 (I 1 5)), .int (i2 (I 1 6)), .int (i2 x1)]) (T := TX10) (N := 11) (c_X_skewIn (I 1 5) (I 1 6) x1 _ hI ((hI _ _)) ((hI _ _)) h1) v o_0 rfl mw_X_skewIn wl_X10_279 ⟨Nat.le_of_ble_eq_true rfl, Nat.le_of_ble_eq_true rfl⟩ rfl rfl (Nat.le_of_ble_eq_true rfl) dX10_skew_56 (fun z23 I24 hz23 hI24 v => ?_)
    exact r_iret B hr hk rfl hz23 hI24 v dX10_skew_59
  · have v := v.2.2.1 hcs
    refine r_tabIn B (tgt := 40) dX10_skew_1 h1 2 hcs (by decide) (by decide) rfl (by decide) ?_
    refine r_aload_n B dX10_skew_40 rfl rfl ?_
    refine r_aload_n B dX10_skew_41 rfl rfl ?_
    refine r_getR B (C := RX10) (T := TX10) (N := 11) o_0 0 rfl win_X10 (by decide) rfl wf_X10_10 dX10_skew_42 ?_
    refine r_getI B (C := RX0) (T := TX0) (N := 9) (ca_1.1) 5 rfl win_X0 (by decide) rfl wf_X10_212 dX10_skew_45 (jj := 5) rfl ?_
    refine r_aload_n B dX10_skew_48 rfl rfl ?_
    refine r_getR B (C := RX10) (T := TX10) (N := 11) o_0 0 rfl win_X10 (by decide) rfl wf_X10_10 dX10_skew_49 ?_
    refine r_getI B (C := RX0) (T := TX0) (N := 9) (ca_1.1) 6 rfl win_X0 (by decide) rfl wf_X10_215 dX10_skew_52 (jj := 6) rfl ?_
    refine r_iload_n B dX10_skew_55 rfl rfl ?_
    refine r_cI B (st := []) (as := [.int (i2 (I 1 5)), .int (i2 (I 1 6)), .int (i2 x1)]) (T := TX10) (N := 11) (c_X_skewIn (I 1 5) (I 1 6) x1 _ hI ((hI _ _)) ((hI _ _)) h1) v o_0 rfl mw_X_skewIn wl_X10_279 ⟨Nat.le_of_ble_eq_true rfl, Nat.le_of_ble_eq_true rfl⟩ rfl rfl (Nat.le_of_ble_eq_true rfl) dX10_skew_56 (fun z25 I26 hz25 hI26 v => ?_)
    exact r_iret B hr hk rfl hz25 hI26 v dX10_skew_59
  · have v := v.2.2.2.1 hcs
    refine r_tabIn B (tgt := 60) dX10_skew_1 h1 3 hcs (by decide) (by decide) rfl (by decide) ?_
    refine r_aload_n B dX10_skew_60 rfl rfl ?_
    refine r_getR B (C := RX10) (T := TX10) (N := 11) o_0 0 rfl win_X10 (by decide) rfl wf_X10_10 dX10_skew_61 ?_
    refine r_getR B (C := RX0) (T := TX0) (N := 9) (ca_1.1) 1 rfl win_X0 (by decide) rfl wf_X10_89 dX10_skew_64 ?_
    refine r_iconst B dX10_skew_67 ?_
    refine r_iconst B dX10_skew_68 ?_
    refine r_cI B (st := []) (as := [.int (i2 1), .int (i2 0)]) (T := TX8) (N := 4) (c_Th_mostWithin (1 + 5) 1 0 _ (ca_1.2.2.1) hI ((rg_lit (by decide) (by decide))) ((rg_lit (by decide) (by decide)))) v (ca_1.2.2.1.1) rfl mw_Th_mostWithin wl_X10_282 ⟨Nat.le_of_ble_eq_true rfl, Nat.le_of_ble_eq_true rfl⟩ rfl rfl (Nat.le_of_ble_eq_true rfl) dX10_skew_69 (fun z27 I28 hz27 hI28 v => ?_)
    exact r_iret B hr hk rfl hz27 hI28 v dX10_skew_72
  · have v := v.2.2.2.2.1 hcs
    refine r_tabIn B (tgt := 73) dX10_skew_1 h1 4 hcs (by decide) (by decide) rfl (by decide) ?_
    refine r_aload_n B dX10_skew_73 rfl rfl ?_
    refine r_getR B (C := RX10) (T := TX10) (N := 11) o_0 0 rfl win_X10 (by decide) rfl wf_X10_10 dX10_skew_74 ?_
    refine r_getR B (C := RX0) (T := TX0) (N := 9) (ca_1.1) 1 rfl win_X0 (by decide) rfl wf_X10_89 dX10_skew_77 ?_
    refine r_cI B (st := []) (as := []) (T := TX8) (N := 4) (c_Th_meanGap (1 + 5) _ (ca_1.2.2.1) hI ) v (ca_1.2.2.1.1) rfl mw_Th_meanGap wl_X10_285 ⟨Nat.le_of_ble_eq_true rfl, Nat.le_of_ble_eq_true rfl⟩ rfl rfl (Nat.le_of_ble_eq_true rfl) dX10_skew_80 (fun z29 I30 hz29 hI30 v => ?_)
    exact r_iret B hr hk rfl hz29 hI30 v dX10_skew_83
  · have v := v.2.2.2.2.2.1 hcs
    refine r_tabIn B (tgt := 84) dX10_skew_1 h1 5 hcs (by decide) (by decide) rfl (by decide) ?_
    refine r_aload_n B dX10_skew_84 rfl rfl ?_
    refine r_getR B (C := RX10) (T := TX10) (N := 11) o_0 0 rfl win_X10 (by decide) rfl wf_X10_10 dX10_skew_85 ?_
    refine r_getR B (C := RX0) (T := TX0) (N := 9) (ca_1.1) 1 rfl win_X0 (by decide) rfl wf_X10_89 dX10_skew_88 ?_
    refine r_cI B (st := []) (as := []) (T := TX8) (N := 4) (c_Th_greatestGap (1 + 5) _ (ca_1.2.2.1) hI ) v (ca_1.2.2.1.1) rfl mw_Th_greatestGap wl_X10_288 ⟨Nat.le_of_ble_eq_true rfl, Nat.le_of_ble_eq_true rfl⟩ rfl rfl (Nat.le_of_ble_eq_true rfl) dX10_skew_91 (fun z31 I32 hz31 hI32 v => ?_)
    exact r_iret B hr hk rfl hz31 hI32 v dX10_skew_94
  · have v := v.2.2.2.2.2.2 hcs
    refine r_tabOut B (tgt := 95) dX10_skew_1 h1 hcs (by decide) ?_
    refine r_iconst B dX10_skew_95 ?_
    exact r_iret B hr hk rfl ((rg_lit (by decide) (by decide))) hI v dX10_skew_96
set_option maxHeartbeats 4000000 in
set_option maxRecDepth 100000 in
theorem c_X_looks {l : Launch} {E : En} {A : Nat → Prop}  (I : Mm)  (hI : rgM I)  : CI l E A yX10_looks cX10_looks 1 .int 2 45 [.ref (eA E 0)] I (V_X_looks  I) := by
  intro Q v
  refine mk_met (own := RX10) (lv0 := [(0, .ref (eA E 0))]) (by decide) rfl (Nat.le_of_ble_eq_true rfl) rfl (fun p e s m args below meth c0 B hr hk => ?_)
  unfold V_X_looks at v
  refine r_aload_n B dX10_looks_0 rfl rfl ?_
  refine r_getR B (C := RX10) (T := TX10) (N := 11) o_0 0 rfl win_X10 (by decide) rfl wf_X10_10 dX10_looks_1 ?_
  refine r_getR B (C := RX0) (T := TX0) (N := 9) (ca_1.1) 1 rfl win_X0 (by decide) rfl wf_X10_89 dX10_looks_4 ?_
  refine r_getI B (C := RX8) (T := TX8) (N := 4) (ca_1.2.2.1.1) 0 rfl win_X8 (by decide) rfl wf_X10_93 dX10_looks_7 (jj := 0) rfl ?_
  refine r_iconst B dX10_looks_10 ?_
  refine r_icmp_ge B (tgt := 17) dX10_looks_11 (by decide) ((hI _ _)) ((rg_lit (by decide) (by decide))) (fun h => ?_) (fun h => ?_)
  · have v := v.1 h
    refine r_aload_n B dX10_looks_17 rfl rfl ?_
    refine r_getR B (C := RX10) (T := TX10) (N := 11) o_0 0 rfl win_X10 (by decide) rfl wf_X10_10 dX10_looks_18 ?_
    refine r_getI B (C := RX0) (T := TX0) (N := 9) (ca_1.1) 7 rfl win_X0 (by decide) rfl wf_X10_125 dX10_looks_21 (jj := 7) rfl ?_
    refine r_aload_n B dX10_looks_24 rfl rfl ?_
    refine r_getR B (C := RX10) (T := TX10) (N := 11) o_0 0 rfl win_X10 (by decide) rfl wf_X10_10 dX10_looks_25 ?_
    refine r_getR B (C := RX0) (T := TX0) (N := 9) (ca_1.1) 1 rfl win_X0 (by decide) rfl wf_X10_89 dX10_looks_28 ?_
    refine r_getR B (C := RX8) (T := TX8) (N := 4) (ca_1.2.2.1.1) 3 rfl win_X8 (by decide) rfl wf_X10_154 dX10_looks_31 ?_
    refine r_iconst B dX10_looks_34 ?_
    refine r_ald B (ca_1.2.2.1.2.2.2) (by decide) (by decide) dX10_looks_35 ?_
    refine r_aload_n B dX10_looks_36 rfl rfl ?_
    refine r_getR B (C := RX10) (T := TX10) (N := 11) o_0 0 rfl win_X10 (by decide) rfl wf_X10_10 dX10_looks_37 ?_
    refine r_getI B (C := RX0) (T := TX0) (N := 9) (ca_1.1) 5 rfl win_X0 (by decide) rfl wf_X10_212 dX10_looks_40 (jj := 5) rfl ?_
    refine r_aload_n B dX10_looks_43 rfl rfl ?_
    refine r_getR B (C := RX10) (T := TX10) (N := 11) o_0 0 rfl win_X10 (by decide) rfl wf_X10_10 dX10_looks_44 ?_
    refine r_getI B (C := RX0) (T := TX0) (N := 9) (ca_1.1) 6 rfl win_X0 (by decide) rfl wf_X10_215 dX10_looks_47 (jj := 6) rfl ?_
    refine r_sI B (st := []) (as := [.int (i2 (I 1 7)), .int (i2 (I (1 + 5 + 3) 0)), .int (i2 (I 1 5)), .int (i2 (I 1 6))]) (c_X_looksFrom (I 1 7) (I (1 + 5 + 3) 0) (I 1 5) (I 1 6) _ hI ((hI _ _)) ((hI _ _)) ((hI _ _)) ((hI _ _))) v mw_X_looksFrom wl_X10_291 ⟨Nat.le_of_ble_eq_true rfl, Nat.le_of_ble_eq_true rfl⟩ rfl rfl (Nat.le_of_ble_eq_true rfl) dX10_looks_50 (fun z21 I22 hz21 hI22 v => ?_)
    exact r_iret B hr hk rfl hz21 hI22 v dX10_looks_53
  · have v := v.2 h
    refine r_bipush B dX10_looks_14 (by decide) ?_
    exact r_iret B hr hk rfl ((rg_lit (by decide) (by decide))) hI v dX10_looks_16
set_option maxHeartbeats 4000000 in
set_option maxRecDepth 100000 in
theorem wL_Ca_looksForAll_11 {p : Program} {l : Launch} {e : Env} {s : State} {m : MethodId} {args : Array Value} {below : List Frame} {meth : Method} {c0 : Code} {E : En} {A : Nat → Prop} {c : Int} {x1 : Int} {x2 : Int} {Q : Int → Mm → Prop}  (B : Bd p (rmm 2 45) s m args c0 cX0_looksForAll 6 RX0 E A 0 0) (hr : meth.sig.returnType = some .int) (hk : meth.locks = false) (hc : isCa c) (h1 : r32 x1) (h2 : r32 x2)   : ∀ (n : Nat) (x3 : Int) (x4 : Int) (x5 : Int) (I : Mm), rgM I → r32 x3 → r32 x4 → r32 x5 → L_Ca_looksForAll_11 c x1 x2 Q n x3 x4 x5 I → WI p l e (rmm 2 45) s m args below meth c0 E A 6 0 0 (qI below E A args s Q) I 11 [(0, .ref (eA E c)), (1, .int (i2 x1)), (2, .int (i2 x2)), (3, .int (i2 x3)), (4, .int (i2 x4)), (5, .int (i2 x5))] [] := by
  intro n
  induction n with
  | zero => intro x3 x4 x5 I _ _ _ _ v; exact absurd v id
  | succ n ih =>
    intro x3 x4 x5 I hI h3 h4 h5 v
    unfold L_Ca_looksForAll_11 at v
    refine r_iload B dX0_looksForAll_11 rfl ?_
    refine r_aload_n B dX0_looksForAll_13 rfl rfl ?_
    refine r_getR B (C := RX0) (T := TX0) (N := 9) (hc.1) 1 rfl win_X0 (by decide) rfl wf_X0_21 dX0_looksForAll_14 ?_
    refine r_getI B (C := RX8) (T := TX8) (N := 4) (hc.2.2.1.1) 0 rfl win_X8 (by decide) rfl wf_X0_53 dX0_looksForAll_17 (jj := 0) rfl ?_
    refine r_icmp_ge B (tgt := 61) dX0_looksForAll_20 (by decide) h5 ((hI _ _)) (fun h => ?_) (fun h => ?_)
    · have v := v.1 h
      refine r_iload_n B dX0_looksForAll_61 rfl rfl ?_
      exact r_iret B hr hk rfl h3 hI v dX0_looksForAll_62
    · have v := v.2 h
      refine r_iload_n B dX0_looksForAll_23 rfl rfl ?_
      refine r_iload B dX0_looksForAll_24 rfl ?_
      refine r_aload_n B dX0_looksForAll_26 rfl rfl ?_
      refine r_getR B (C := RX0) (T := TX0) (N := 9) (hc.1) 1 rfl win_X0 (by decide) rfl wf_X0_21 dX0_looksForAll_27 ?_
      refine r_getR B (C := RX8) (T := TX8) (N := 4) (hc.2.2.1.1) 3 rfl win_X8 (by decide) rfl wf_X0_120 dX0_looksForAll_30 ?_
      refine r_iload B dX0_looksForAll_33 rfl ?_
      obtain ⟨h21, v⟩ := v
      refine r_ald B (hc.2.2.1.2.2.2) (by decide) h21 dX0_looksForAll_35 ?_
      refine r_iload_n B dX0_looksForAll_36 rfl rfl ?_
      refine r_iload_n B dX0_looksForAll_37 rfl rfl ?_
      refine r_nI B (st := [.int (i2 x3)]) (as := [.int (i2 x4), .int (i2 (I (c + 5 + 3) x5)), .int (i2 x1), .int (i2 x2)]) (host := "DayRows") (c_X_looksFrom x4 (I (c + 5 + 3) x5) x1 x2 _ hI h4 ((hI _ _)) h1 h2) v mw_X_looksFrom (by decide) ⟨Nat.le_of_ble_eq_true rfl, Nat.le_of_ble_eq_true rfl⟩ rfl rfl (Nat.le_of_ble_eq_true rfl) dX0_looksForAll_38 (fun z22 I23 hz22 hI23 v => ?_)
      refine r_iadd B dX0_looksForAll_41 ?_
      refine r_istore_n B dX0_looksForAll_42 rfl (by decide) (lv' := [(3, .int (i2 (x3 + z22))), (0, .ref (eA E c)), (1, .int (i2 x1)), (2, .int (i2 x2)), (4, .int (i2 x4)), (5, .int (i2 x5))]) rfl ?_
      refine r_sub [1, 2, 3, 0, 4, 5] rfl ?_
      refine r_aload_n B dX0_looksForAll_43 rfl rfl ?_
      refine r_getR B (C := RX0) (T := TX0) (N := 9) (hc.1) 1 rfl win_X0 (by decide) rfl wf_X0_21 dX0_looksForAll_44 ?_
      refine r_getR B (C := RX8) (T := TX8) (N := 4) (hc.2.2.1.1) 3 rfl win_X8 (by decide) rfl wf_X0_120 dX0_looksForAll_47 ?_
      refine r_iload B dX0_looksForAll_50 rfl ?_
      obtain ⟨h24, v⟩ := v
      refine r_ald B (hc.2.2.1.2.2.2) (by decide) h24 dX0_looksForAll_52 ?_
      refine r_istore B dX0_looksForAll_53 (by decide) (lv' := [(4, .int (i2 (I23 (c + 5 + 3) x5))), (0, .ref (eA E c)), (1, .int (i2 x1)), (2, .int (i2 x2)), (3, .int (i2 (x3 + z22))), (5, .int (i2 x5))]) rfl ?_
      refine r_sub [1, 2, 3, 4, 0, 5] rfl ?_
      refine r_iinc B (q := 5) dX0_looksForAll_55 (by decide) rfl (lv' := [(5, .int (i2 (x5 + 1))), (0, .ref (eA E c)), (1, .int (i2 x1)), (2, .int (i2 x2)), (3, .int (i2 (x3 + z22))), (4, .int (i2 (I23 (c + 5 + 3) x5)))]) rfl ?_
      refine r_sub [1, 2, 3, 4, 5, 0] rfl ?_
      refine r_goto B (tgt := 11) dX0_looksForAll_58 (by decide) ?_
      obtain ⟨h25, v⟩ := v
      obtain ⟨h26, v⟩ := v
      refine r_sub [0, 1, 2, 3, 4, 5] rfl ?_
      exact ih (x3 + z22) (I23 (c + 5 + 3) x5) (x5 + 1) _ hI23 h25 ((hI23 _ _)) h26 v
set_option maxHeartbeats 4000000 in
set_option maxRecDepth 100000 in
theorem c_Ca_looksForAll {l : Launch} {E : En} {A : Nat → Prop} (c : Int) (x1 : Int) (x2 : Int) (I : Mm) (hc : isCa c) (hI : rgM I) (h1 : r32 x1) (h2 : r32 x2) : CI l E A yX0_looksForAll cX0_looksForAll 6 .int 2 45 [.ref (eA E c), .int (i2 x1), .int (i2 x2)] I (V_Ca_looksForAll c x1 x2 I) := by
  intro Q v
  refine mk_met (own := RX0) (lv0 := [(0, .ref (eA E c)), (1, .int (i2 x1)), (2, .int (i2 x2))]) (by decide) rfl (Nat.le_of_ble_eq_true rfl) rfl (fun p e s m args below meth c0 B hr hk => ?_)
  unfold V_Ca_looksForAll at v
  refine r_iconst B dX0_looksForAll_0 ?_
  refine r_istore_n B dX0_looksForAll_1 rfl (by decide) (lv' := [(3, .int (i2 0)), (0, .ref (eA E c)), (1, .int (i2 x1)), (2, .int (i2 x2))]) rfl ?_
  refine r_sub [1, 2, 3, 0] rfl ?_
  refine r_aload_n B dX0_looksForAll_2 rfl rfl ?_
  refine r_getI B (C := RX0) (T := TX0) (N := 9) (hc.1) 7 rfl win_X0 (by decide) rfl wf_X0_58 dX0_looksForAll_3 (jj := 7) rfl ?_
  refine r_istore B dX0_looksForAll_6 (by decide) (lv' := [(4, .int (i2 (I c 7))), (0, .ref (eA E c)), (1, .int (i2 x1)), (2, .int (i2 x2)), (3, .int (i2 0))]) rfl ?_
  refine r_sub [1, 2, 3, 4, 0] rfl ?_
  refine r_iconst B dX0_looksForAll_8 ?_
  refine r_istore B dX0_looksForAll_9 (by decide) (lv' := [(5, .int (i2 0)), (0, .ref (eA E c)), (1, .int (i2 x1)), (2, .int (i2 x2)), (3, .int (i2 0)), (4, .int (i2 (I c 7)))]) rfl ?_
  refine r_sub [1, 2, 3, 4, 5, 0] rfl ?_
  obtain ⟨f27, v⟩ := v
  refine r_sub [0, 1, 2, 3, 4, 5] rfl ?_
  exact wL_Ca_looksForAll_11 B hr hk hc h1 h2 f27 0 (I c 7) 0 I hI ((rg_lit (by decide) (by decide))) ((hI _ _)) ((rg_lit (by decide) (by decide))) v
set_option maxHeartbeats 4000000 in
set_option maxRecDepth 100000 in
theorem c_X_lookBy {l : Launch} {E : En} {A : Nat → Prop} (x1 : Int) (x2 : Int) (I : Mm)  (hI : rgM I) (h1 : r32 x1) (h2 : r32 x2) : CI l E A yX10_lookBy cX10_lookBy 3 .int 3 70 [.ref (eA E 0), .int (i2 x1), .int (i2 x2)] I (V_X_lookBy x1 x2 I) := by
  intro Q v
  refine mk_met (own := RX10) (lv0 := [(0, .ref (eA E 0)), (1, .int (i2 x1)), (2, .int (i2 x2))]) (by decide) rfl (Nat.le_of_ble_eq_true rfl) rfl (fun p e s m args below meth c0 B hr hk => ?_)
  unfold V_X_lookBy at v
  refine r_iload_n B dX10_lookBy_0 rfl rfl ?_
  refine r_sI B (st := []) (as := [.int (i2 x1)]) (c_X_isRows x1 _ hI h1) v mw_X_isRows wl_X10_206 ⟨Nat.le_of_ble_eq_true rfl, Nat.le_of_ble_eq_true rfl⟩ rfl rfl (Nat.le_of_ble_eq_true rfl) dX10_lookBy_1 (fun z21 I22 hz21 hI22 v => ?_)
  refine r_if_eq B (tgt := 26) dX10_lookBy_4 (by decide) hz21 (fun h => ?_) (fun h => ?_)
  · have v := v.1 h
    refine r_iconst B dX10_lookBy_26 ?_
    exact r_iret B hr hk rfl ((rg_lit (by decide) (by decide))) hI22 v dX10_lookBy_27
  · have v := v.2 h
    refine r_iload_n B dX10_lookBy_7 rfl rfl ?_
    refine r_sI B (st := []) (as := [.int (i2 x2)]) (c_X_isWidth x2 _ hI22 h2) v mw_X_isWidth wl_X10_209 ⟨Nat.le_of_ble_eq_true rfl, Nat.le_of_ble_eq_true rfl⟩ rfl rfl (Nat.le_of_ble_eq_true rfl) dX10_lookBy_8 (fun z23 I24 hz23 hI24 v => ?_)
    refine r_if_eq B (tgt := 26) dX10_lookBy_11 (by decide) hz23 (fun h => ?_) (fun h => ?_)
    · have v := v.1 h
      refine r_iconst B dX10_lookBy_26 ?_
      exact r_iret B hr hk rfl ((rg_lit (by decide) (by decide))) hI24 v dX10_lookBy_27
    · have v := v.2 h
      refine r_aload_n B dX10_lookBy_14 rfl rfl ?_
      refine r_getR B (C := RX10) (T := TX10) (N := 11) o_0 0 rfl win_X10 (by decide) rfl wf_X10_10 dX10_lookBy_15 ?_
      refine r_iload_n B dX10_lookBy_18 rfl rfl ?_
      refine r_iload_n B dX10_lookBy_19 rfl rfl ?_
      refine r_cI B (st := []) (as := [.int (i2 x1), .int (i2 x2)]) (T := TX0) (N := 9) (c_Ca_looksForAll 1 x1 x2 _ ca_1 hI24 h1 h2) v (ca_1.1) rfl mw_Ca_looksForAll wl_X10_294 ⟨Nat.le_of_ble_eq_true rfl, Nat.le_of_ble_eq_true rfl⟩ rfl rfl (Nat.le_of_ble_eq_true rfl) dX10_lookBy_20 (fun z25 I26 hz25 hI26 v => ?_)
      refine r_goto B (tgt := 27) dX10_lookBy_23 (by decide) ?_
      exact r_iret B hr hk rfl hz25 hI26 v dX10_lookBy_27
set_option maxHeartbeats 4000000 in
set_option maxRecDepth 100000 in
theorem wL_X_best_34 {p : Program} {l : Launch} {e : Env} {s : State} {m : MethodId} {args : Array Value} {below : List Frame} {meth : Method} {c0 : Code} {E : En} {A : Nat → Prop} {x1 : Int} {x2 : Int} {Q : Int → Mm → Prop}  (B : Bd p (rmm 3 70) s m args c0 cX10_best 7 RX10 E A 0 0) (hr : meth.sig.returnType = some .int) (hk : meth.locks = false) (h1 : r32 x1) (h2 : r32 x2)   : ∀ (n : Nat) (x3 : Int) (x4 : Int) (x5 : Int) (I : Mm), rgM I → r32 x3 → r32 x4 → r32 x5 → L_X_best_34 x1 x2 Q n x3 x4 x5 I → WI p l e (rmm 3 70) s m args below meth c0 E A 7 0 0 (qI below E A args s Q) I 34 [(0, .ref (eA E 0)), (1, .int (i2 x1)), (2, .int (i2 x2)), (3, .int (i2 x3)), (4, .int (i2 x4)), (5, .int (i2 x5))] [] := by
  intro n
  induction n with
  | zero => intro x3 x4 x5 I _ _ _ _ v; exact absurd v id
  | succ n ih =>
    intro x3 x4 x5 I hI h3 h4 h5 v
    unfold L_X_best_34 at v
    refine r_iload B dX10_best_34 rfl ?_
    refine r_ldcw B (67108864) dX10_best_36 wc_X10_297 (by decide) ?_
    refine r_icmp_gt B (tgt := 77) dX10_best_39 (by decide) h5 ((rg_lit (by decide) (by decide))) (fun h => ?_) (fun h => ?_)
    · have v := v.1 h
      refine r_iload_n B dX10_best_77 rfl rfl ?_
      refine r_if_ne B (tgt := 85) dX10_best_78 (by decide) h2 (fun h => ?_) (fun h => ?_)
      · have v := v.1 h
        refine r_iload B dX10_best_85 rfl ?_
        exact r_iret B hr hk rfl h4 hI v dX10_best_87
      · have v := v.2 h
        refine r_iload_n B dX10_best_81 rfl rfl ?_
        refine r_goto B (tgt := 87) dX10_best_82 (by decide) ?_
        exact r_iret B hr hk rfl h3 hI v dX10_best_87
    · have v := v.2 h
      refine r_aload_n B dX10_best_42 rfl rfl ?_
      refine r_getR B (C := RX10) (T := TX10) (N := 11) o_0 0 rfl win_X10 (by decide) rfl wf_X10_10 dX10_best_43 ?_
      refine r_iload_n B dX10_best_46 rfl rfl ?_
      refine r_iload B dX10_best_47 rfl ?_
      refine r_cI B (st := []) (as := [.int (i2 x1), .int (i2 x5)]) (T := TX0) (N := 9) (c_Ca_looksForAll 1 x1 x5 _ ca_1 hI h1 h5) v (ca_1.1) rfl mw_Ca_looksForAll wl_X10_294 ⟨Nat.le_of_ble_eq_true rfl, Nat.le_of_ble_eq_true rfl⟩ rfl rfl (Nat.le_of_ble_eq_true rfl) dX10_best_49 (fun z25 I26 hz25 hI26 v => ?_)
      refine r_istore B dX10_best_52 (by decide) (lv' := [(6, .int (i2 z25)), (0, .ref (eA E 0)), (1, .int (i2 x1)), (2, .int (i2 x2)), (3, .int (i2 x3)), (4, .int (i2 x4)), (5, .int (i2 x5))]) rfl ?_
      refine r_sub [1, 2, 3, 4, 5, 6, 0] rfl ?_
      refine r_iload B dX10_best_54 rfl ?_
      refine r_iload B dX10_best_56 rfl ?_
      refine r_icmp_ge B (tgt := 68) dX10_best_58 (by decide) hz25 h4 (fun h => ?_) (fun h => ?_)
      · have v := v.1 h
        refine r_iload B dX10_best_68 rfl ?_
        refine r_iconst B dX10_best_70 ?_
        refine r_imul B dX10_best_71 ?_
        refine r_istore B dX10_best_72 (by decide) (lv' := [(5, .int (i2 (x5 * 2))), (0, .ref (eA E 0)), (1, .int (i2 x1)), (2, .int (i2 x2)), (3, .int (i2 x3)), (4, .int (i2 x4)), (6, .int (i2 z25))]) rfl ?_
        refine r_sub [1, 2, 3, 4, 5, 0, 6] rfl ?_
        refine r_goto B (tgt := 34) dX10_best_74 (by decide) ?_
        obtain ⟨h27, v⟩ := v
        refine r_sub [0, 1, 2, 3, 4, 5] rfl ?_
        exact ih x3 x4 (x5 * 2) _ hI26 h3 h4 h27 v
      · have v := v.2 h
        refine r_iload B dX10_best_61 rfl ?_
        refine r_istore B dX10_best_63 (by decide) (lv' := [(4, .int (i2 z25)), (0, .ref (eA E 0)), (1, .int (i2 x1)), (2, .int (i2 x2)), (3, .int (i2 x3)), (5, .int (i2 x5)), (6, .int (i2 z25))]) rfl ?_
        refine r_sub [1, 2, 3, 4, 0, 5, 6] rfl ?_
        refine r_iload B dX10_best_65 rfl ?_
        refine r_istore_n B dX10_best_67 rfl (by decide) (lv' := [(3, .int (i2 x5)), (0, .ref (eA E 0)), (1, .int (i2 x1)), (2, .int (i2 x2)), (4, .int (i2 z25)), (5, .int (i2 x5)), (6, .int (i2 z25))]) rfl ?_
        refine r_sub [1, 2, 3, 0, 4, 5, 6] rfl ?_
        refine r_iload B dX10_best_68 rfl ?_
        refine r_iconst B dX10_best_70 ?_
        refine r_imul B dX10_best_71 ?_
        refine r_istore B dX10_best_72 (by decide) (lv' := [(5, .int (i2 (x5 * 2))), (0, .ref (eA E 0)), (1, .int (i2 x1)), (2, .int (i2 x2)), (3, .int (i2 x5)), (4, .int (i2 z25)), (6, .int (i2 z25))]) rfl ?_
        refine r_sub [1, 2, 3, 4, 5, 0, 6] rfl ?_
        refine r_goto B (tgt := 34) dX10_best_74 (by decide) ?_
        obtain ⟨h28, v⟩ := v
        refine r_sub [0, 1, 2, 3, 4, 5] rfl ?_
        exact ih x5 z25 (x5 * 2) _ hI26 h5 hz25 h28 v
set_option maxHeartbeats 4000000 in
set_option maxRecDepth 100000 in
theorem c_X_best {l : Launch} {E : En} {A : Nat → Prop} (x1 : Int) (x2 : Int) (I : Mm)  (hI : rgM I) (h1 : r32 x1) (h2 : r32 x2) : CI l E A yX10_best cX10_best 7 .int 3 70 [.ref (eA E 0), .int (i2 x1), .int (i2 x2)] I (V_X_best x1 x2 I) := by
  intro Q v
  refine mk_met (own := RX10) (lv0 := [(0, .ref (eA E 0)), (1, .int (i2 x1)), (2, .int (i2 x2))]) (by decide) rfl (Nat.le_of_ble_eq_true rfl) rfl (fun p e s m args below meth c0 B hr hk => ?_)
  unfold V_X_best at v
  refine r_iload_n B dX10_best_0 rfl rfl ?_
  refine r_sI B (st := []) (as := [.int (i2 x1)]) (c_X_isRows x1 _ hI h1) v mw_X_isRows wl_X10_206 ⟨Nat.le_of_ble_eq_true rfl, Nat.le_of_ble_eq_true rfl⟩ rfl rfl (Nat.le_of_ble_eq_true rfl) dX10_best_1 (fun z21 I22 hz21 hI22 v => ?_)
  refine r_if_eq B (tgt := 16) dX10_best_4 (by decide) hz21 (fun h => ?_) (fun h => ?_)
  · have v := v.1 h
    refine r_iconst B dX10_best_16 ?_
    exact r_iret B hr hk rfl ((rg_lit (by decide) (by decide))) hI22 v dX10_best_17
  · have v := v.2 h
    refine r_iload_n B dX10_best_7 rfl rfl ?_
    refine r_if_lt B (tgt := 16) dX10_best_8 (by decide) h2 (fun h => ?_) (fun h => ?_)
    · have v := v.1 h
      refine r_iconst B dX10_best_16 ?_
      exact r_iret B hr hk rfl ((rg_lit (by decide) (by decide))) hI22 v dX10_best_17
    · have v := v.2 h
      refine r_iload_n B dX10_best_11 rfl rfl ?_
      refine r_iconst B dX10_best_12 ?_
      refine r_icmp_le B (tgt := 18) dX10_best_13 (by decide) h2 ((rg_lit (by decide) (by decide))) (fun h => ?_) (fun h => ?_)
      · have v := v.1 h
        refine r_iconst B dX10_best_18 ?_
        refine r_istore_n B dX10_best_19 rfl (by decide) (lv' := [(3, .int (i2 1)), (0, .ref (eA E 0)), (1, .int (i2 x1)), (2, .int (i2 x2))]) rfl ?_
        refine r_sub [1, 2, 3, 0] rfl ?_
        refine r_aload_n B dX10_best_20 rfl rfl ?_
        refine r_getR B (C := RX10) (T := TX10) (N := 11) o_0 0 rfl win_X10 (by decide) rfl wf_X10_10 dX10_best_21 ?_
        refine r_iload_n B dX10_best_24 rfl rfl ?_
        refine r_iconst B dX10_best_25 ?_
        refine r_cI B (st := []) (as := [.int (i2 x1), .int (i2 1)]) (T := TX0) (N := 9) (c_Ca_looksForAll 1 x1 1 _ ca_1 hI22 h1 ((rg_lit (by decide) (by decide)))) v (ca_1.1) rfl mw_Ca_looksForAll wl_X10_294 ⟨Nat.le_of_ble_eq_true rfl, Nat.le_of_ble_eq_true rfl⟩ rfl rfl (Nat.le_of_ble_eq_true rfl) dX10_best_26 (fun z23 I24 hz23 hI24 v => ?_)
        refine r_istore B dX10_best_29 (by decide) (lv' := [(4, .int (i2 z23)), (0, .ref (eA E 0)), (1, .int (i2 x1)), (2, .int (i2 x2)), (3, .int (i2 1))]) rfl ?_
        refine r_sub [1, 2, 3, 4, 0] rfl ?_
        refine r_iconst B dX10_best_31 ?_
        refine r_istore B dX10_best_32 (by decide) (lv' := [(5, .int (i2 2)), (0, .ref (eA E 0)), (1, .int (i2 x1)), (2, .int (i2 x2)), (3, .int (i2 1)), (4, .int (i2 z23))]) rfl ?_
        refine r_sub [1, 2, 3, 4, 5, 0] rfl ?_
        obtain ⟨f29, v⟩ := v
        refine r_sub [0, 1, 2, 3, 4, 5] rfl ?_
        exact wL_X_best_34 B hr hk h1 h2 f29 1 z23 2 I24 hI24 ((rg_lit (by decide) (by decide))) hz23 ((rg_lit (by decide) (by decide))) v
      · have v := v.2 h
        refine r_iconst B dX10_best_16 ?_
        exact r_iret B hr hk rfl ((rg_lit (by decide) (by decide))) hI22 v dX10_best_17
set_option maxHeartbeats 4000000 in
set_option maxRecDepth 100000 in
theorem c_X_widthNow {l : Launch} {E : En} {A : Nat → Prop}  (I : Mm)  (hI : rgM I)  : CI l E A yX10_widthNow cX10_widthNow 1 .int 2 87 [.ref (eA E 0)] I (V_X_widthNow  I) := by
  intro Q v
  refine mk_met (own := RX10) (lv0 := [(0, .ref (eA E 0))]) (by decide) rfl (Nat.le_of_ble_eq_true rfl) rfl (fun p e s m args below meth c0 B hr hk => ?_)
  unfold V_X_widthNow at v
  refine r_aload_n B dX10_widthNow_0 rfl rfl ?_
  refine r_getR B (C := RX10) (T := TX10) (N := 11) o_0 0 rfl win_X10 (by decide) rfl wf_X10_10 dX10_widthNow_1 ?_
  refine r_getR B (C := RX0) (T := TX0) (N := 9) (ca_1.1) 1 rfl win_X0 (by decide) rfl wf_X10_89 dX10_widthNow_4 ?_
  refine r_aload_n B dX10_widthNow_7 rfl rfl ?_
  refine r_getR B (C := RX10) (T := TX10) (N := 11) o_0 0 rfl win_X10 (by decide) rfl wf_X10_10 dX10_widthNow_8 ?_
  refine r_getI B (C := RX0) (T := TX0) (N := 9) (ca_1.1) 6 rfl win_X0 (by decide) rfl wf_X10_215 dX10_widthNow_11 (jj := 6) rfl ?_
  refine r_cI B (st := []) (as := [.int (i2 (I 1 6))]) (T := TX8) (N := 4) (c_Th_widthAnew (1 + 5) (I 1 6) _ (ca_1.2.2.1) hI ((hI _ _))) v (ca_1.2.2.1.1) rfl mw_Th_widthAnew wl_X10_298 ⟨Nat.le_of_ble_eq_true rfl, Nat.le_of_ble_eq_true rfl⟩ rfl rfl (Nat.le_of_ble_eq_true rfl) dX10_widthNow_14 (fun z21 I22 hz21 hI22 v => ?_)
  exact r_iret B hr hk rfl hz21 hI22 v dX10_widthNow_17
set_option maxHeartbeats 4000000 in
set_option maxRecDepth 100000 in
theorem c_X_ahead {l : Launch} {E : En} {A : Nat → Prop} (x1 : Int) (x2 : Int) (I : Mm)  (hI : rgM I) (h1 : r32 x1) (h2 : r32 x2) : CI l E A yX10_ahead cX10_ahead 3 .int 6 179 [.ref (eA E 0), .int (i2 x1), .int (i2 x2)] I (V_X_ahead x1 x2 I) := by
  intro Q v
  refine mk_met (own := RX10) (lv0 := [(0, .ref (eA E 0)), (1, .int (i2 x1)), (2, .int (i2 x2))]) (by decide) rfl (Nat.le_of_ble_eq_true rfl) rfl (fun p e s m args below meth c0 B hr hk => ?_)
  unfold V_X_ahead at v
  refine r_iload_n B dX10_ahead_0 rfl rfl ?_
  refine r_iconst B dX10_ahead_1 ?_
  refine r_icmp_lt B (tgt := 21) dX10_ahead_2 (by decide) h1 ((rg_lit (by decide) (by decide))) (fun h => ?_) (fun h => ?_)
  · have v := v.1 h
    refine r_iconst B dX10_ahead_21 ?_
    exact r_iret B hr hk rfl ((rg_lit (by decide) (by decide))) hI v dX10_ahead_22
  · have v := v.2 h
    refine r_iload_n B dX10_ahead_5 rfl rfl ?_
    refine r_sipush B dX10_ahead_6 (by decide) ?_
    refine r_icmp_gt B (tgt := 21) dX10_ahead_9 (by decide) h1 ((rg_lit (by decide) (by decide))) (fun h => ?_) (fun h => ?_)
    · have v := v.1 h
      refine r_iconst B dX10_ahead_21 ?_
      exact r_iret B hr hk rfl ((rg_lit (by decide) (by decide))) hI v dX10_ahead_22
    · have v := v.2 h
      refine r_iload_n B dX10_ahead_12 rfl rfl ?_
      refine r_if_lt B (tgt := 21) dX10_ahead_13 (by decide) h2 (fun h => ?_) (fun h => ?_)
      · have v := v.1 h
        refine r_iconst B dX10_ahead_21 ?_
        exact r_iret B hr hk rfl ((rg_lit (by decide) (by decide))) hI v dX10_ahead_22
      · have v := v.2 h
        refine r_iload_n B dX10_ahead_16 rfl rfl ?_
        refine r_iconst B dX10_ahead_17 ?_
        refine r_icmp_le B (tgt := 23) dX10_ahead_18 (by decide) h2 ((rg_lit (by decide) (by decide))) (fun h => ?_) (fun h => ?_)
        · have v := v.1 h
          refine r_aload_n B dX10_ahead_23 rfl rfl ?_
          refine r_getR B (C := RX10) (T := TX10) (N := 11) o_0 1 rfl win_X10 (by decide) rfl wf_X10_16 dX10_ahead_24 ?_
          refine r_aload_n B dX10_ahead_27 rfl rfl ?_
          refine r_getR B (C := RX10) (T := TX10) (N := 11) o_0 0 rfl win_X10 (by decide) rfl wf_X10_10 dX10_ahead_28 ?_
          refine r_cV B (st := []) (as := [.ref (eA E 1)]) (T := TX0) (N := 9) (c_Ca_copyFrom 17 1 _ ca_17 ca_1 hI ) v (ca_17.1) rfl mw_Ca_copyFrom wl_X10_82 ⟨Nat.le_of_ble_eq_true rfl, Nat.le_of_ble_eq_true rfl⟩ rfl rfl (Nat.le_of_ble_eq_true rfl) dX10_ahead_31 (fun I21 hI21 v => ?_)
          refine r_aload_n B dX10_ahead_34 rfl rfl ?_
          refine r_getR B (C := RX10) (T := TX10) (N := 11) o_0 1 rfl win_X10 (by decide) rfl wf_X10_16 dX10_ahead_35 ?_
          refine r_iload_n B dX10_ahead_38 rfl rfl ?_
          refine r_cI B (st := []) (as := [.int (i2 x1)]) (T := TX0) (N := 9) (c_Ca_takeSome 17 x1 _ ca_17 hI21 h1) v (ca_17.1) rfl mw_Ca_takeSome wl_X10_132 ⟨Nat.le_of_ble_eq_true rfl, Nat.le_of_ble_eq_true rfl⟩ rfl rfl (Nat.le_of_ble_eq_true rfl) dX10_ahead_39 (fun z22 I23 hz22 hI23 v => ?_)
          refine r_iload_n B dX10_ahead_42 rfl rfl ?_
          refine r_icmp_ge B (tgt := 49) dX10_ahead_43 (by decide) hz22 h1 (fun h => ?_) (fun h => ?_)
          · have v := v.1 h
            refine r_iload_n B dX10_ahead_49 rfl rfl ?_
            have hsw : x2 = 3 ∨ x2 = 4 ∨ (¬ x2 = 3 ∧ ¬ x2 = 4) := by omega
            rcases hsw with hcs | hcs | hcs
            · have v := v.1 hcs
              refine r_look B (off := 26) (tgt := 76) dX10_ahead_50 (by decide) h2 (by rw [hcs]; first | done | rfl) (by decide) ?_
              refine r_aload_n B dX10_ahead_76 rfl rfl ?_
              refine r_getR B (C := RX10) (T := TX10) (N := 11) o_0 1 rfl win_X10 (by decide) rfl wf_X10_16 dX10_ahead_77 ?_
              refine r_getR B (C := RX0) (T := TX0) (N := 9) (ca_17.1) 1 rfl win_X0 (by decide) rfl wf_X10_89 dX10_ahead_80 ?_
              refine r_getI B (C := RX8) (T := TX8) (N := 4) (ca_17.2.2.1.1) 0 rfl win_X8 (by decide) rfl wf_X10_93 dX10_ahead_83 (jj := 0) rfl ?_
              exact r_iret B hr hk rfl ((hI23 _ _)) hI23 v dX10_ahead_86
            · have v := v.2.1 hcs
              refine r_look B (off := 37) (tgt := 87) dX10_ahead_50 (by decide) h2 (by rw [hcs]; first | done | rfl) (by decide) ?_
              refine r_aload_n B dX10_ahead_87 rfl rfl ?_
              refine r_getR B (C := RX10) (T := TX10) (N := 11) o_0 1 rfl win_X10 (by decide) rfl wf_X10_16 dX10_ahead_88 ?_
              refine r_getR B (C := RX0) (T := TX0) (N := 9) (ca_17.1) 4 rfl win_X0 (by decide) rfl wf_X10_276 dX10_ahead_91 ?_
              refine r_iconst B dX10_ahead_94 ?_
              refine r_ald B (ca_17.2.2.2.2.2) (by decide) (by decide) dX10_ahead_95 ?_
              refine r_aload_n B dX10_ahead_96 rfl rfl ?_
              refine r_getR B (C := RX10) (T := TX10) (N := 11) o_0 0 rfl win_X10 (by decide) rfl wf_X10_10 dX10_ahead_97 ?_
              refine r_getR B (C := RX0) (T := TX0) (N := 9) (ca_1.1) 4 rfl win_X0 (by decide) rfl wf_X10_276 dX10_ahead_100 ?_
              refine r_iconst B dX10_ahead_103 ?_
              refine r_ald B (ca_1.2.2.2.2.2) (by decide) (by decide) dX10_ahead_104 ?_
              refine r_isub B dX10_ahead_105 ?_
              obtain ⟨h24, v⟩ := v
              exact r_iret B hr hk rfl h24 hI23 v dX10_ahead_106
            · have v := v.2.2 hcs
              refine r_look B (off := 57) (tgt := 107) dX10_ahead_50 (by decide) h2 (by simp only [Op.lookupswitch.offset]; rw [if_neg (by omega), if_neg (by omega)]) (by decide) ?_
              refine r_aload_n B dX10_ahead_107 rfl rfl ?_
              refine r_getR B (C := RX10) (T := TX10) (N := 11) o_0 1 rfl win_X10 (by decide) rfl wf_X10_16 dX10_ahead_108 ?_
              refine r_getR B (C := RX0) (T := TX0) (N := 9) (ca_17.1) 3 rfl win_X0 (by decide) rfl wf_X10_267 dX10_ahead_111 ?_
              refine r_iconst B dX10_ahead_114 ?_
              refine r_iload_n B dX10_ahead_115 rfl rfl ?_
              refine r_cI B (st := []) (as := [.int (i2 0), .int (i2 x2)]) (T := TX2) (N := 3) (c_Lo_at (17 + 13) 0 x2 _ (ca_17.2.2.2.2.1) hI23 ((rg_lit (by decide) (by decide))) h2) v (ca_17.2.2.2.2.1.1) rfl mw_Lo_at wl_X10_271 ⟨Nat.le_of_ble_eq_true rfl, Nat.le_of_ble_eq_true rfl⟩ rfl rfl (Nat.le_of_ble_eq_true rfl) dX10_ahead_116 (fun z25 I26 hz25 hI26 v => ?_)
              exact r_iret B hr hk rfl hz25 hI26 v dX10_ahead_119
          · have v := v.2 h
            refine r_bipush B dX10_ahead_46 (by decide) ?_
            exact r_iret B hr hk rfl ((rg_lit (by decide) (by decide))) hI23 v dX10_ahead_48
        · have v := v.2 h
          refine r_iconst B dX10_ahead_21 ?_
          exact r_iret B hr hk rfl ((rg_lit (by decide) (by decide))) hI v dX10_ahead_22
set_option maxHeartbeats 4000000 in
set_option maxRecDepth 100000 in
theorem c_X_between {l : Launch} {E : En} {A : Nat → Prop} (x1 : Int) (x2 : Int) (I : Mm)  (hI : rgM I) (h1 : r32 x1) (h2 : r32 x2) : CI l E A yX10_between cX10_between 3 .int 2 48 [.ref (eA E 0), .int (i2 x1), .int (i2 x2)] I (V_X_between x1 x2 I) := by
  intro Q v
  refine mk_met (own := RX10) (lv0 := [(0, .ref (eA E 0)), (1, .int (i2 x1)), (2, .int (i2 x2))]) (by decide) rfl (Nat.le_of_ble_eq_true rfl) rfl (fun p e s m args below meth c0 B hr hk => ?_)
  unfold V_X_between at v
  refine r_iload_n B dX10_between_0 rfl rfl ?_
  refine r_if_lt B (tgt := 16) dX10_between_1 (by decide) h1 (fun h => ?_) (fun h => ?_)
  · have v := v.1 h
    refine r_iconst B dX10_between_16 ?_
    exact r_iret B hr hk rfl ((rg_lit (by decide) (by decide))) hI v dX10_between_17
  · have v := v.2 h
    refine r_iload_n B dX10_between_4 rfl rfl ?_
    refine r_iload_n B dX10_between_5 rfl rfl ?_
    refine r_icmp_le B (tgt := 16) dX10_between_6 (by decide) h2 h1 (fun h => ?_) (fun h => ?_)
    · have v := v.1 h
      refine r_iconst B dX10_between_16 ?_
      exact r_iret B hr hk rfl ((rg_lit (by decide) (by decide))) hI v dX10_between_17
    · have v := v.2 h
      refine r_iload_n B dX10_between_9 rfl rfl ?_
      refine r_ldcw B (1000000000) dX10_between_10 wc_X10_301 (by decide) ?_
      refine r_icmp_le B (tgt := 18) dX10_between_13 (by decide) h2 ((rg_lit (by decide) (by decide))) (fun h => ?_) (fun h => ?_)
      · have v := v.1 h
        refine r_aload_n B dX10_between_18 rfl rfl ?_
        refine r_getR B (C := RX10) (T := TX10) (N := 11) o_0 0 rfl win_X10 (by decide) rfl wf_X10_10 dX10_between_19 ?_
        refine r_getR B (C := RX0) (T := TX0) (N := 9) (ca_1.1) 1 rfl win_X0 (by decide) rfl wf_X10_89 dX10_between_22 ?_
        refine r_iload_n B dX10_between_25 rfl rfl ?_
        refine r_cI B (st := []) (as := [.int (i2 x2)]) (T := TX8) (N := 4) (c_Th_firstFrom (1 + 5) x2 _ (ca_1.2.2.1) hI h2) v (ca_1.2.2.1.1) rfl mw_Th_firstFrom wl_X10_179 ⟨Nat.le_of_ble_eq_true rfl, Nat.le_of_ble_eq_true rfl⟩ rfl rfl (Nat.le_of_ble_eq_true rfl) dX10_between_26 (fun z21 I22 hz21 hI22 v => ?_)
        refine r_aload_n B dX10_between_29 rfl rfl ?_
        refine r_getR B (C := RX10) (T := TX10) (N := 11) o_0 0 rfl win_X10 (by decide) rfl wf_X10_10 dX10_between_30 ?_
        refine r_getR B (C := RX0) (T := TX0) (N := 9) (ca_1.1) 1 rfl win_X0 (by decide) rfl wf_X10_89 dX10_between_33 ?_
        refine r_iload_n B dX10_between_36 rfl rfl ?_
        refine r_cI B (st := [.int (i2 z21)]) (as := [.int (i2 x1)]) (T := TX8) (N := 4) (c_Th_firstFrom (1 + 5) x1 _ (ca_1.2.2.1) hI22 h1) v (ca_1.2.2.1.1) rfl mw_Th_firstFrom wl_X10_179 ⟨Nat.le_of_ble_eq_true rfl, Nat.le_of_ble_eq_true rfl⟩ rfl rfl (Nat.le_of_ble_eq_true rfl) dX10_between_37 (fun z23 I24 hz23 hI24 v => ?_)
        refine r_isub B dX10_between_40 ?_
        obtain ⟨h25, v⟩ := v
        exact r_iret B hr hk rfl h25 hI24 v dX10_between_41
      · have v := v.2 h
        refine r_iconst B dX10_between_16 ?_
        exact r_iret B hr hk rfl ((rg_lit (by decide) (by decide))) hI v dX10_between_17
set_option maxHeartbeats 4000000 in
set_option maxRecDepth 100000 in
theorem c_X_isSpan {l : Launch} {E : En} {A : Nat → Prop} (x0 : Int) (I : Mm)  (hI : rgM I) (h0 : r32 x0) : CI l E A yX10_isSpan cX10_isSpan 1 .boolean 0 0 [.int (i2 x0)] I (V_X_isSpan x0 I) := by
  intro Q v
  refine mk_met (own := RX10) (lv0 := [(0, .int (i2 x0))]) (by decide) rfl (Nat.le_of_ble_eq_true rfl) rfl (fun p e s m args below meth c0 B hr hk => ?_)
  unfold V_X_isSpan at v
  refine r_iload_n B dX10_isSpan_0 rfl rfl ?_
  refine r_iconst B dX10_isSpan_1 ?_
  refine r_icmp_lt B (tgt := 15) dX10_isSpan_2 (by decide) h0 ((rg_lit (by decide) (by decide))) (fun h => ?_) (fun h => ?_)
  · have v := v.1 h
    refine r_iconst B dX10_isSpan_15 ?_
    exact r_iret B hr hk rfl ((rg_lit (by decide) (by decide))) hI v dX10_isSpan_16
  · have v := v.2 h
    refine r_iload_n B dX10_isSpan_5 rfl rfl ?_
    refine r_ldc B (999999999) dX10_isSpan_6 wc_X10_175 (by decide) ?_
    refine r_icmp_gt B (tgt := 15) dX10_isSpan_8 (by decide) h0 ((rg_lit (by decide) (by decide))) (fun h => ?_) (fun h => ?_)
    · have v := v.1 h
      refine r_iconst B dX10_isSpan_15 ?_
      exact r_iret B hr hk rfl ((rg_lit (by decide) (by decide))) hI v dX10_isSpan_16
    · have v := v.2 h
      refine r_iconst B dX10_isSpan_11 ?_
      refine r_goto B (tgt := 16) dX10_isSpan_12 (by decide) ?_
      exact r_iret B hr hk rfl ((rg_lit (by decide) (by decide))) hI v dX10_isSpan_16
set_option maxHeartbeats 4000000 in
set_option maxRecDepth 100000 in
theorem c_X_crowd {l : Launch} {E : En} {A : Nat → Prop} (x1 : Int) (x2 : Int) (I : Mm)  (hI : rgM I) (h1 : r32 x1) (h2 : r32 x2) : CI l E A yX10_crowd cX10_crowd 3 .int 1 26 [.ref (eA E 0), .int (i2 x1), .int (i2 x2)] I (V_X_crowd x1 x2 I) := by
  intro Q v
  refine mk_met (own := RX10) (lv0 := [(0, .ref (eA E 0)), (1, .int (i2 x1)), (2, .int (i2 x2))]) (by decide) rfl (Nat.le_of_ble_eq_true rfl) rfl (fun p e s m args below meth c0 B hr hk => ?_)
  unfold V_X_crowd at v
  refine r_iload_n B dX10_crowd_0 rfl rfl ?_
  refine r_sI B (st := []) (as := [.int (i2 x1)]) (c_X_isSpan x1 _ hI h1) v mw_X_isSpan wl_X10_302 ⟨Nat.le_of_ble_eq_true rfl, Nat.le_of_ble_eq_true rfl⟩ rfl rfl (Nat.le_of_ble_eq_true rfl) dX10_crowd_1 (fun z21 I22 hz21 hI22 v => ?_)
  refine r_if_eq B (tgt := 16) dX10_crowd_4 (by decide) hz21 (fun h => ?_) (fun h => ?_)
  · have v := v.1 h
    refine r_iconst B dX10_crowd_16 ?_
    exact r_iret B hr hk rfl ((rg_lit (by decide) (by decide))) hI22 v dX10_crowd_17
  · have v := v.2 h
    refine r_iload_n B dX10_crowd_7 rfl rfl ?_
    refine r_if_lt B (tgt := 16) dX10_crowd_8 (by decide) h2 (fun h => ?_) (fun h => ?_)
    · have v := v.1 h
      refine r_iconst B dX10_crowd_16 ?_
      exact r_iret B hr hk rfl ((rg_lit (by decide) (by decide))) hI22 v dX10_crowd_17
    · have v := v.2 h
      refine r_iload_n B dX10_crowd_11 rfl rfl ?_
      refine r_iconst B dX10_crowd_12 ?_
      refine r_icmp_le B (tgt := 18) dX10_crowd_13 (by decide) h2 ((rg_lit (by decide) (by decide))) (fun h => ?_) (fun h => ?_)
      · have v := v.1 h
        refine r_aload_n B dX10_crowd_18 rfl rfl ?_
        refine r_getR B (C := RX10) (T := TX10) (N := 11) o_0 0 rfl win_X10 (by decide) rfl wf_X10_10 dX10_crowd_19 ?_
        refine r_getR B (C := RX0) (T := TX0) (N := 9) (ca_1.1) 1 rfl win_X0 (by decide) rfl wf_X10_89 dX10_crowd_22 ?_
        refine r_iload_n B dX10_crowd_25 rfl rfl ?_
        refine r_iload_n B dX10_crowd_26 rfl rfl ?_
        refine r_cI B (st := []) (as := [.int (i2 x1), .int (i2 x2)]) (T := TX8) (N := 4) (c_Th_mostWithin (1 + 5) x1 x2 _ (ca_1.2.2.1) hI22 h1 h2) v (ca_1.2.2.1.1) rfl mw_Th_mostWithin wl_X10_282 ⟨Nat.le_of_ble_eq_true rfl, Nat.le_of_ble_eq_true rfl⟩ rfl rfl (Nat.le_of_ble_eq_true rfl) dX10_crowd_27 (fun z23 I24 hz23 hI24 v => ?_)
        exact r_iret B hr hk rfl hz23 hI24 v dX10_crowd_30
      · have v := v.2 h
        refine r_iconst B dX10_crowd_16 ?_
        exact r_iret B hr hk rfl ((rg_lit (by decide) (by decide))) hI22 v dX10_crowd_17
set_option maxHeartbeats 4000000 in
set_option maxRecDepth 100000 in
theorem c_X_takenInTrial {l : Launch} {E : En} {A : Nat → Prop} (x1 : Int) (I : Mm)  (hI : rgM I) (h1 : r32 x1) : CI l E A yX10_takenInTrial cX10_takenInTrial 2 .int 0 0 [.ref (eA E 0), .int (i2 x1)] I (V_X_takenInTrial x1 I) := by
  intro Q v
  refine mk_met (own := RX10) (lv0 := [(0, .ref (eA E 0)), (1, .int (i2 x1))]) (by decide) rfl (Nat.le_of_ble_eq_true rfl) rfl (fun p e s m args below meth c0 B hr hk => ?_)
  unfold V_X_takenInTrial at v
  refine r_iload_n B dX10_takenInTrial_0 rfl rfl ?_
  refine r_if_lt B (tgt := 10) dX10_takenInTrial_1 (by decide) h1 (fun h => ?_) (fun h => ?_)
  · have v := v.1 h
    refine r_iconst B dX10_takenInTrial_10 ?_
    refine r_goto B (tgt := 39) dX10_takenInTrial_11 (by decide) ?_
    exact r_iret B hr hk rfl ((rg_lit (by decide) (by decide))) hI v dX10_takenInTrial_39
  · have v := v.2 h
    refine r_iload_n B dX10_takenInTrial_4 rfl rfl ?_
    refine r_bipush B dX10_takenInTrial_5 (by decide) ?_
    refine r_icmp_lt B (tgt := 14) dX10_takenInTrial_7 (by decide) h1 ((rg_lit (by decide) (by decide))) (fun h => ?_) (fun h => ?_)
    · have v := v.1 h
      refine r_aload_n B dX10_takenInTrial_14 rfl rfl ?_
      refine r_getR B (C := RX10) (T := TX10) (N := 11) o_0 1 rfl win_X10 (by decide) rfl wf_X10_16 dX10_takenInTrial_15 ?_
      refine r_getR B (C := RX0) (T := TX0) (N := 9) (ca_17.1) 0 rfl win_X0 (by decide) rfl wf_X10_101 dX10_takenInTrial_18 ?_
      refine r_getR B (C := RX3) (T := TX3) (N := 4) (ca_17.2.1.1) 2 rfl win_X3 (by decide) rfl wf_X10_253 dX10_takenInTrial_21 ?_
      refine r_iload_n B dX10_takenInTrial_24 rfl rfl ?_
      obtain ⟨h21, v⟩ := v
      refine r_ald B (ca_17.2.1.2.2.1) (by decide) h21 dX10_takenInTrial_25 ?_
      refine r_aload_n B dX10_takenInTrial_26 rfl rfl ?_
      refine r_getR B (C := RX10) (T := TX10) (N := 11) o_0 0 rfl win_X10 (by decide) rfl wf_X10_10 dX10_takenInTrial_27 ?_
      refine r_getR B (C := RX0) (T := TX0) (N := 9) (ca_1.1) 0 rfl win_X0 (by decide) rfl wf_X10_101 dX10_takenInTrial_30 ?_
      refine r_getR B (C := RX3) (T := TX3) (N := 4) (ca_1.2.1.1) 2 rfl win_X3 (by decide) rfl wf_X10_253 dX10_takenInTrial_33 ?_
      refine r_iload_n B dX10_takenInTrial_36 rfl rfl ?_
      obtain ⟨h22, v⟩ := v
      refine r_ald B (ca_1.2.1.2.2.1) (by decide) h22 dX10_takenInTrial_37 ?_
      refine r_isub B dX10_takenInTrial_38 ?_
      obtain ⟨h23, v⟩ := v
      exact r_iret B hr hk rfl h23 hI v dX10_takenInTrial_39
    · have v := v.2 h
      refine r_iconst B dX10_takenInTrial_10 ?_
      refine r_goto B (tgt := 39) dX10_takenInTrial_11 (by decide) ?_
      exact r_iret B hr hk rfl ((rg_lit (by decide) (by decide))) hI v dX10_takenInTrial_39
set_option maxHeartbeats 4000000 in
set_option maxRecDepth 100000 in
theorem wL_X_busiest_65 {p : Program} {l : Launch} {e : Env} {s : State} {m : MethodId} {args : Array Value} {below : List Frame} {meth : Method} {c0 : Code} {E : En} {A : Nat → Prop} {x1 : Int} {x2 : Int} {Q : Int → Mm → Prop}  (B : Bd p (rmm 6 179) s m args c0 cX10_busiest 5 RX10 E A 0 0) (hr : meth.sig.returnType = some .int) (hk : meth.locks = false) (h1 : r32 x1) (h2 : r32 x2)   : ∀ (n : Nat) (x3 : Int) (x4 : Int) (I : Mm), rgM I → r32 x3 → r32 x4 → L_X_busiest_65 x1 x2 Q n x3 x4 I → WI p l e (rmm 6 179) s m args below meth c0 E A 5 0 0 (qI below E A args s Q) I 65 [(0, .ref (eA E 0)), (2, .int (i2 x2)), (3, .int (i2 x3)), (4, .int (i2 x4))] [] := by
  intro n
  induction n with
  | zero => intro x3 x4 I _ _ _ v; exact absurd v id
  | succ n ih =>
    intro x3 x4 I hI h3 h4 v
    unfold L_X_busiest_65 at v
    refine r_iload B dX10_busiest_65 rfl ?_
    refine r_aload_n B dX10_busiest_67 rfl rfl ?_
    refine r_getR B (C := RX10) (T := TX10) (N := 11) o_0 1 rfl win_X10 (by decide) rfl wf_X10_16 dX10_busiest_68 ?_
    refine r_getR B (C := RX0) (T := TX0) (N := 9) (ca_17.1) 0 rfl win_X0 (by decide) rfl wf_X10_101 dX10_busiest_71 ?_
    refine r_getI B (C := RX3) (T := TX3) (N := 4) (ca_17.2.1.1) 0 rfl win_X3 (by decide) rfl wf_X10_111 dX10_busiest_74 (jj := 0) rfl ?_
    refine r_icmp_ge B (tgt := 103) dX10_busiest_77 (by decide) h4 ((hI _ _)) (fun h => ?_) (fun h => ?_)
    · have v := v.1 h
      refine r_iload_n B dX10_busiest_103 rfl rfl ?_
      refine r_if_ne B (tgt := 111) dX10_busiest_104 (by decide) h2 (fun h => ?_) (fun h => ?_)
      · have v := v.1 h
        refine r_aload_n B dX10_busiest_111 rfl rfl ?_
        refine r_iload_n B dX10_busiest_112 rfl rfl ?_
        refine r_cI B (st := []) (as := [.int (i2 x3)]) (T := TX10) (N := 11) (c_X_takenInTrial x3 _ hI h3) v o_0 rfl mw_X_takenInTrial wl_X10_305 ⟨Nat.le_of_ble_eq_true rfl, Nat.le_of_ble_eq_true rfl⟩ rfl rfl (Nat.le_of_ble_eq_true rfl) dX10_busiest_113 (fun z24 I25 hz24 hI25 v => ?_)
        exact r_iret B hr hk rfl hz24 hI25 v dX10_busiest_116
      · have v := v.2 h
        refine r_iload_n B dX10_busiest_107 rfl rfl ?_
        refine r_goto B (tgt := 116) dX10_busiest_108 (by decide) ?_
        exact r_iret B hr hk rfl h3 hI v dX10_busiest_116
    · have v := v.2 h
      refine r_aload_n B dX10_busiest_80 rfl rfl ?_
      refine r_iload B dX10_busiest_81 rfl ?_
      refine r_cI B (st := []) (as := [.int (i2 x4)]) (T := TX10) (N := 11) (c_X_takenInTrial x4 _ hI h4) v o_0 rfl mw_X_takenInTrial wl_X10_305 ⟨Nat.le_of_ble_eq_true rfl, Nat.le_of_ble_eq_true rfl⟩ rfl rfl (Nat.le_of_ble_eq_true rfl) dX10_busiest_83 (fun z26 I27 hz26 hI27 v => ?_)
      refine r_aload_n B dX10_busiest_86 rfl rfl ?_
      refine r_iload_n B dX10_busiest_87 rfl rfl ?_
      refine r_cI B (st := [.int (i2 z26)]) (as := [.int (i2 x3)]) (T := TX10) (N := 11) (c_X_takenInTrial x3 _ hI27 h3) v o_0 rfl mw_X_takenInTrial wl_X10_305 ⟨Nat.le_of_ble_eq_true rfl, Nat.le_of_ble_eq_true rfl⟩ rfl rfl (Nat.le_of_ble_eq_true rfl) dX10_busiest_88 (fun z28 I29 hz28 hI29 v => ?_)
      refine r_icmp_le B (tgt := 97) dX10_busiest_91 (by decide) hz26 hz28 (fun h => ?_) (fun h => ?_)
      · have v := v.1 h
        refine r_iinc B (q := 3) dX10_busiest_97 (by decide) rfl (lv' := [(4, .int (i2 (x4 + 1))), (0, .ref (eA E 0)), (2, .int (i2 x2)), (3, .int (i2 x3))]) rfl ?_
        refine r_sub [1, 2, 3, 0] rfl ?_
        refine r_goto B (tgt := 65) dX10_busiest_100 (by decide) ?_
        obtain ⟨h30, v⟩ := v
        refine r_sub [0, 1, 2, 3] rfl ?_
        exact ih x3 (x4 + 1) _ hI29 h3 h30 v
      · have v := v.2 h
        refine r_iload B dX10_busiest_94 rfl ?_
        refine r_istore_n B dX10_busiest_96 rfl (by decide) (lv' := [(3, .int (i2 x4)), (0, .ref (eA E 0)), (2, .int (i2 x2)), (4, .int (i2 x4))]) rfl ?_
        refine r_sub [1, 2, 0, 3] rfl ?_
        refine r_iinc B (q := 3) dX10_busiest_97 (by decide) rfl (lv' := [(4, .int (i2 (x4 + 1))), (0, .ref (eA E 0)), (2, .int (i2 x2)), (3, .int (i2 x4))]) rfl ?_
        refine r_sub [1, 2, 3, 0] rfl ?_
        refine r_goto B (tgt := 65) dX10_busiest_100 (by decide) ?_
        obtain ⟨h31, v⟩ := v
        refine r_sub [0, 1, 2, 3] rfl ?_
        exact ih x4 (x4 + 1) _ hI29 h4 h31 v
set_option maxHeartbeats 4000000 in
set_option maxRecDepth 100000 in
theorem c_X_busiest {l : Launch} {E : En} {A : Nat → Prop} (x1 : Int) (x2 : Int) (I : Mm)  (hI : rgM I) (h1 : r32 x1) (h2 : r32 x2) : CI l E A yX10_busiest cX10_busiest 5 .int 6 179 [.ref (eA E 0), .int (i2 x1), .int (i2 x2)] I (V_X_busiest x1 x2 I) := by
  intro Q v
  refine mk_met (own := RX10) (lv0 := [(0, .ref (eA E 0)), (1, .int (i2 x1)), (2, .int (i2 x2))]) (by decide) rfl (Nat.le_of_ble_eq_true rfl) rfl (fun p e s m args below meth c0 B hr hk => ?_)
  unfold V_X_busiest at v
  refine r_iload_n B dX10_busiest_0 rfl rfl ?_
  refine r_iconst B dX10_busiest_1 ?_
  refine r_icmp_lt B (tgt := 21) dX10_busiest_2 (by decide) h1 ((rg_lit (by decide) (by decide))) (fun h => ?_) (fun h => ?_)
  · have v := v.1 h
    refine r_iconst B dX10_busiest_21 ?_
    exact r_iret B hr hk rfl ((rg_lit (by decide) (by decide))) hI v dX10_busiest_22
  · have v := v.2 h
    refine r_iload_n B dX10_busiest_5 rfl rfl ?_
    refine r_sipush B dX10_busiest_6 (by decide) ?_
    refine r_icmp_gt B (tgt := 21) dX10_busiest_9 (by decide) h1 ((rg_lit (by decide) (by decide))) (fun h => ?_) (fun h => ?_)
    · have v := v.1 h
      refine r_iconst B dX10_busiest_21 ?_
      exact r_iret B hr hk rfl ((rg_lit (by decide) (by decide))) hI v dX10_busiest_22
    · have v := v.2 h
      refine r_iload_n B dX10_busiest_12 rfl rfl ?_
      refine r_if_lt B (tgt := 21) dX10_busiest_13 (by decide) h2 (fun h => ?_) (fun h => ?_)
      · have v := v.1 h
        refine r_iconst B dX10_busiest_21 ?_
        exact r_iret B hr hk rfl ((rg_lit (by decide) (by decide))) hI v dX10_busiest_22
      · have v := v.2 h
        refine r_iload_n B dX10_busiest_16 rfl rfl ?_
        refine r_iconst B dX10_busiest_17 ?_
        refine r_icmp_le B (tgt := 23) dX10_busiest_18 (by decide) h2 ((rg_lit (by decide) (by decide))) (fun h => ?_) (fun h => ?_)
        · have v := v.1 h
          refine r_aload_n B dX10_busiest_23 rfl rfl ?_
          refine r_getR B (C := RX10) (T := TX10) (N := 11) o_0 0 rfl win_X10 (by decide) rfl wf_X10_10 dX10_busiest_24 ?_
          refine r_getR B (C := RX0) (T := TX0) (N := 9) (ca_1.1) 1 rfl win_X0 (by decide) rfl wf_X10_89 dX10_busiest_27 ?_
          refine r_getI B (C := RX8) (T := TX8) (N := 4) (ca_1.2.2.1.1) 0 rfl win_X8 (by decide) rfl wf_X10_93 dX10_busiest_30 (jj := 0) rfl ?_
          refine r_iconst B dX10_busiest_33 ?_
          refine r_icmp_ge B (tgt := 40) dX10_busiest_34 (by decide) ((hI _ _)) ((rg_lit (by decide) (by decide))) (fun h => ?_) (fun h => ?_)
          · have v := v.1 h
            refine r_aload_n B dX10_busiest_40 rfl rfl ?_
            refine r_getR B (C := RX10) (T := TX10) (N := 11) o_0 1 rfl win_X10 (by decide) rfl wf_X10_16 dX10_busiest_41 ?_
            refine r_aload_n B dX10_busiest_44 rfl rfl ?_
            refine r_getR B (C := RX10) (T := TX10) (N := 11) o_0 0 rfl win_X10 (by decide) rfl wf_X10_10 dX10_busiest_45 ?_
            refine r_cV B (st := []) (as := [.ref (eA E 1)]) (T := TX0) (N := 9) (c_Ca_copyFrom 17 1 _ ca_17 ca_1 hI ) v (ca_17.1) rfl mw_Ca_copyFrom wl_X10_82 ⟨Nat.le_of_ble_eq_true rfl, Nat.le_of_ble_eq_true rfl⟩ rfl rfl (Nat.le_of_ble_eq_true rfl) dX10_busiest_48 (fun I21 hI21 v => ?_)
            refine r_aload_n B dX10_busiest_51 rfl rfl ?_
            refine r_getR B (C := RX10) (T := TX10) (N := 11) o_0 1 rfl win_X10 (by decide) rfl wf_X10_16 dX10_busiest_52 ?_
            refine r_iload_n B dX10_busiest_55 rfl rfl ?_
            refine r_cI B (st := []) (as := [.int (i2 x1)]) (T := TX0) (N := 9) (c_Ca_takeSome 17 x1 _ ca_17 hI21 h1) v (ca_17.1) rfl mw_Ca_takeSome wl_X10_132 ⟨Nat.le_of_ble_eq_true rfl, Nat.le_of_ble_eq_true rfl⟩ rfl rfl (Nat.le_of_ble_eq_true rfl) dX10_busiest_56 (fun z22 I23 hz22 hI23 v => ?_)
            refine r_pop B dX10_busiest_59 rfl ?_
            refine r_iconst B dX10_busiest_60 ?_
            refine r_istore_n B dX10_busiest_61 rfl (by decide) (lv' := [(3, .int (i2 0)), (0, .ref (eA E 0)), (1, .int (i2 x1)), (2, .int (i2 x2))]) rfl ?_
            refine r_sub [1, 2, 3, 0] rfl ?_
            refine r_iconst B dX10_busiest_62 ?_
            refine r_istore B dX10_busiest_63 (by decide) (lv' := [(4, .int (i2 1)), (0, .ref (eA E 0)), (1, .int (i2 x1)), (2, .int (i2 x2)), (3, .int (i2 0))]) rfl ?_
            refine r_sub [1, 2, 3, 4, 0] rfl ?_
            obtain ⟨f32, v⟩ := v
            refine r_sub [0, 2, 3, 4] rfl ?_
            exact wL_X_busiest_65 B hr hk h1 h2 f32 0 1 I23 hI23 ((rg_lit (by decide) (by decide))) ((rg_lit (by decide) (by decide))) v
          · have v := v.2 h
            refine r_bipush B dX10_busiest_37 (by decide) ?_
            exact r_iret B hr hk rfl ((rg_lit (by decide) (by decide))) hI v dX10_busiest_39
        · have v := v.2 h
          refine r_iconst B dX10_busiest_21 ?_
          exact r_iret B hr hk rfl ((rg_lit (by decide) (by decide))) hI v dX10_busiest_22
set_option maxHeartbeats 4000000 in
set_option maxRecDepth 100000 in
theorem c_Wa_priceOf {l : Launch} {E : En} {A : Nat → Prop} (c1 : Int) (x2 : Int) (I : Mm) (hc1 : isRu c1) (hI : rgM I) (h2 : r32 x2) : CI l E A yX9_priceOf cX9_priceOf 3 .int 0 0 [.ref (eA E 37), .ref (eA E c1), .int (i2 x2)] I (V_Wa_priceOf c1 x2 I) := by
  intro Q v
  refine mk_met (own := RX9) (lv0 := [(0, .ref (eA E 37)), (1, .ref (eA E c1)), (2, .int (i2 x2))]) (by decide) rfl (Nat.le_of_ble_eq_true rfl) rfl (fun p e s m args below meth c0 B hr hk => ?_)
  unfold V_Wa_priceOf at v
  refine r_aload_n B dX9_priceOf_0 rfl rfl ?_
  refine r_getR B (C := RX5) (T := TX5) (N := 4) (hc1.1) 3 rfl win_X5 (by decide) rfl wf_X9_56 dX9_priceOf_1 ?_
  refine r_iload_n B dX9_priceOf_4 rfl rfl ?_
  obtain ⟨h21, v⟩ := v
  refine r_ald B (hc1.2.2.2) (by decide) h21 dX9_priceOf_5 ?_
  refine r_bipush B dX9_priceOf_6 (by decide) ?_
  refine r_imul B dX9_priceOf_8 ?_
  refine r_iconst B dX9_priceOf_9 ?_
  refine r_iadd B dX9_priceOf_10 ?_
  obtain ⟨h22, v⟩ := v
  exact r_iret B hr hk rfl h22 hI v dX9_priceOf_11
set_option maxHeartbeats 4000000 in
set_option maxRecDepth 100000 in
theorem c_Wa_priceBy {l : Launch} {E : En} {A : Nat → Prop} (c1 : Int) (x2 : Int) (I : Mm) (hc1 : isRu c1) (hI : rgM I) (h2 : r32 x2) : CI l E A yX9_priceBy cX9_priceBy 5 .int 1 22 [.ref (eA E 37), .ref (eA E c1), .int (i2 x2)] I (V_Wa_priceBy c1 x2 I) := by
  intro Q v
  refine mk_met (own := RX9) (lv0 := [(0, .ref (eA E 37)), (1, .ref (eA E c1)), (2, .int (i2 x2))]) (by decide) rfl (Nat.le_of_ble_eq_true rfl) rfl (fun p e s m args below meth c0 B hr hk => ?_)
  unfold V_Wa_priceBy at v
  refine r_aload_n B dX9_priceBy_0 rfl rfl ?_
  refine r_getR B (C := RX5) (T := TX5) (N := 4) (hc1.1) 2 rfl win_X5 (by decide) rfl wf_X9_29 dX9_priceBy_1 ?_
  refine r_iload_n B dX9_priceBy_4 rfl rfl ?_
  obtain ⟨h21, v⟩ := v
  refine r_ald B (hc1.2.2.1) (by decide) h21 dX9_priceBy_5 ?_
  refine r_istore_n B dX9_priceBy_6 rfl (by decide) (lv' := [(3, .int (i2 (I (c1 + 2) x2))), (0, .ref (eA E 37)), (1, .ref (eA E c1)), (2, .int (i2 x2))]) rfl ?_
  refine r_sub [1, 2, 3, 0] rfl ?_
  refine r_iload_n B dX9_priceBy_7 rfl rfl ?_
  refine r_if_lt B (tgt := 28) dX9_priceBy_8 (by decide) ((hI _ _)) (fun h => ?_) (fun h => ?_)
  · have v := v.1 h
    refine r_iconst B dX9_priceBy_28 ?_
    refine r_goto B (tgt := 33) dX9_priceBy_29 (by decide) ?_
    refine r_istore B dX9_priceBy_33 (by decide) (lv' := [(4, .int (i2 1)), (0, .ref (eA E 37)), (1, .ref (eA E c1)), (2, .int (i2 x2)), (3, .int (i2 (I (c1 + 2) x2)))]) rfl ?_
    refine r_sub [1, 2, 3, 4, 0] rfl ?_
    refine r_iload B dX9_priceBy_35 rfl ?_
    refine r_if_eq B (tgt := 45) dX9_priceBy_37 (by decide) ((rg_lit (by decide) (by decide))) (fun h => absurd h (by decide)) (fun _ => ?_)
    refine r_ldc B (2000000000) dX9_priceBy_40 wc_X9_19 (by decide) ?_
    refine r_goto B (tgt := 58) dX9_priceBy_42 (by decide) ?_
    exact r_iret B hr hk rfl ((rg_lit (by decide) (by decide))) hI v dX9_priceBy_58
  · have v := v.2 h
    refine r_iload_n B dX9_priceBy_11 rfl rfl ?_
    refine r_bipush B dX9_priceBy_12 (by decide) ?_
    refine r_icmp_ge B (tgt := 28) dX9_priceBy_14 (by decide) ((hI _ _)) ((rg_lit (by decide) (by decide))) (fun h => ?_) (fun h => ?_)
    · have v := v.1 h
      refine r_iconst B dX9_priceBy_28 ?_
      refine r_goto B (tgt := 33) dX9_priceBy_29 (by decide) ?_
      refine r_istore B dX9_priceBy_33 (by decide) (lv' := [(4, .int (i2 1)), (0, .ref (eA E 37)), (1, .ref (eA E c1)), (2, .int (i2 x2)), (3, .int (i2 (I (c1 + 2) x2)))]) rfl ?_
      refine r_sub [1, 2, 3, 4, 0] rfl ?_
      refine r_iload B dX9_priceBy_35 rfl ?_
      refine r_if_eq B (tgt := 45) dX9_priceBy_37 (by decide) ((rg_lit (by decide) (by decide))) (fun h => absurd h (by decide)) (fun _ => ?_)
      refine r_ldc B (2000000000) dX9_priceBy_40 wc_X9_19 (by decide) ?_
      refine r_goto B (tgt := 58) dX9_priceBy_42 (by decide) ?_
      exact r_iret B hr hk rfl ((rg_lit (by decide) (by decide))) hI v dX9_priceBy_58
    · have v := v.2 h
      refine r_aload_n B dX9_priceBy_17 rfl rfl ?_
      refine r_getR B (C := RX9) (T := TX9) (N := 1) o_37 0 rfl win_X9 (by decide) rfl wf_X9_9 dX9_priceBy_18 ?_
      refine r_iload_n B dX9_priceBy_21 rfl rfl ?_
      obtain ⟨h22, v⟩ := v
      refine r_ald B a_38 (by decide) h22 dX9_priceBy_22 ?_
      refine r_ldc B (2000000000) dX9_priceBy_23 wc_X9_19 (by decide) ?_
      refine r_icmp_ne B (tgt := 32) dX9_priceBy_25 (by decide) ((hI _ _)) ((rg_lit (by decide) (by decide))) (fun h => ?_) (fun h => ?_)
      · have v := v.1 h
        refine r_iconst B dX9_priceBy_32 ?_
        refine r_istore B dX9_priceBy_33 (by decide) (lv' := [(4, .int (i2 0)), (0, .ref (eA E 37)), (1, .ref (eA E c1)), (2, .int (i2 x2)), (3, .int (i2 (I (c1 + 2) x2)))]) rfl ?_
        refine r_sub [1, 2, 3, 4, 0] rfl ?_
        refine r_iload B dX9_priceBy_35 rfl ?_
        refine r_if_eq B (tgt := 45) dX9_priceBy_37 (by decide) ((rg_lit (by decide) (by decide))) (fun _ => ?_) (fun h => absurd h (by decide))
        refine r_aload_n B dX9_priceBy_45 rfl rfl ?_
        refine r_getR B (C := RX9) (T := TX9) (N := 1) o_37 0 rfl win_X9 (by decide) rfl wf_X9_9 dX9_priceBy_46 ?_
        refine r_iload_n B dX9_priceBy_49 rfl rfl ?_
        obtain ⟨h23, v⟩ := v
        refine r_ald B a_38 (by decide) h23 dX9_priceBy_50 ?_
        refine r_aload_n B dX9_priceBy_51 rfl rfl ?_
        refine r_aload_n B dX9_priceBy_52 rfl rfl ?_
        refine r_iload_n B dX9_priceBy_53 rfl rfl ?_
        refine r_cI B (st := [.int (i2 (I 38 (I (c1 + 2) x2)))]) (as := [.ref (eA E c1), .int (i2 x2)]) (T := TX9) (N := 1) (c_Wa_priceOf c1 x2 _ hc1 hI h2) v o_37 rfl mw_Wa_priceOf wl_X9_32 ⟨Nat.le_of_ble_eq_true rfl, Nat.le_of_ble_eq_true rfl⟩ rfl rfl (Nat.le_of_ble_eq_true rfl) dX9_priceBy_54 (fun z24 I25 hz24 hI25 v => ?_)
        refine r_iadd B dX9_priceBy_57 ?_
        obtain ⟨h26, v⟩ := v
        exact r_iret B hr hk rfl h26 hI25 v dX9_priceBy_58
      · have v := v.2 h
        refine r_iconst B dX9_priceBy_28 ?_
        refine r_goto B (tgt := 33) dX9_priceBy_29 (by decide) ?_
        refine r_istore B dX9_priceBy_33 (by decide) (lv' := [(4, .int (i2 1)), (0, .ref (eA E 37)), (1, .ref (eA E c1)), (2, .int (i2 x2)), (3, .int (i2 (I (c1 + 2) x2)))]) rfl ?_
        refine r_sub [1, 2, 3, 4, 0] rfl ?_
        refine r_iload B dX9_priceBy_35 rfl ?_
        refine r_if_eq B (tgt := 45) dX9_priceBy_37 (by decide) ((rg_lit (by decide) (by decide))) (fun h => absurd h (by decide)) (fun _ => ?_)
        refine r_ldc B (2000000000) dX9_priceBy_40 wc_X9_19 (by decide) ?_
        refine r_goto B (tgt := 58) dX9_priceBy_42 (by decide) ?_
        exact r_iret B hr hk rfl ((rg_lit (by decide) (by decide))) hI v dX9_priceBy_58
set_option maxHeartbeats 4000000 in
set_option maxRecDepth 100000 in
theorem c_Wa_lower {l : Launch} {E : En} {A : Nat → Prop} (x1 : Int) (x2 : Int) (I : Mm)  (hI : rgM I) (h1 : r32 x1) (h2 : r32 x2) : CV l E A yX9_lower cX9_lower 3 1 60 [.ref (eA E 37), .int (i2 x1), .int (i2 x2)] I (V_Wa_lower x1 x2 I) := by
  intro Q v
  refine mk_met (own := RX9) (lv0 := [(0, .ref (eA E 37)), (1, .int (i2 x1)), (2, .int (i2 x2))]) (by decide) rfl (Nat.le_of_ble_eq_true rfl) rfl (fun p e s m args below meth c0 B hr hk => ?_)
  unfold V_Wa_lower at v
  refine r_iload_n B dX9_lower_0 rfl rfl ?_
  refine r_if_lt B (tgt := 26) dX9_lower_1 (by decide) h1 (fun h => ?_) (fun h => ?_)
  · have v := v.1 h
    exact r_vret B hr hk hI v dX9_lower_26
  · have v := v.2 h
    refine r_iload_n B dX9_lower_4 rfl rfl ?_
    refine r_bipush B dX9_lower_5 (by decide) ?_
    refine r_icmp_ge B (tgt := 26) dX9_lower_7 (by decide) h1 ((rg_lit (by decide) (by decide))) (fun h => ?_) (fun h => ?_)
    · have v := v.1 h
      exact r_vret B hr hk hI v dX9_lower_26
    · have v := v.2 h
      refine r_aload_n B dX9_lower_10 rfl rfl ?_
      refine r_getR B (C := RX9) (T := TX9) (N := 1) o_37 0 rfl win_X9 (by decide) rfl wf_X9_9 dX9_lower_11 ?_
      refine r_iload_n B dX9_lower_14 rfl rfl ?_
      refine r_aload_n B dX9_lower_15 rfl rfl ?_
      refine r_getR B (C := RX9) (T := TX9) (N := 1) o_37 0 rfl win_X9 (by decide) rfl wf_X9_9 dX9_lower_16 ?_
      refine r_iload_n B dX9_lower_19 rfl rfl ?_
      obtain ⟨h21, v⟩ := v
      refine r_ald B a_38 (by decide) h21 dX9_lower_20 ?_
      refine r_iload_n B dX9_lower_21 rfl rfl ?_
      refine r_min B wl_X9_50 ws_r_min wi_Math wd_r_min (Nat.le_of_ble_eq_true rfl) (Nat.le_of_ble_eq_true rfl) ((hI _ _)) h2 dX9_lower_22 ?_
      obtain ⟨h22, v⟩ := v
      refine r_ast B a_38 (by decide) h22 dX9_lower_25 ?_
      have hI23 : rgM (wrM I 38 x1 (min (I 38 x1) x2)) := rg_wr hI ((rg_min ((hI _ _)) h2))
      exact r_vret B hr hk hI23 v dX9_lower_26
set_option maxHeartbeats 4000000 in
set_option maxRecDepth 100000 in
theorem wL_Wa_find_3 {p : Program} {l : Launch} {e : Env} {s : State} {m : MethodId} {args : Array Value} {below : List Frame} {meth : Method} {c0 : Code} {E : En} {A : Nat → Prop} {c1 : Int} {x2 : Int} {x3 : Int} {Q : Int → Mm → Prop} {K35 : Mm → Prop} (B : Bd p (rmm 2 82) s m args c0 cX9_find 6 RX9 E A 0 0) (hr : meth.sig.returnType = some .int) (hk : meth.locks = false) (hc1 : isRu c1) (h2 : r32 x2) (h3 : r32 x3)  (k35 : ∀ (I : Mm), rgM I → K35 I → WI p l e (rmm 2 82) s m args below meth c0 E A 6 0 0 (qI below E A args s Q) I 35 [(0, .ref (eA E 37)), (1, .ref (eA E c1)), (2, .int (i2 x2))] []) : ∀ (n : Nat) (x4 : Int) (I : Mm), rgM I → r32 x4 → L_Wa_find_3 c1 x2 x3 Q K35 n x4 I → WI p l e (rmm 2 82) s m args below meth c0 E A 6 0 0 (qI below E A args s Q) I 3 [(0, .ref (eA E 37)), (1, .ref (eA E c1)), (2, .int (i2 x2)), (3, .int (i2 x3)), (4, .int (i2 x4))] [] := by
  intro n
  induction n with
  | zero => intro x4 I _ _ v; exact absurd v id
  | succ n ih =>
    intro x4 I hI h4 v
    unfold L_Wa_find_3 at v
    refine r_iload B dX9_find_3 rfl ?_
    refine r_bipush B dX9_find_5 (by decide) ?_
    refine r_icmp_ge B (tgt := 35) dX9_find_7 (by decide) h4 ((rg_lit (by decide) (by decide))) (fun h => ?_) (fun h => ?_)
    · have v := v.1 h
      refine r_sub [0, 1, 2] rfl ?_
      exact k35 _ hI v
    · have v := v.2 h
      refine r_aload_n B dX9_find_10 rfl rfl ?_
      refine r_getR B (C := RX9) (T := TX9) (N := 1) o_37 0 rfl win_X9 (by decide) rfl wf_X9_9 dX9_find_11 ?_
      refine r_iload B dX9_find_14 rfl ?_
      refine r_iload B dX9_find_16 rfl ?_
      refine r_iload_n B dX9_find_18 rfl rfl ?_
      refine r_icmp_ne B (tgt := 26) dX9_find_19 (by decide) h4 h3 (fun h => ?_) (fun h => ?_)
      · have v := v.1 h
        refine r_ldc B (2000000000) dX9_find_26 wc_X9_19 (by decide) ?_
        obtain ⟨h21, v⟩ := v
        refine r_ast B a_38 (by decide) h21 dX9_find_28 ?_
        have hI22 : rgM (wrM I 38 x4 2000000000) := rg_wr hI ((rg_lit (by decide) (by decide)))
        refine r_iinc B (q := 4) dX9_find_29 (by decide) rfl (lv' := [(4, .int (i2 (x4 + 1))), (0, .ref (eA E 37)), (1, .ref (eA E c1)), (2, .int (i2 x2)), (3, .int (i2 x3))]) rfl ?_
        refine r_sub [1, 2, 3, 4, 0] rfl ?_
        refine r_goto B (tgt := 3) dX9_find_32 (by decide) ?_
        obtain ⟨h23, v⟩ := v
        refine r_sub [0, 1, 2, 3, 4] rfl ?_
        exact ih (x4 + 1) _ hI22 h23 v
      · have v := v.2 h
        refine r_iconst B dX9_find_22 ?_
        refine r_goto B (tgt := 28) dX9_find_23 (by decide) ?_
        obtain ⟨h24, v⟩ := v
        refine r_ast B a_38 (by decide) h24 dX9_find_28 ?_
        have hI25 : rgM (wrM I 38 x4 0) := rg_wr hI ((rg_lit (by decide) (by decide)))
        refine r_iinc B (q := 4) dX9_find_29 (by decide) rfl (lv' := [(4, .int (i2 (x4 + 1))), (0, .ref (eA E 37)), (1, .ref (eA E c1)), (2, .int (i2 x2)), (3, .int (i2 x3))]) rfl ?_
        refine r_sub [1, 2, 3, 4, 0] rfl ?_
        refine r_goto B (tgt := 3) dX9_find_32 (by decide) ?_
        obtain ⟨h26, v⟩ := v
        refine r_sub [0, 1, 2, 3, 4] rfl ?_
        exact ih (x4 + 1) _ hI25 h26 v
set_option maxHeartbeats 4000000 in
set_option maxRecDepth 100000 in
theorem wL_Wa_find_48 {p : Program} {l : Launch} {e : Env} {s : State} {m : MethodId} {args : Array Value} {below : List Frame} {meth : Method} {c0 : Code} {E : En} {A : Nat → Prop} {c1 : Int} {x2 : Int} {x3 : Int} {x4 : Int} {Q : Int → Mm → Prop} {K38 : Int → Mm → Prop} (B : Bd p (rmm 2 82) s m args c0 cX9_find 6 RX9 E A 0 0) (hr : meth.sig.returnType = some .int) (hk : meth.locks = false) (hc1 : isRu c1) (h2 : r32 x2) (h3 : r32 x3) (h4 : r32 x4) (k38 : ∀ (x4 : Int) (I : Mm), rgM I → r32 x4 → K38 x4 I → WI p l e (rmm 2 82) s m args below meth c0 E A 6 0 0 (qI below E A args s Q) I 38 [(0, .ref (eA E 37)), (1, .ref (eA E c1)), (2, .int (i2 x2)), (4, .int (i2 x4))] []) : ∀ (n : Nat) (x5 : Int) (I : Mm), rgM I → r32 x5 → L_Wa_find_48 c1 x2 x3 x4 Q K38 n x5 I → WI p l e (rmm 2 82) s m args below meth c0 E A 6 0 0 (qI below E A args s Q) I 48 [(0, .ref (eA E 37)), (1, .ref (eA E c1)), (2, .int (i2 x2)), (4, .int (i2 x4)), (5, .int (i2 x5))] [] := by
  intro n
  induction n with
  | zero => intro x5 I _ _ v; exact absurd v id
  | succ n ih =>
    intro x5 I hI h5 v
    unfold L_Wa_find_48 at v
    refine r_iload B dX9_find_48 rfl ?_
    refine r_aload_n B dX9_find_50 rfl rfl ?_
    refine r_getI B (C := RX5) (T := TX5) (N := 4) (hc1.1) 0 rfl win_X5 (by decide) rfl wf_X9_36 dX9_find_51 (jj := 0) rfl ?_
    refine r_icmp_ge B (tgt := 81) dX9_find_54 (by decide) h5 ((hI _ _)) (fun h => ?_) (fun h => ?_)
    · have v := v.1 h
      refine r_iinc B (q := 3) dX9_find_81 (by decide) rfl (lv' := [(4, .int (i2 (x4 + 1))), (0, .ref (eA E 37)), (1, .ref (eA E c1)), (2, .int (i2 x2)), (5, .int (i2 x5))]) rfl ?_
      refine r_sub [1, 2, 3, 0, 4] rfl ?_
      refine r_goto B (tgt := 38) dX9_find_84 (by decide) ?_
      obtain ⟨h28, v⟩ := v
      refine r_sub [0, 1, 2, 3] rfl ?_
      exact k38 (x4 + 1) _ hI h28 v
    · have v := v.2 h
      refine r_aload_n B dX9_find_57 rfl rfl ?_
      refine r_aload_n B dX9_find_58 rfl rfl ?_
      refine r_getR B (C := RX5) (T := TX5) (N := 4) (hc1.1) 1 rfl win_X5 (by decide) rfl wf_X9_40 dX9_find_59 ?_
      refine r_iload B dX9_find_62 rfl ?_
      obtain ⟨h29, v⟩ := v
      refine r_ald B (hc1.2.1) (by decide) h29 dX9_find_64 ?_
      refine r_aload_n B dX9_find_65 rfl rfl ?_
      refine r_aload_n B dX9_find_66 rfl rfl ?_
      refine r_iload B dX9_find_67 rfl ?_
      refine r_cI B (st := [.int (i2 (I (c1 + 1) x5)), .ref (eA E 37)]) (as := [.ref (eA E c1), .int (i2 x5)]) (T := TX9) (N := 1) (c_Wa_priceBy c1 x5 _ hc1 hI h5) v o_37 rfl mw_Wa_priceBy wl_X9_43 ⟨Nat.le_of_ble_eq_true rfl, Nat.le_of_ble_eq_true rfl⟩ rfl rfl (Nat.le_of_ble_eq_true rfl) dX9_find_69 (fun z30 I31 hz30 hI31 v => ?_)
      refine r_cV B (st := []) (as := [.int (i2 (I (c1 + 1) x5)), .int (i2 z30)]) (T := TX9) (N := 1) (c_Wa_lower (I (c1 + 1) x5) z30 _ hI31 ((hI _ _)) hz30) v o_37 rfl mw_Wa_lower wl_X9_46 ⟨Nat.le_of_ble_eq_true rfl, Nat.le_of_ble_eq_true rfl⟩ rfl rfl (Nat.le_of_ble_eq_true rfl) dX9_find_72 (fun I32 hI32 v => ?_)
      refine r_iinc B (q := 4) dX9_find_75 (by decide) rfl (lv' := [(5, .int (i2 (x5 + 1))), (0, .ref (eA E 37)), (1, .ref (eA E c1)), (2, .int (i2 x2)), (4, .int (i2 x4))]) rfl ?_
      refine r_sub [1, 2, 3, 4, 0] rfl ?_
      refine r_goto B (tgt := 48) dX9_find_78 (by decide) ?_
      obtain ⟨h33, v⟩ := v
      refine r_sub [0, 1, 2, 3, 4] rfl ?_
      exact ih (x5 + 1) _ hI32 h33 v
set_option maxHeartbeats 4000000 in
set_option maxRecDepth 100000 in
theorem wL_Wa_find_38 {p : Program} {l : Launch} {e : Env} {s : State} {m : MethodId} {args : Array Value} {below : List Frame} {meth : Method} {c0 : Code} {E : En} {A : Nat → Prop} {c1 : Int} {x2 : Int} {x3 : Int} {Q : Int → Mm → Prop} {K87 : Mm → Prop} (B : Bd p (rmm 2 82) s m args c0 cX9_find 6 RX9 E A 0 0) (hr : meth.sig.returnType = some .int) (hk : meth.locks = false) (hc1 : isRu c1) (h2 : r32 x2) (h3 : r32 x3)  (k87 : ∀ (I : Mm), rgM I → K87 I → WI p l e (rmm 2 82) s m args below meth c0 E A 6 0 0 (qI below E A args s Q) I 87 [(0, .ref (eA E 37)), (1, .ref (eA E c1)), (2, .int (i2 x2))] []) : ∀ (n : Nat) (x4 : Int) (I : Mm), rgM I → r32 x4 → L_Wa_find_38 c1 x2 x3 Q K87 n x4 I → WI p l e (rmm 2 82) s m args below meth c0 E A 6 0 0 (qI below E A args s Q) I 38 [(0, .ref (eA E 37)), (1, .ref (eA E c1)), (2, .int (i2 x2)), (4, .int (i2 x4))] [] := by
  intro n
  induction n with
  | zero => intro x4 I _ _ v; exact absurd v id
  | succ n ih =>
    intro x4 I hI h4 v
    unfold L_Wa_find_38 at v
    refine r_iload B dX9_find_38 rfl ?_
    refine r_bipush B dX9_find_40 (by decide) ?_
    refine r_icmp_ge B (tgt := 87) dX9_find_42 (by decide) h4 ((rg_lit (by decide) (by decide))) (fun h => ?_) (fun h => ?_)
    · have v := v.1 h
      refine r_sub [0, 1, 2] rfl ?_
      exact k87 _ hI v
    · have v := v.2 h
      refine r_iconst B dX9_find_45 ?_
      refine r_istore B dX9_find_46 (by decide) (lv' := [(5, .int (i2 0)), (0, .ref (eA E 37)), (1, .ref (eA E c1)), (2, .int (i2 x2)), (4, .int (i2 x4))]) rfl ?_
      refine r_sub [1, 2, 3, 4, 0] rfl ?_
      obtain ⟨f34, v⟩ := v
      refine r_sub [0, 1, 2, 3, 4] rfl ?_
      exact wL_Wa_find_48 B hr hk hc1 h2 h3 h4 ih f34 0 I hI ((rg_lit (by decide) (by decide))) v
set_option maxHeartbeats 4000000 in
set_option maxRecDepth 100000 in
theorem wL_Wa_find_94 {p : Program} {l : Launch} {e : Env} {s : State} {m : MethodId} {args : Array Value} {below : List Frame} {meth : Method} {c0 : Code} {E : En} {A : Nat → Prop} {c1 : Int} {x2 : Int} {x3 : Int} {Q : Int → Mm → Prop}  (B : Bd p (rmm 2 82) s m args c0 cX9_find 6 RX9 E A 0 0) (hr : meth.sig.returnType = some .int) (hk : meth.locks = false) (hc1 : isRu c1) (h2 : r32 x2) (h3 : r32 x3)   : ∀ (n : Nat) (x4 : Int) (x5 : Int) (I : Mm), rgM I → r32 x4 → r32 x5 → L_Wa_find_94 c1 x2 x3 Q n x4 x5 I → WI p l e (rmm 2 82) s m args below meth c0 E A 6 0 0 (qI below E A args s Q) I 94 [(0, .ref (eA E 37)), (1, .ref (eA E c1)), (2, .int (i2 x2)), (4, .int (i2 x4)), (5, .int (i2 x5))] [] := by
  intro n
  induction n with
  | zero => intro x4 x5 I _ _ _ v; exact absurd v id
  | succ n ih =>
    intro x4 x5 I hI h4 h5 v
    unfold L_Wa_find_94 at v
    refine r_iload B dX9_find_94 rfl ?_
    refine r_aload_n B dX9_find_96 rfl rfl ?_
    refine r_getI B (C := RX5) (T := TX5) (N := 4) (hc1.1) 0 rfl win_X5 (by decide) rfl wf_X9_36 dX9_find_97 (jj := 0) rfl ?_
    refine r_icmp_ge B (tgt := 134) dX9_find_100 (by decide) h5 ((hI _ _)) (fun h => ?_) (fun h => ?_)
    · have v := v.1 h
      refine r_iload B dX9_find_134 rfl ?_
      exact r_iret B hr hk rfl h4 hI v dX9_find_136
    · have v := v.2 h
      refine r_aload_n B dX9_find_103 rfl rfl ?_
      refine r_getR B (C := RX5) (T := TX5) (N := 4) (hc1.1) 1 rfl win_X5 (by decide) rfl wf_X9_40 dX9_find_104 ?_
      refine r_iload B dX9_find_107 rfl ?_
      obtain ⟨h36, v⟩ := v
      refine r_ald B (hc1.2.1) (by decide) h36 dX9_find_109 ?_
      refine r_iload_n B dX9_find_110 rfl rfl ?_
      refine r_icmp_ne B (tgt := 128) dX9_find_111 (by decide) ((hI _ _)) h2 (fun h => ?_) (fun h => ?_)
      · have v := v.1 h
        refine r_iinc B (q := 4) dX9_find_128 (by decide) rfl (lv' := [(5, .int (i2 (x5 + 1))), (0, .ref (eA E 37)), (1, .ref (eA E c1)), (2, .int (i2 x2)), (4, .int (i2 x4))]) rfl ?_
        refine r_sub [1, 2, 3, 4, 0] rfl ?_
        refine r_goto B (tgt := 94) dX9_find_131 (by decide) ?_
        obtain ⟨h37, v⟩ := v
        refine r_sub [0, 1, 2, 3, 4] rfl ?_
        exact ih x4 (x5 + 1) _ hI h4 h37 v
      · have v := v.2 h
        refine r_iload B dX9_find_114 rfl ?_
        refine r_aload_n B dX9_find_116 rfl rfl ?_
        refine r_aload_n B dX9_find_117 rfl rfl ?_
        refine r_iload B dX9_find_118 rfl ?_
        refine r_cI B (st := [.int (i2 x4)]) (as := [.ref (eA E c1), .int (i2 x5)]) (T := TX9) (N := 1) (c_Wa_priceBy c1 x5 _ hc1 hI h5) v o_37 rfl mw_Wa_priceBy wl_X9_43 ⟨Nat.le_of_ble_eq_true rfl, Nat.le_of_ble_eq_true rfl⟩ rfl rfl (Nat.le_of_ble_eq_true rfl) dX9_find_120 (fun z38 I39 hz38 hI39 v => ?_)
        refine r_min B wl_X9_50 ws_r_min wi_Math wd_r_min (Nat.le_of_ble_eq_true rfl) (Nat.le_of_ble_eq_true rfl) h4 hz38 dX9_find_123 ?_
        refine r_istore B dX9_find_126 (by decide) (lv' := [(4, .int (i2 (min x4 z38))), (0, .ref (eA E 37)), (1, .ref (eA E c1)), (2, .int (i2 x2)), (5, .int (i2 x5))]) rfl ?_
        refine r_sub [1, 2, 3, 0, 4] rfl ?_
        refine r_iinc B (q := 4) dX9_find_128 (by decide) rfl (lv' := [(5, .int (i2 (x5 + 1))), (0, .ref (eA E 37)), (1, .ref (eA E c1)), (2, .int (i2 x2)), (4, .int (i2 (min x4 z38)))]) rfl ?_
        refine r_sub [1, 2, 3, 4, 0] rfl ?_
        refine r_goto B (tgt := 94) dX9_find_131 (by decide) ?_
        obtain ⟨h40, v⟩ := v
        refine r_sub [0, 1, 2, 3, 4] rfl ?_
        exact ih (min x4 z38) (x5 + 1) _ hI39 ((rg_min h4 hz38)) h40 v
set_option maxHeartbeats 4000000 in
set_option maxRecDepth 100000 in
theorem c_Wa_find {l : Launch} {E : En} {A : Nat → Prop} (c1 : Int) (x2 : Int) (x3 : Int) (I : Mm) (hc1 : isRu c1) (hI : rgM I) (h2 : r32 x2) (h3 : r32 x3) : CI l E A yX9_find cX9_find 6 .int 2 82 [.ref (eA E 37), .ref (eA E c1), .int (i2 x2), .int (i2 x3)] I (V_Wa_find c1 x2 x3 I) := by
  intro Q v
  refine mk_met (own := RX9) (lv0 := [(0, .ref (eA E 37)), (1, .ref (eA E c1)), (2, .int (i2 x2)), (3, .int (i2 x3))]) (by decide) rfl (Nat.le_of_ble_eq_true rfl) rfl (fun p e s m args below meth c0 B hr hk => ?_)
  unfold V_Wa_find at v
  refine r_iconst B dX9_find_0 ?_
  refine r_istore B dX9_find_1 (by decide) (lv' := [(4, .int (i2 0)), (0, .ref (eA E 37)), (1, .ref (eA E c1)), (2, .int (i2 x2)), (3, .int (i2 x3))]) rfl ?_
  refine r_sub [1, 2, 3, 4, 0] rfl ?_
  obtain ⟨f43, v⟩ := v
  refine r_sub [0, 1, 2, 3, 4] rfl ?_
  refine wL_Wa_find_3 B hr hk hc1 h2 h3 (fun I27 hI27 v => ?_) f43 0 I hI ((rg_lit (by decide) (by decide))) v
  · refine r_iconst B dX9_find_35 ?_
    refine r_istore B dX9_find_36 (by decide) (lv' := [(4, .int (i2 0)), (0, .ref (eA E 37)), (1, .ref (eA E c1)), (2, .int (i2 x2))]) rfl ?_
    refine r_sub [1, 2, 3, 0] rfl ?_
    obtain ⟨f42, v⟩ := v
    refine r_sub [0, 1, 2, 3] rfl ?_
    refine wL_Wa_find_38 B hr hk hc1 h2 h3 (fun I35 hI35 v => ?_) f42 0 I27 hI27 ((rg_lit (by decide) (by decide))) v
    · refine r_ldc B (2000000000) dX9_find_87 wc_X9_19 (by decide) ?_
      refine r_istore B dX9_find_89 (by decide) (lv' := [(4, .int (i2 2000000000)), (0, .ref (eA E 37)), (1, .ref (eA E c1)), (2, .int (i2 x2))]) rfl ?_
      refine r_sub [1, 2, 3, 0] rfl ?_
      refine r_iconst B dX9_find_91 ?_
      refine r_istore B dX9_find_92 (by decide) (lv' := [(5, .int (i2 0)), (0, .ref (eA E 37)), (1, .ref (eA E c1)), (2, .int (i2 x2)), (4, .int (i2 2000000000))]) rfl ?_
      refine r_sub [1, 2, 3, 4, 0] rfl ?_
      obtain ⟨f41, v⟩ := v
      refine r_sub [0, 1, 2, 3, 4] rfl ?_
      exact wL_Wa_find_94 B hr hk hc1 h2 h3 f41 2000000000 0 I35 hI35 ((rg_lit (by decide) (by decide))) ((rg_lit (by decide) (by decide))) v
set_option maxHeartbeats 4000000 in
set_option maxRecDepth 100000 in
theorem c_Wa_hoursOf {l : Launch} {E : En} {A : Nat → Prop} (c1 : Int) (x2 : Int) (x3 : Int) (I : Mm) (hc1 : isRu c1) (hI : rgM I) (h2 : r32 x2) (h3 : r32 x3) : CI l E A yX9_hoursOf cX9_hoursOf 5 .int 3 107 [.ref (eA E 37), .ref (eA E c1), .int (i2 x2), .int (i2 x3)] I (V_Wa_hoursOf c1 x2 x3 I) := by
  intro Q v
  refine mk_met (own := RX9) (lv0 := [(0, .ref (eA E 37)), (1, .ref (eA E c1)), (2, .int (i2 x2)), (3, .int (i2 x3))]) (by decide) rfl (Nat.le_of_ble_eq_true rfl) rfl (fun p e s m args below meth c0 B hr hk => ?_)
  unfold V_Wa_hoursOf at v
  refine r_aload_n B dX9_hoursOf_0 rfl rfl ?_
  refine r_aload_n B dX9_hoursOf_1 rfl rfl ?_
  refine r_iload_n B dX9_hoursOf_2 rfl rfl ?_
  refine r_iload_n B dX9_hoursOf_3 rfl rfl ?_
  refine r_cI B (st := []) (as := [.ref (eA E c1), .int (i2 x2), .int (i2 x3)]) (T := TX9) (N := 1) (c_Wa_find c1 x2 x3 _ hc1 hI h2 h3) v o_37 rfl mw_Wa_find wl_X9_15 ⟨Nat.le_of_ble_eq_true rfl, Nat.le_of_ble_eq_true rfl⟩ rfl rfl (Nat.le_of_ble_eq_true rfl) dX9_hoursOf_4 (fun z21 I22 hz21 hI22 v => ?_)
  refine r_istore B dX9_hoursOf_7 (by decide) (lv' := [(4, .int (i2 z21)), (0, .ref (eA E 37)), (1, .ref (eA E c1)), (2, .int (i2 x2)), (3, .int (i2 x3))]) rfl ?_
  refine r_sub [1, 2, 3, 4, 0] rfl ?_
  refine r_iload B dX9_hoursOf_9 rfl ?_
  refine r_ldc B (2000000000) dX9_hoursOf_11 wc_X9_19 (by decide) ?_
  refine r_icmp_ne B (tgt := 21) dX9_hoursOf_13 (by decide) hz21 ((rg_lit (by decide) (by decide))) (fun h => ?_) (fun h => ?_)
  · have v := v.1 h
    refine r_iload B dX9_hoursOf_21 rfl ?_
    refine r_bipush B dX9_hoursOf_23 (by decide) ?_
    obtain ⟨h23, v⟩ := v
    refine r_idiv B dX9_hoursOf_25 hz21 ((rg_lit (by decide) (by decide))) (show 0 ≤ z21 ∧ (0 : Int) < 32 from ⟨h23, by decide⟩) ?_
    exact r_iret B hr hk rfl ((rg_div hz21 (show 0 ≤ z21 ∧ (0 : Int) < 32 from ⟨h23, by decide⟩).1 (show 0 ≤ z21 ∧ (0 : Int) < 32 from ⟨h23, by decide⟩).2)) hI22 v dX9_hoursOf_26
  · have v := v.2 h
    refine r_bipush B dX9_hoursOf_16 (by decide) ?_
    refine r_goto B (tgt := 26) dX9_hoursOf_18 (by decide) ?_
    exact r_iret B hr hk rfl ((rg_lit (by decide) (by decide))) hI22 v dX9_hoursOf_26
set_option maxHeartbeats 4000000 in
set_option maxRecDepth 100000 in
theorem c_X_soonest {l : Launch} {E : En} {A : Nat → Prop} (x1 : Int) (x2 : Int) (I : Mm)  (hI : rgM I) (h1 : r32 x1) (h2 : r32 x2) : CI l E A yX10_soonest cX10_soonest 3 .int 4 131 [.ref (eA E 0), .int (i2 x1), .int (i2 x2)] I (V_X_soonest x1 x2 I) := by
  intro Q v
  refine mk_met (own := RX10) (lv0 := [(0, .ref (eA E 0)), (1, .int (i2 x1)), (2, .int (i2 x2))]) (by decide) rfl (Nat.le_of_ble_eq_true rfl) rfl (fun p e s m args below meth c0 B hr hk => ?_)
  unfold V_X_soonest at v
  refine r_aload_n B dX10_soonest_0 rfl rfl ?_
  refine r_getR B (C := RX10) (T := TX10) (N := 11) o_0 0 rfl win_X10 (by decide) rfl wf_X10_10 dX10_soonest_1 ?_
  refine r_getR B (C := RX0) (T := TX0) (N := 9) (ca_1.1) 0 rfl win_X0 (by decide) rfl wf_X10_101 dX10_soonest_4 ?_
  refine r_iload_n B dX10_soonest_7 rfl rfl ?_
  refine r_cI B (st := []) (as := [.int (i2 x1)]) (T := TX3) (N := 4) (c_Nm_has (1 + 1) x1 _ (ca_1.2.1) hI h1) v (ca_1.2.1.1) rfl mw_Nm_has wl_X10_118 ⟨Nat.le_of_ble_eq_true rfl, Nat.le_of_ble_eq_true rfl⟩ rfl rfl (Nat.le_of_ble_eq_true rfl) dX10_soonest_8 (fun z21 I22 hz21 hI22 v => ?_)
  refine r_if_eq B (tgt := 28) dX10_soonest_11 (by decide) hz21 (fun h => ?_) (fun h => ?_)
  · have v := v.1 h
    refine r_iconst B dX10_soonest_28 ?_
    exact r_iret B hr hk rfl ((rg_lit (by decide) (by decide))) hI22 v dX10_soonest_29
  · have v := v.2 h
    refine r_aload_n B dX10_soonest_14 rfl rfl ?_
    refine r_getR B (C := RX10) (T := TX10) (N := 11) o_0 0 rfl win_X10 (by decide) rfl wf_X10_10 dX10_soonest_15 ?_
    refine r_getR B (C := RX0) (T := TX0) (N := 9) (ca_1.1) 0 rfl win_X0 (by decide) rfl wf_X10_101 dX10_soonest_18 ?_
    refine r_iload_n B dX10_soonest_21 rfl rfl ?_
    refine r_cI B (st := []) (as := [.int (i2 x2)]) (T := TX3) (N := 4) (c_Nm_has (1 + 1) x2 _ (ca_1.2.1) hI22 h2) v (ca_1.2.1.1) rfl mw_Nm_has wl_X10_118 ⟨Nat.le_of_ble_eq_true rfl, Nat.le_of_ble_eq_true rfl⟩ rfl rfl (Nat.le_of_ble_eq_true rfl) dX10_soonest_22 (fun z23 I24 hz23 hI24 v => ?_)
    refine r_if_ne B (tgt := 30) dX10_soonest_25 (by decide) hz23 (fun h => ?_) (fun h => ?_)
    · have v := v.1 h
      refine r_aload_n B dX10_soonest_30 rfl rfl ?_
      refine r_getR B (C := RX10) (T := TX10) (N := 11) o_0 5 rfl win_X10 (by decide) rfl wf_X10_45 dX10_soonest_31 ?_
      refine r_aload_n B dX10_soonest_34 rfl rfl ?_
      refine r_getR B (C := RX10) (T := TX10) (N := 11) o_0 0 rfl win_X10 (by decide) rfl wf_X10_10 dX10_soonest_35 ?_
      refine r_getR B (C := RX0) (T := TX0) (N := 9) (ca_1.1) 2 rfl win_X0 (by decide) rfl wf_X10_191 dX10_soonest_38 ?_
      refine r_iload_n B dX10_soonest_41 rfl rfl ?_
      refine r_iload_n B dX10_soonest_42 rfl rfl ?_
      refine r_cI B (st := []) (as := [.ref (eA E (1 + 9)), .int (i2 x1), .int (i2 x2)]) (T := TX9) (N := 1) (c_Wa_hoursOf (1 + 9) x1 x2 _ (ca_1.2.2.2.1) hI24 h1 h2) v o_37 rfl mw_Wa_hoursOf wl_X10_311 ⟨Nat.le_of_ble_eq_true rfl, Nat.le_of_ble_eq_true rfl⟩ rfl rfl (Nat.le_of_ble_eq_true rfl) dX10_soonest_43 (fun z25 I26 hz25 hI26 v => ?_)
      exact r_iret B hr hk rfl hz25 hI26 v dX10_soonest_46
    · have v := v.2 h
      refine r_iconst B dX10_soonest_28 ?_
      exact r_iret B hr hk rfl ((rg_lit (by decide) (by decide))) hI24 v dX10_soonest_29
set_option maxHeartbeats 4000000 in
set_option maxRecDepth 100000 in
theorem c_X_leads {l : Launch} {E : En} {A : Nat → Prop} (x1 : Int) (x2 : Int) (I : Mm)  (hI : rgM I) (h1 : r32 x1) (h2 : r32 x2) : CI l E A yX10_leads cX10_leads 4 .int 5 153 [.ref (eA E 0), .int (i2 x1), .int (i2 x2)] I (V_X_leads x1 x2 I) := by
  intro Q v
  refine mk_met (own := RX10) (lv0 := [(0, .ref (eA E 0)), (1, .int (i2 x1)), (2, .int (i2 x2))]) (by decide) rfl (Nat.le_of_ble_eq_true rfl) rfl (fun p e s m args below meth c0 B hr hk => ?_)
  unfold V_X_leads at v
  refine r_aload_n B dX10_leads_0 rfl rfl ?_
  refine r_iload_n B dX10_leads_1 rfl rfl ?_
  refine r_iload_n B dX10_leads_2 rfl rfl ?_
  refine r_cI B (st := []) (as := [.int (i2 x1), .int (i2 x2)]) (T := TX10) (N := 11) (c_X_soonest x1 x2 _ hI h1 h2) v o_0 rfl mw_X_soonest wl_X10_308 ⟨Nat.le_of_ble_eq_true rfl, Nat.le_of_ble_eq_true rfl⟩ rfl rfl (Nat.le_of_ble_eq_true rfl) dX10_leads_3 (fun z21 I22 hz21 hI22 v => ?_)
  refine r_istore_n B dX10_leads_6 rfl (by decide) (lv' := [(3, .int (i2 z21)), (0, .ref (eA E 0)), (1, .int (i2 x1)), (2, .int (i2 x2))]) rfl ?_
  refine r_sub [1, 2, 3, 0] rfl ?_
  refine r_iload_n B dX10_leads_7 rfl rfl ?_
  refine r_iconst B dX10_leads_8 ?_
  refine r_icmp_ne B (tgt := 14) dX10_leads_9 (by decide) hz21 ((rg_lit (by decide) (by decide))) (fun h => ?_) (fun h => ?_)
  · have v := v.1 h
    refine r_iload_n B dX10_leads_14 rfl rfl ?_
    refine r_bipush B dX10_leads_15 (by decide) ?_
    refine r_icmp_ne B (tgt := 24) dX10_leads_17 (by decide) hz21 ((rg_lit (by decide) (by decide))) (fun h => ?_) (fun h => ?_)
    · have v := v.1 h
      refine r_iconst B dX10_leads_24 ?_
      exact r_iret B hr hk rfl ((rg_lit (by decide) (by decide))) hI22 v dX10_leads_25
    · have v := v.2 h
      refine r_iconst B dX10_leads_20 ?_
      refine r_goto B (tgt := 25) dX10_leads_21 (by decide) ?_
      exact r_iret B hr hk rfl ((rg_lit (by decide) (by decide))) hI22 v dX10_leads_25
  · have v := v.2 h
    refine r_iconst B dX10_leads_12 ?_
    exact r_iret B hr hk rfl ((rg_lit (by decide) (by decide))) hI22 v dX10_leads_13
set_option maxHeartbeats 4000000 in
set_option maxRecDepth 100000 in
theorem wL_X_day_38 {p : Program} {l : Launch} {e : Env} {s : State} {m : MethodId} {args : Array Value} {below : List Frame} {meth : Method} {c0 : Code} {E : En} {A : Nat → Prop} {x1 : Int} {x2 : Int} {Q : Int → Mm → Prop}  (B : Bd p (rmm 1 21) s m args c0 cX10_day 5 RX10 E A 0 0) (hr : meth.sig.returnType = some .int) (hk : meth.locks = false) (h1 : r32 x1) (h2 : r32 x2)  : ∀ (n : Nat) (x3 : Int) (x4 : Int) (I : Mm), rgM I → r32 x3 → r32 x4 → L_X_day_38 x1 x2 Q n x3 x4 I → WI p l e (rmm 1 21) s m args below meth c0 E A 5 0 0 (qI below E A args s Q) I 38 [(0, .ref (eA E 0)), (2, .int (i2 x2)), (3, .int (i2 x3)), (4, .int (i2 x4))] [] := by
  intro n
  induction n with
  | zero => intro x3 x4 I _ _ _ v; exact absurd v id
  | succ n ih =>
    intro x3 x4 I hI h3 h4 v
    unfold L_X_day_38 at v
    refine r_iload B dX10_day_38 rfl ?_
    refine r_aload_n B dX10_day_40 rfl rfl ?_
    refine r_getR B (C := RX10) (T := TX10) (N := 11) o_0 0 rfl win_X10 (by decide) rfl wf_X10_10 dX10_day_41 ?_
    refine r_getR B (C := RX0) (T := TX0) (N := 9) (ca_1.1) 1 rfl win_X0 (by decide) rfl wf_X10_89 dX10_day_44 ?_
    refine r_getI B (C := RX8) (T := TX8) (N := 4) (ca_1.2.2.1.1) 0 rfl win_X8 (by decide) rfl wf_X10_93 dX10_day_47 (jj := 0) rfl ?_
    refine r_icmp_ge B (tgt := 89) dX10_day_50 (by decide) h4 ((hI _ _)) (fun h => ?_) (fun h => ?_)
    · have v := v.1 h
      refine r_iload_n B dX10_day_89 rfl rfl ?_
      exact r_iret B hr hk rfl h3 hI v dX10_day_90
    · have v := v.2 h
      refine r_aload_n B dX10_day_53 rfl rfl ?_
      refine r_getR B (C := RX10) (T := TX10) (N := 11) o_0 0 rfl win_X10 (by decide) rfl wf_X10_10 dX10_day_54 ?_
      refine r_getR B (C := RX0) (T := TX0) (N := 9) (ca_1.1) 1 rfl win_X0 (by decide) rfl wf_X10_89 dX10_day_57 ?_
      refine r_getR B (C := RX8) (T := TX8) (N := 4) (ca_1.2.2.1.1) 3 rfl win_X8 (by decide) rfl wf_X10_154 dX10_day_60 ?_
      refine r_iload B dX10_day_63 rfl ?_
      obtain ⟨h23, v⟩ := v
      refine r_ald B (ca_1.2.2.1.2.2.2) (by decide) h23 dX10_day_65 ?_
      refine r_aload_n B dX10_day_66 rfl rfl ?_
      refine r_getR B (C := RX10) (T := TX10) (N := 11) o_0 0 rfl win_X10 (by decide) rfl wf_X10_10 dX10_day_67 ?_
      refine r_getI B (C := RX0) (T := TX0) (N := 9) (ca_1.1) 6 rfl win_X0 (by decide) rfl wf_X10_215 dX10_day_70 (jj := 6) rfl ?_
      refine r_sI B (st := []) (as := [.int (i2 (I (1 + 5 + 3) x4)), .int (i2 (I 1 6))]) (c_X_dayOf (I (1 + 5 + 3) x4) (I 1 6) _ hI ((hI _ _)) ((hI _ _))) v mw_X_dayOf wl_X10_315 ⟨Nat.le_of_ble_eq_true rfl, Nat.le_of_ble_eq_true rfl⟩ rfl rfl (Nat.le_of_ble_eq_true rfl) dX10_day_73 (fun z24 I25 hz24 hI25 v => ?_)
      refine r_iload_n B dX10_day_76 rfl rfl ?_
      refine r_icmp_ne B (tgt := 83) dX10_day_77 (by decide) hz24 h2 (fun h => ?_) (fun h => ?_)
      · have v := v.1 h
        refine r_iinc B (q := 3) dX10_day_83 (by decide) rfl (lv' := [(4, .int (i2 (x4 + 1))), (0, .ref (eA E 0)), (2, .int (i2 x2)), (3, .int (i2 x3))]) rfl ?_
        refine r_sub [1, 2, 3, 0] rfl ?_
        refine r_goto B (tgt := 38) dX10_day_86 (by decide) ?_
        obtain ⟨h26, v⟩ := v
        refine r_sub [0, 1, 2, 3] rfl ?_
        exact ih x3 (x4 + 1) _ hI25 h3 h26 v
      · have v := v.2 h
        refine r_iinc B (q := 2) dX10_day_80 (by decide) rfl (lv' := [(3, .int (i2 (x3 + 1))), (0, .ref (eA E 0)), (2, .int (i2 x2)), (4, .int (i2 x4))]) rfl ?_
        refine r_sub [1, 2, 0, 3] rfl ?_
        refine r_iinc B (q := 3) dX10_day_83 (by decide) rfl (lv' := [(4, .int (i2 (x4 + 1))), (0, .ref (eA E 0)), (2, .int (i2 x2)), (3, .int (i2 (x3 + 1)))]) rfl ?_
        refine r_sub [1, 2, 3, 0] rfl ?_
        refine r_goto B (tgt := 38) dX10_day_86 (by decide) ?_
        obtain ⟨h27, v⟩ := v
        obtain ⟨h28, v⟩ := v
        refine r_sub [0, 1, 2, 3] rfl ?_
        exact ih (x3 + 1) (x4 + 1) _ hI25 h27 h28 v
set_option maxHeartbeats 4000000 in
set_option maxRecDepth 100000 in
theorem c_X_day {l : Launch} {E : En} {A : Nat → Prop} (x1 : Int) (I : Mm)  (hI : rgM I) (h1 : r32 x1) : CI l E A yX10_day cX10_day 5 .int 1 21 [.ref (eA E 0), .int (i2 x1)] I (V_X_day x1 I) := by
  intro Q v
  refine mk_met (own := RX10) (lv0 := [(0, .ref (eA E 0)), (1, .int (i2 x1))]) (by decide) rfl (Nat.le_of_ble_eq_true rfl) rfl (fun p e s m args below meth c0 B hr hk => ?_)
  unfold V_X_day at v
  refine r_iload_n B dX10_day_0 rfl rfl ?_
  refine r_if_lt B (tgt := 11) dX10_day_1 (by decide) h1 (fun h => ?_) (fun h => ?_)
  · have v := v.1 h
    refine r_iconst B dX10_day_11 ?_
    exact r_iret B hr hk rfl ((rg_lit (by decide) (by decide))) hI v dX10_day_12
  · have v := v.2 h
    refine r_iload_n B dX10_day_4 rfl rfl ?_
    refine r_sipush B dX10_day_5 (by decide) ?_
    refine r_icmp_le B (tgt := 13) dX10_day_8 (by decide) h1 ((rg_lit (by decide) (by decide))) (fun h => ?_) (fun h => ?_)
    · have v := v.1 h
      refine r_aload_n B dX10_day_13 rfl rfl ?_
      refine r_getR B (C := RX10) (T := TX10) (N := 11) o_0 0 rfl win_X10 (by decide) rfl wf_X10_10 dX10_day_14 ?_
      refine r_getI B (C := RX0) (T := TX0) (N := 9) (ca_1.1) 7 rfl win_X0 (by decide) rfl wf_X10_125 dX10_day_17 (jj := 7) rfl ?_
      refine r_aload_n B dX10_day_20 rfl rfl ?_
      refine r_getR B (C := RX10) (T := TX10) (N := 11) o_0 0 rfl win_X10 (by decide) rfl wf_X10_10 dX10_day_21 ?_
      refine r_getI B (C := RX0) (T := TX0) (N := 9) (ca_1.1) 6 rfl win_X0 (by decide) rfl wf_X10_215 dX10_day_24 (jj := 6) rfl ?_
      refine r_sI B (st := []) (as := [.int (i2 (I 1 7)), .int (i2 (I 1 6))]) (c_X_dayOf (I 1 7) (I 1 6) _ hI ((hI _ _)) ((hI _ _))) v mw_X_dayOf wl_X10_315 ⟨Nat.le_of_ble_eq_true rfl, Nat.le_of_ble_eq_true rfl⟩ rfl rfl (Nat.le_of_ble_eq_true rfl) dX10_day_27 (fun z21 I22 hz21 hI22 v => ?_)
      refine r_iload_n B dX10_day_30 rfl rfl ?_
      refine r_iadd B dX10_day_31 ?_
      refine r_istore_n B dX10_day_32 rfl (by decide) (lv' := [(2, .int (i2 (z21 + x1))), (0, .ref (eA E 0)), (1, .int (i2 x1))]) rfl ?_
      refine r_sub [1, 2, 0] rfl ?_
      refine r_iconst B dX10_day_33 ?_
      refine r_istore_n B dX10_day_34 rfl (by decide) (lv' := [(3, .int (i2 0)), (0, .ref (eA E 0)), (1, .int (i2 x1)), (2, .int (i2 (z21 + x1)))]) rfl ?_
      refine r_sub [1, 2, 3, 0] rfl ?_
      refine r_iconst B dX10_day_35 ?_
      refine r_istore B dX10_day_36 (by decide) (lv' := [(4, .int (i2 0)), (0, .ref (eA E 0)), (1, .int (i2 x1)), (2, .int (i2 (z21 + x1))), (3, .int (i2 0))]) rfl ?_
      refine r_sub [1, 2, 3, 4, 0] rfl ?_
      obtain ⟨h29, v⟩ := v
      obtain ⟨f30, v⟩ := v
      refine r_sub [0, 2, 3, 4] rfl ?_
      exact wL_X_day_38 B hr hk h1 h29 f30 0 0 I22 hI22 ((rg_lit (by decide) (by decide))) ((rg_lit (by decide) (by decide))) v
    · have v := v.2 h
      refine r_iconst B dX10_day_11 ?_
      exact r_iret B hr hk rfl ((rg_lit (by decide) (by decide))) hI v dX10_day_12
set_option maxHeartbeats 4000000 in
set_option maxRecDepth 100000 in
theorem wL_Th_firstFree_9 {p : Program} {l : Launch} {e : Env} {s : State} {m : MethodId} {args : Array Value} {below : List Frame} {meth : Method} {c0 : Code} {E : En} {A : Nat → Prop} {c : Int} {x1 : Int} {x2 : Int} {Q : Int → Mm → Prop}  (B : Bd p (rmm 2 48) s m args c0 cX8_firstFree 5 RX8 E A 0 0) (hr : meth.sig.returnType = some .int) (hk : meth.locks = false) (hc : isTh c) (h1 : r32 x1) (h2 : r32 x2)   : ∀ (n : Nat) (x3 : Int) (x4 : Int) (I : Mm), rgM I → r32 x3 → r32 x4 → L_Th_firstFree_9 c x1 x2 Q n x3 x4 I → WI p l e (rmm 2 48) s m args below meth c0 E A 5 0 0 (qI below E A args s Q) I 9 [(0, .ref (eA E c)), (1, .int (i2 x1)), (3, .int (i2 x3)), (4, .int (i2 x4))] [] := by
  intro n
  induction n with
  | zero => intro x3 x4 I _ _ _ v; exact absurd v id
  | succ n ih =>
    intro x3 x4 I hI h3 h4 v
    unfold L_Th_firstFree_9 at v
    refine r_iload B dX8_firstFree_9 rfl ?_
    refine r_aload_n B dX8_firstFree_11 rfl rfl ?_
    refine r_getI B (C := RX8) (T := TX8) (N := 4) (hc.1) 0 rfl win_X8 (by decide) rfl wf_X8_21 dX8_firstFree_12 (jj := 0) rfl ?_
    refine r_icmp_ge B (tgt := 47) dX8_firstFree_15 (by decide) h4 ((hI _ _)) (fun h => ?_) (fun h => ?_)
    · have v := v.1 h
      refine r_iload_n B dX8_firstFree_47 rfl rfl ?_
      exact r_iret B hr hk rfl h3 hI v dX8_firstFree_48
    · have v := v.2 h
      refine r_aload_n B dX8_firstFree_18 rfl rfl ?_
      refine r_getR B (C := RX8) (T := TX8) (N := 4) (hc.1) 3 rfl win_X8 (by decide) rfl wf_X8_18 dX8_firstFree_19 ?_
      refine r_iload B dX8_firstFree_22 rfl ?_
      obtain ⟨h23, v⟩ := v
      refine r_ald B (hc.2.2.2) (by decide) h23 dX8_firstFree_24 ?_
      refine r_iload_n B dX8_firstFree_25 rfl rfl ?_
      refine r_isub B dX8_firstFree_26 ?_
      refine r_iload_n B dX8_firstFree_27 rfl rfl ?_
      obtain ⟨h24, v⟩ := v
      refine r_icmp_ge B (tgt := 47) dX8_firstFree_28 (by decide) h24 h1 (fun h => ?_) (fun h => ?_)
      · have v := v.1 h
        refine r_iload_n B dX8_firstFree_47 rfl rfl ?_
        exact r_iret B hr hk rfl h3 hI v dX8_firstFree_48
      · have v := v.2 h
        refine r_aload_n B dX8_firstFree_31 rfl rfl ?_
        refine r_getR B (C := RX8) (T := TX8) (N := 4) (hc.1) 3 rfl win_X8 (by decide) rfl wf_X8_18 dX8_firstFree_32 ?_
        refine r_iload B dX8_firstFree_35 rfl ?_
        obtain ⟨h25, v⟩ := v
        refine r_ald B (hc.2.2.2) (by decide) h25 dX8_firstFree_37 ?_
        refine r_iconst B dX8_firstFree_38 ?_
        refine r_iadd B dX8_firstFree_39 ?_
        refine r_istore_n B dX8_firstFree_40 rfl (by decide) (lv' := [(3, .int (i2 (I (c + 3) x4 + 1))), (0, .ref (eA E c)), (1, .int (i2 x1)), (4, .int (i2 x4))]) rfl ?_
        refine r_sub [1, 2, 0, 3] rfl ?_
        refine r_iinc B (q := 3) dX8_firstFree_41 (by decide) rfl (lv' := [(4, .int (i2 (x4 + 1))), (0, .ref (eA E c)), (1, .int (i2 x1)), (3, .int (i2 (I (c + 3) x4 + 1)))]) rfl ?_
        refine r_sub [1, 2, 3, 0] rfl ?_
        refine r_goto B (tgt := 9) dX8_firstFree_44 (by decide) ?_
        obtain ⟨h26, v⟩ := v
        obtain ⟨h27, v⟩ := v
        refine r_sub [0, 1, 2, 3] rfl ?_
        exact ih (I (c + 3) x4 + 1) (x4 + 1) _ hI h26 h27 v
set_option maxHeartbeats 4000000 in
set_option maxRecDepth 100000 in
theorem c_Th_firstFree {l : Launch} {E : En} {A : Nat → Prop} (c : Int) (x1 : Int) (x2 : Int) (I : Mm) (hc : isTh c) (hI : rgM I) (h1 : r32 x1) (h2 : r32 x2) : CI l E A yX8_firstFree cX8_firstFree 5 .int 2 48 [.ref (eA E c), .int (i2 x1), .int (i2 x2)] I (V_Th_firstFree c x1 x2 I) := by
  intro Q v
  refine mk_met (own := RX8) (lv0 := [(0, .ref (eA E c)), (1, .int (i2 x1)), (2, .int (i2 x2))]) (by decide) rfl (Nat.le_of_ble_eq_true rfl) rfl (fun p e s m args below meth c0 B hr hk => ?_)
  unfold V_Th_firstFree at v
  refine r_iload_n B dX8_firstFree_0 rfl rfl ?_
  refine r_istore_n B dX8_firstFree_1 rfl (by decide) (lv' := [(3, .int (i2 x2)), (0, .ref (eA E c)), (1, .int (i2 x1)), (2, .int (i2 x2))]) rfl ?_
  refine r_sub [1, 2, 3, 0] rfl ?_
  refine r_aload_n B dX8_firstFree_2 rfl rfl ?_
  refine r_iload_n B dX8_firstFree_3 rfl rfl ?_
  refine r_cI B (st := []) (as := [.int (i2 x2)]) (T := TX8) (N := 4) (c_Th_firstFrom c x2 _ hc hI h2) v (hc.1) rfl mw_Th_firstFrom wl_X8_63 ⟨Nat.le_of_ble_eq_true rfl, Nat.le_of_ble_eq_true rfl⟩ rfl rfl (Nat.le_of_ble_eq_true rfl) dX8_firstFree_4 (fun z21 I22 hz21 hI22 v => ?_)
  refine r_istore B dX8_firstFree_7 (by decide) (lv' := [(4, .int (i2 z21)), (0, .ref (eA E c)), (1, .int (i2 x1)), (2, .int (i2 x2)), (3, .int (i2 x2))]) rfl ?_
  refine r_sub [1, 2, 3, 4, 0] rfl ?_
  obtain ⟨f28, v⟩ := v
  refine r_sub [0, 1, 3, 4] rfl ?_
  exact wL_Th_firstFree_9 B hr hk hc h1 h2 f28 x2 z21 I22 hI22 h2 hz21 v
set_option maxHeartbeats 4000000 in
set_option maxRecDepth 100000 in
theorem c_X_free {l : Launch} {E : En} {A : Nat → Prop} (x1 : Int) (x2 : Int) (I : Mm)  (hI : rgM I) (h1 : r32 x1) (h2 : r32 x2) : CI l E A yX10_free cX10_free 4 .int 3 72 [.ref (eA E 0), .int (i2 x1), .int (i2 x2)] I (V_X_free x1 x2 I) := by
  intro Q v
  refine mk_met (own := RX10) (lv0 := [(0, .ref (eA E 0)), (1, .int (i2 x1)), (2, .int (i2 x2))]) (by decide) rfl (Nat.le_of_ble_eq_true rfl) rfl (fun p e s m args below meth c0 B hr hk => ?_)
  unfold V_X_free at v
  refine r_iload_n B dX10_free_0 rfl rfl ?_
  refine r_sI B (st := []) (as := [.int (i2 x1)]) (c_X_isSpan x1 _ hI h1) v mw_X_isSpan wl_X10_302 ⟨Nat.le_of_ble_eq_true rfl, Nat.le_of_ble_eq_true rfl⟩ rfl rfl (Nat.le_of_ble_eq_true rfl) dX10_free_1 (fun z21 I22 hz21 hI22 v => ?_)
  refine r_if_eq B (tgt := 14) dX10_free_4 (by decide) hz21 (fun h => ?_) (fun h => ?_)
  · have v := v.1 h
    refine r_iconst B dX10_free_14 ?_
    exact r_iret B hr hk rfl ((rg_lit (by decide) (by decide))) hI22 v dX10_free_15
  · have v := v.2 h
    refine r_iload_n B dX10_free_7 rfl rfl ?_
    refine r_sI B (st := []) (as := [.int (i2 x2)]) (c_X_isHour x2 _ hI22 h2) v mw_X_isHour wl_X10_122 ⟨Nat.le_of_ble_eq_true rfl, Nat.le_of_ble_eq_true rfl⟩ rfl rfl (Nat.le_of_ble_eq_true rfl) dX10_free_8 (fun z23 I24 hz23 hI24 v => ?_)
    refine r_if_ne B (tgt := 16) dX10_free_11 (by decide) hz23 (fun h => ?_) (fun h => ?_)
    · have v := v.1 h
      refine r_aload_n B dX10_free_16 rfl rfl ?_
      refine r_getR B (C := RX10) (T := TX10) (N := 11) o_0 0 rfl win_X10 (by decide) rfl wf_X10_10 dX10_free_17 ?_
      refine r_getR B (C := RX0) (T := TX0) (N := 9) (ca_1.1) 1 rfl win_X0 (by decide) rfl wf_X10_89 dX10_free_20 ?_
      refine r_iload_n B dX10_free_23 rfl rfl ?_
      refine r_iload_n B dX10_free_24 rfl rfl ?_
      refine r_cI B (st := []) (as := [.int (i2 x1), .int (i2 x2)]) (T := TX8) (N := 4) (c_Th_firstFree (1 + 5) x1 x2 _ (ca_1.2.2.1) hI24 h1 h2) v (ca_1.2.2.1.1) rfl mw_Th_firstFree wl_X10_318 ⟨Nat.le_of_ble_eq_true rfl, Nat.le_of_ble_eq_true rfl⟩ rfl rfl (Nat.le_of_ble_eq_true rfl) dX10_free_25 (fun z25 I26 hz25 hI26 v => ?_)
      refine r_istore_n B dX10_free_28 rfl (by decide) (lv' := [(3, .int (i2 z25)), (0, .ref (eA E 0)), (1, .int (i2 x1)), (2, .int (i2 x2))]) rfl ?_
      refine r_sub [1, 2, 3, 0] rfl ?_
      refine r_iload_n B dX10_free_29 rfl rfl ?_
      refine r_iload_n B dX10_free_30 rfl rfl ?_
      refine r_iadd B dX10_free_31 ?_
      refine r_iconst B dX10_free_32 ?_
      refine r_isub B dX10_free_33 ?_
      refine r_ldc B (999999999) dX10_free_34 wc_X10_175 (by decide) ?_
      obtain ⟨h27, v⟩ := v
      refine r_icmp_le B (tgt := 44) dX10_free_36 (by decide) h27 ((rg_lit (by decide) (by decide))) (fun h => ?_) (fun h => ?_)
      · have v := v.1 h
        refine r_iload_n B dX10_free_44 rfl rfl ?_
        exact r_iret B hr hk rfl hz25 hI26 v dX10_free_45
      · have v := v.2 h
        refine r_bipush B dX10_free_39 (by decide) ?_
        refine r_goto B (tgt := 45) dX10_free_41 (by decide) ?_
        exact r_iret B hr hk rfl ((rg_lit (by decide) (by decide))) hI26 v dX10_free_45
    · have v := v.2 h
      refine r_iconst B dX10_free_14 ?_
      exact r_iret B hr hk rfl ((rg_lit (by decide) (by decide))) hI24 v dX10_free_15
set_option maxHeartbeats 4000000 in
set_option maxRecDepth 100000 in
theorem wL_Th_closest_16 {p : Program} {l : Launch} {e : Env} {s : State} {m : MethodId} {args : Array Value} {below : List Frame} {meth : Method} {c0 : Code} {E : En} {A : Nat → Prop} {c : Int} {Q : Int → Mm → Prop}  (B : Bd p (rmm 1 21) s m args c0 cX8_closest 3 RX8 E A 0 0) (hr : meth.sig.returnType = some .int) (hk : meth.locks = false) (hc : isTh c)   : ∀ (n : Nat) (x1 : Int) (x2 : Int) (I : Mm), rgM I → r32 x1 → r32 x2 → L_Th_closest_16 c Q n x1 x2 I → WI p l e (rmm 1 21) s m args below meth c0 E A 3 0 0 (qI below E A args s Q) I 16 [(0, .ref (eA E c)), (1, .int (i2 x1)), (2, .int (i2 x2))] [] := by
  intro n
  induction n with
  | zero => intro x1 x2 I _ _ _ v; exact absurd v id
  | succ n ih =>
    intro x1 x2 I hI h1 h2 v
    unfold L_Th_closest_16 at v
    refine r_iload_n B dX8_closest_16 rfl rfl ?_
    refine r_iconst B dX8_closest_17 ?_
    refine r_iadd B dX8_closest_18 ?_
    refine r_aload_n B dX8_closest_19 rfl rfl ?_
    refine r_getI B (C := RX8) (T := TX8) (N := 4) (hc.1) 0 rfl win_X8 (by decide) rfl wf_X8_21 dX8_closest_20 (jj := 0) rfl ?_
    obtain ⟨h21, v⟩ := v
    refine r_icmp_ge B (tgt := 47) dX8_closest_23 (by decide) h21 ((hI _ _)) (fun h => ?_) (fun h => ?_)
    · have v := v.1 h
      refine r_iload_n B dX8_closest_47 rfl rfl ?_
      exact r_iret B hr hk rfl h1 hI v dX8_closest_48
    · have v := v.2 h
      refine r_aload_n B dX8_closest_26 rfl rfl ?_
      refine r_iload_n B dX8_closest_27 rfl rfl ?_
      refine r_cI B (st := []) (as := [.int (i2 x2)]) (T := TX8) (N := 4) (c_Th_gapBehind c x2 _ hc hI h2) v (hc.1) rfl mw_Th_gapBehind wl_X8_43 ⟨Nat.le_of_ble_eq_true rfl, Nat.le_of_ble_eq_true rfl⟩ rfl rfl (Nat.le_of_ble_eq_true rfl) dX8_closest_28 (fun z22 I23 hz22 hI23 v => ?_)
      refine r_aload_n B dX8_closest_31 rfl rfl ?_
      refine r_iload_n B dX8_closest_32 rfl rfl ?_
      refine r_cI B (st := [.int (i2 z22)]) (as := [.int (i2 x1)]) (T := TX8) (N := 4) (c_Th_gapBehind c x1 _ hc hI23 h1) v (hc.1) rfl mw_Th_gapBehind wl_X8_43 ⟨Nat.le_of_ble_eq_true rfl, Nat.le_of_ble_eq_true rfl⟩ rfl rfl (Nat.le_of_ble_eq_true rfl) dX8_closest_33 (fun z24 I25 hz24 hI25 v => ?_)
      refine r_icmp_ge B (tgt := 41) dX8_closest_36 (by decide) hz22 hz24 (fun h => ?_) (fun h => ?_)
      · have v := v.1 h
        refine r_iinc B (q := 2) dX8_closest_41 (by decide) rfl (lv' := [(2, .int (i2 (x2 + 1))), (0, .ref (eA E c)), (1, .int (i2 x1))]) rfl ?_
        refine r_sub [1, 2, 0] rfl ?_
        refine r_goto B (tgt := 16) dX8_closest_44 (by decide) ?_
        obtain ⟨h26, v⟩ := v
        refine r_sub [0, 1, 2] rfl ?_
        exact ih x1 (x2 + 1) _ hI25 h1 h26 v
      · have v := v.2 h
        refine r_iload_n B dX8_closest_39 rfl rfl ?_
        refine r_istore_n B dX8_closest_40 rfl (by decide) (lv' := [(1, .int (i2 x2)), (0, .ref (eA E c)), (2, .int (i2 x2))]) rfl ?_
        refine r_sub [1, 0, 2] rfl ?_
        refine r_iinc B (q := 2) dX8_closest_41 (by decide) rfl (lv' := [(2, .int (i2 (x2 + 1))), (0, .ref (eA E c)), (1, .int (i2 x2))]) rfl ?_
        refine r_sub [1, 2, 0] rfl ?_
        refine r_goto B (tgt := 16) dX8_closest_44 (by decide) ?_
        obtain ⟨h27, v⟩ := v
        refine r_sub [0, 1, 2] rfl ?_
        exact ih x2 (x2 + 1) _ hI25 h2 h27 v
set_option maxHeartbeats 4000000 in
set_option maxRecDepth 100000 in
theorem wJ_Th_closest_13 {p : Program} {l : Launch} {e : Env} {s : State} {m : MethodId} {args : Array Value} {below : List Frame} {meth : Method} {c0 : Code} {E : En} {A : Nat → Prop} {c : Int} {Q : Int → Mm → Prop}  (B : Bd p (rmm 1 21) s m args c0 cX8_closest 3 RX8 E A 0 0) (hr : meth.sig.returnType = some .int) (hk : meth.locks = false) (hc : isTh c)   : ∀ (t0 : Int) (I : Mm), rgM I → r32 t0 → J_Th_closest_13 c Q t0 I → WI p l e (rmm 1 21) s m args below meth c0 E A 3 0 0 (qI below E A args s Q) I 13 [(0, .ref (eA E c))] [.int (i2 t0)] := by
  intro t0 I hI ht0 v
  unfold J_Th_closest_13 at v
  refine r_istore_n B dX8_closest_13 rfl (by decide) (lv' := [(1, .int (i2 t0)), (0, .ref (eA E c))]) rfl ?_
  refine r_sub [1, 0] rfl ?_
  refine r_iconst B dX8_closest_14 ?_
  refine r_istore_n B dX8_closest_15 rfl (by decide) (lv' := [(2, .int (i2 1)), (0, .ref (eA E c)), (1, .int (i2 t0))]) rfl ?_
  refine r_sub [1, 2, 0] rfl ?_
  obtain ⟨f28, v⟩ := v
  refine r_sub [0, 1, 2] rfl ?_
  exact wL_Th_closest_16 B hr hk hc f28 t0 1 I hI ht0 ((rg_lit (by decide) (by decide))) v
set_option maxHeartbeats 4000000 in
set_option maxRecDepth 100000 in
theorem c_Th_closest {l : Launch} {E : En} {A : Nat → Prop} (c : Int) (I : Mm) (hc : isTh c) (hI : rgM I)  : CI l E A yX8_closest cX8_closest 3 .int 1 21 [.ref (eA E c)] I (V_Th_closest c I) := by
  intro Q v
  refine mk_met (own := RX8) (lv0 := [(0, .ref (eA E c))]) (by decide) rfl (Nat.le_of_ble_eq_true rfl) rfl (fun p e s m args below meth c0 B hr hk => ?_)
  unfold V_Th_closest at v
  refine r_aload_n B dX8_closest_0 rfl rfl ?_
  refine r_getI B (C := RX8) (T := TX8) (N := 4) (hc.1) 0 rfl win_X8 (by decide) rfl wf_X8_21 dX8_closest_1 (jj := 0) rfl ?_
  refine r_iconst B dX8_closest_4 ?_
  refine r_icmp_ge B (tgt := 12) dX8_closest_5 (by decide) ((hI _ _)) ((rg_lit (by decide) (by decide))) (fun h => ?_) (fun h => ?_)
  · have v := v.1 h
    refine r_iconst B dX8_closest_12 ?_
    refine r_sub [0] rfl ?_
    exact wJ_Th_closest_13 B hr hk hc 0 I hI ((rg_lit (by decide) (by decide))) v
  · have v := v.2 h
    refine r_iconst B dX8_closest_8 ?_
    refine r_goto B (tgt := 13) dX8_closest_9 (by decide) ?_
    refine r_sub [0] rfl ?_
    exact wJ_Th_closest_13 B hr hk hc (-1) I hI ((rg_lit (by decide) (by decide))) v
set_option maxHeartbeats 4000000 in
set_option maxRecDepth 100000 in
theorem c_X_pair {l : Launch} {E : En} {A : Nat → Prop} (x1 : Int) (I : Mm)  (hI : rgM I) (h1 : r32 x1) : CI l E A yX10_pair cX10_pair 3 .int 2 43 [.ref (eA E 0), .int (i2 x1)] I (V_X_pair x1 I) := by
  intro Q v
  refine mk_met (own := RX10) (lv0 := [(0, .ref (eA E 0)), (1, .int (i2 x1))]) (by decide) rfl (Nat.le_of_ble_eq_true rfl) rfl (fun p e s m args below meth c0 B hr hk => ?_)
  unfold V_X_pair at v
  refine r_iload_n B dX10_pair_0 rfl rfl ?_
  refine r_if_lt B (tgt := 9) dX10_pair_1 (by decide) h1 (fun h => ?_) (fun h => ?_)
  · have v := v.1 h
    refine r_iconst B dX10_pair_9 ?_
    exact r_iret B hr hk rfl ((rg_lit (by decide) (by decide))) hI v dX10_pair_10
  · have v := v.2 h
    refine r_iload_n B dX10_pair_4 rfl rfl ?_
    refine r_iconst B dX10_pair_5 ?_
    refine r_icmp_le B (tgt := 11) dX10_pair_6 (by decide) h1 ((rg_lit (by decide) (by decide))) (fun h => ?_) (fun h => ?_)
    · have v := v.1 h
      refine r_aload_n B dX10_pair_11 rfl rfl ?_
      refine r_getR B (C := RX10) (T := TX10) (N := 11) o_0 0 rfl win_X10 (by decide) rfl wf_X10_10 dX10_pair_12 ?_
      refine r_getR B (C := RX0) (T := TX0) (N := 9) (ca_1.1) 1 rfl win_X0 (by decide) rfl wf_X10_89 dX10_pair_15 ?_
      refine r_cI B (st := []) (as := []) (T := TX8) (N := 4) (c_Th_closest (1 + 5) _ (ca_1.2.2.1) hI ) v (ca_1.2.2.1.1) rfl mw_Th_closest wl_X10_321 ⟨Nat.le_of_ble_eq_true rfl, Nat.le_of_ble_eq_true rfl⟩ rfl rfl (Nat.le_of_ble_eq_true rfl) dX10_pair_18 (fun z21 I22 hz21 hI22 v => ?_)
      refine r_istore_n B dX10_pair_21 rfl (by decide) (lv' := [(2, .int (i2 z21)), (0, .ref (eA E 0)), (1, .int (i2 x1))]) rfl ?_
      refine r_sub [1, 2, 0] rfl ?_
      refine r_iload_n B dX10_pair_22 rfl rfl ?_
      refine r_iconst B dX10_pair_23 ?_
      refine r_icmp_ne B (tgt := 30) dX10_pair_24 (by decide) hz21 ((rg_lit (by decide) (by decide))) (fun h => ?_) (fun h => ?_)
      · have v := v.1 h
        refine r_iload_n B dX10_pair_30 rfl rfl ?_
        refine r_if_ne B (tgt := 48) dX10_pair_31 (by decide) h1 (fun h => ?_) (fun h => ?_)
        · have v := v.1 h
          refine r_aload_n B dX10_pair_48 rfl rfl ?_
          refine r_getR B (C := RX10) (T := TX10) (N := 11) o_0 0 rfl win_X10 (by decide) rfl wf_X10_10 dX10_pair_49 ?_
          refine r_getR B (C := RX0) (T := TX0) (N := 9) (ca_1.1) 1 rfl win_X0 (by decide) rfl wf_X10_89 dX10_pair_52 ?_
          refine r_getR B (C := RX8) (T := TX8) (N := 4) (ca_1.2.2.1.1) 1 rfl win_X8 (by decide) rfl wf_X10_232 dX10_pair_55 ?_
          refine r_iload_n B dX10_pair_58 rfl rfl ?_
          obtain ⟨h23, v⟩ := v
          refine r_ald B (ca_1.2.2.1.2.1) (by decide) h23 dX10_pair_59 ?_
          exact r_iret B hr hk rfl ((hI22 _ _)) hI22 v dX10_pair_60
        · have v := v.2 h
          refine r_aload_n B dX10_pair_34 rfl rfl ?_
          refine r_getR B (C := RX10) (T := TX10) (N := 11) o_0 0 rfl win_X10 (by decide) rfl wf_X10_10 dX10_pair_35 ?_
          refine r_getR B (C := RX0) (T := TX0) (N := 9) (ca_1.1) 1 rfl win_X0 (by decide) rfl wf_X10_89 dX10_pair_38 ?_
          refine r_iload_n B dX10_pair_41 rfl rfl ?_
          refine r_cI B (st := []) (as := [.int (i2 z21)]) (T := TX8) (N := 4) (c_Th_gapBehind (1 + 5) z21 _ (ca_1.2.2.1) hI22 hz21) v (ca_1.2.2.1.1) rfl mw_Th_gapBehind wl_X10_324 ⟨Nat.le_of_ble_eq_true rfl, Nat.le_of_ble_eq_true rfl⟩ rfl rfl (Nat.le_of_ble_eq_true rfl) dX10_pair_42 (fun z24 I25 hz24 hI25 v => ?_)
          refine r_goto B (tgt := 60) dX10_pair_45 (by decide) ?_
          exact r_iret B hr hk rfl hz24 hI25 v dX10_pair_60
      · have v := v.2 h
        refine r_bipush B dX10_pair_27 (by decide) ?_
        exact r_iret B hr hk rfl ((rg_lit (by decide) (by decide))) hI22 v dX10_pair_29
    · have v := v.2 h
      refine r_iconst B dX10_pair_9 ?_
      exact r_iret B hr hk rfl ((rg_lit (by decide) (by decide))) hI v dX10_pair_10
set_option maxHeartbeats 4000000 in
set_option maxRecDepth 100000 in
theorem wL_X_when_40 {p : Program} {l : Launch} {e : Env} {s : State} {m : MethodId} {args : Array Value} {below : List Frame} {meth : Method} {c0 : Code} {E : En} {A : Nat → Prop} {x1 : Int} {x2 : Int} {Q : Int → Mm → Prop}  (B : Bd p (rmm 5 157) s m args c0 cX10_when 4 RX10 E A 0 0) (hr : meth.sig.returnType = some .int) (hk : meth.locks = false) (h1 : r32 x1) (h2 : r32 x2)   : ∀ (n : Nat) (x3 : Int) (I : Mm), rgM I → r32 x3 → L_X_when_40 x1 x2 Q n x3 I → WI p l e (rmm 5 157) s m args below meth c0 E A 4 0 0 (qI below E A args s Q) I 40 [(0, .ref (eA E 0)), (1, .int (i2 x1)), (2, .int (i2 x2)), (3, .int (i2 x3))] [] := by
  intro n
  induction n with
  | zero => intro x3 I _ _ v; exact absurd v id
  | succ n ih =>
    intro x3 I hI h3 v
    unfold L_X_when_40 at v
    refine r_iload_n B dX10_when_40 rfl rfl ?_
    refine r_sipush B dX10_when_41 (by decide) ?_
    refine r_icmp_ge B (tgt := 90) dX10_when_44 (by decide) h3 ((rg_lit (by decide) (by decide))) (fun h => ?_) (fun h => ?_)
    · have v := v.1 h
      refine r_bipush B dX10_when_90 (by decide) ?_
      exact r_iret B hr hk rfl ((rg_lit (by decide) (by decide))) hI v dX10_when_92
    · have v := v.2 h
      refine r_aload_n B dX10_when_47 rfl rfl ?_
      refine r_getR B (C := RX10) (T := TX10) (N := 11) o_0 1 rfl win_X10 (by decide) rfl wf_X10_16 dX10_when_48 ?_
      refine r_getR B (C := RX0) (T := TX0) (N := 9) (ca_17.1) 1 rfl win_X0 (by decide) rfl wf_X10_89 dX10_when_51 ?_
      refine r_getI B (C := RX8) (T := TX8) (N := 4) (ca_17.2.2.1.1) 0 rfl win_X8 (by decide) rfl wf_X10_93 dX10_when_54 (jj := 0) rfl ?_
      refine r_if_le B (tgt := 90) dX10_when_57 (by decide) ((hI _ _)) (fun h => ?_) (fun h => ?_)
      · have v := v.1 h
        refine r_bipush B dX10_when_90 (by decide) ?_
        exact r_iret B hr hk rfl ((rg_lit (by decide) (by decide))) hI v dX10_when_92
      · have v := v.2 h
        refine r_aload_n B dX10_when_60 rfl rfl ?_
        refine r_getR B (C := RX10) (T := TX10) (N := 11) o_0 1 rfl win_X10 (by decide) rfl wf_X10_16 dX10_when_61 ?_
        refine r_cV B (st := []) (as := []) (T := TX0) (N := 9) (c_Ca_takeFirst 17 _ ca_17 hI ) v (ca_17.1) rfl mw_Ca_takeFirst wl_X10_327 ⟨Nat.le_of_ble_eq_true rfl, Nat.le_of_ble_eq_true rfl⟩ rfl rfl (Nat.le_of_ble_eq_true rfl) dX10_when_64 (fun I24 hI24 v => ?_)
        refine r_aload_n B dX10_when_67 rfl rfl ?_
        refine r_iload_n B dX10_when_68 rfl rfl ?_
        refine r_cI B (st := []) (as := [.int (i2 x1)]) (T := TX10) (N := 11) (c_X_takenInTrial x1 _ hI24 h1) v o_0 rfl mw_X_takenInTrial wl_X10_305 ⟨Nat.le_of_ble_eq_true rfl, Nat.le_of_ble_eq_true rfl⟩ rfl rfl (Nat.le_of_ble_eq_true rfl) dX10_when_69 (fun z25 I26 hz25 hI26 v => ?_)
        refine r_iload_n B dX10_when_72 rfl rfl ?_
        refine r_icmp_lt B (tgt := 84) dX10_when_73 (by decide) hz25 h2 (fun h => ?_) (fun h => ?_)
        · have v := v.1 h
          refine r_iinc B (q := 3) dX10_when_84 (by decide) rfl (lv' := [(3, .int (i2 (x3 + 1))), (0, .ref (eA E 0)), (1, .int (i2 x1)), (2, .int (i2 x2))]) rfl ?_
          refine r_sub [1, 2, 3, 0] rfl ?_
          refine r_goto B (tgt := 40) dX10_when_87 (by decide) ?_
          obtain ⟨h27, v⟩ := v
          refine r_sub [0, 1, 2, 3] rfl ?_
          exact ih (x3 + 1) _ hI26 h27 v
        · have v := v.2 h
          refine r_aload_n B dX10_when_76 rfl rfl ?_
          refine r_getR B (C := RX10) (T := TX10) (N := 11) o_0 1 rfl win_X10 (by decide) rfl wf_X10_16 dX10_when_77 ?_
          refine r_getI B (C := RX0) (T := TX0) (N := 9) (ca_17.1) 7 rfl win_X0 (by decide) rfl wf_X10_125 dX10_when_80 (jj := 7) rfl ?_
          exact r_iret B hr hk rfl ((hI26 _ _)) hI26 v dX10_when_83
set_option maxHeartbeats 4000000 in
set_option maxRecDepth 100000 in
theorem c_X_when {l : Launch} {E : En} {A : Nat → Prop} (x1 : Int) (x2 : Int) (I : Mm)  (hI : rgM I) (h1 : r32 x1) (h2 : r32 x2) : CI l E A yX10_when cX10_when 4 .int 5 157 [.ref (eA E 0), .int (i2 x1), .int (i2 x2)] I (V_X_when x1 x2 I) := by
  intro Q v
  refine mk_met (own := RX10) (lv0 := [(0, .ref (eA E 0)), (1, .int (i2 x1)), (2, .int (i2 x2))]) (by decide) rfl (Nat.le_of_ble_eq_true rfl) rfl (fun p e s m args below meth c0 B hr hk => ?_)
  unfold V_X_when at v
  refine r_aload_n B dX10_when_0 rfl rfl ?_
  refine r_getR B (C := RX10) (T := TX10) (N := 11) o_0 0 rfl win_X10 (by decide) rfl wf_X10_10 dX10_when_1 ?_
  refine r_getR B (C := RX0) (T := TX0) (N := 9) (ca_1.1) 0 rfl win_X0 (by decide) rfl wf_X10_101 dX10_when_4 ?_
  refine r_iload_n B dX10_when_7 rfl rfl ?_
  refine r_cI B (st := []) (as := [.int (i2 x1)]) (T := TX3) (N := 4) (c_Nm_has (1 + 1) x1 _ (ca_1.2.1) hI h1) v (ca_1.2.1.1) rfl mw_Nm_has wl_X10_118 ⟨Nat.le_of_ble_eq_true rfl, Nat.le_of_ble_eq_true rfl⟩ rfl rfl (Nat.le_of_ble_eq_true rfl) dX10_when_8 (fun z21 I22 hz21 hI22 v => ?_)
  refine r_if_eq B (tgt := 25) dX10_when_11 (by decide) hz21 (fun h => ?_) (fun h => ?_)
  · have v := v.1 h
    refine r_iconst B dX10_when_25 ?_
    exact r_iret B hr hk rfl ((rg_lit (by decide) (by decide))) hI22 v dX10_when_26
  · have v := v.2 h
    refine r_iload_n B dX10_when_14 rfl rfl ?_
    refine r_iconst B dX10_when_15 ?_
    refine r_icmp_lt B (tgt := 25) dX10_when_16 (by decide) h2 ((rg_lit (by decide) (by decide))) (fun h => ?_) (fun h => ?_)
    · have v := v.1 h
      refine r_iconst B dX10_when_25 ?_
      exact r_iret B hr hk rfl ((rg_lit (by decide) (by decide))) hI22 v dX10_when_26
    · have v := v.2 h
      refine r_iload_n B dX10_when_19 rfl rfl ?_
      refine r_bipush B dX10_when_20 (by decide) ?_
      refine r_icmp_le B (tgt := 27) dX10_when_22 (by decide) h2 ((rg_lit (by decide) (by decide))) (fun h => ?_) (fun h => ?_)
      · have v := v.1 h
        refine r_aload_n B dX10_when_27 rfl rfl ?_
        refine r_getR B (C := RX10) (T := TX10) (N := 11) o_0 1 rfl win_X10 (by decide) rfl wf_X10_16 dX10_when_28 ?_
        refine r_aload_n B dX10_when_31 rfl rfl ?_
        refine r_getR B (C := RX10) (T := TX10) (N := 11) o_0 0 rfl win_X10 (by decide) rfl wf_X10_10 dX10_when_32 ?_
        refine r_cV B (st := []) (as := [.ref (eA E 1)]) (T := TX0) (N := 9) (c_Ca_copyFrom 17 1 _ ca_17 ca_1 hI22 ) v (ca_17.1) rfl mw_Ca_copyFrom wl_X10_82 ⟨Nat.le_of_ble_eq_true rfl, Nat.le_of_ble_eq_true rfl⟩ rfl rfl (Nat.le_of_ble_eq_true rfl) dX10_when_35 (fun I23 hI23 v => ?_)
        refine r_iconst B dX10_when_38 ?_
        refine r_istore_n B dX10_when_39 rfl (by decide) (lv' := [(3, .int (i2 0)), (0, .ref (eA E 0)), (1, .int (i2 x1)), (2, .int (i2 x2))]) rfl ?_
        refine r_sub [1, 2, 3, 0] rfl ?_
        obtain ⟨f28, v⟩ := v
        refine r_sub [0, 1, 2, 3] rfl ?_
        exact wL_X_when_40 B hr hk h1 h2 f28 0 I23 hI23 ((rg_lit (by decide) (by decide))) v
      · have v := v.2 h
        refine r_iconst B dX10_when_25 ?_
        exact r_iret B hr hk rfl ((rg_lit (by decide) (by decide))) hI22 v dX10_when_26
set_option maxHeartbeats 4000000 in
set_option maxRecDepth 100000 in
theorem wL_Th_isLike_15 {p : Program} {l : Launch} {e : Env} {s : State} {m : MethodId} {args : Array Value} {below : List Frame} {meth : Method} {c0 : Code} {E : En} {A : Nat → Prop} {c : Int} {c1 : Int} {Q : Int → Mm → Prop}  (B : Bd p (rmm 0 0) s m args c0 cX8_isLike 3 RX8 E A 0 0) (hr : meth.sig.returnType = some .boolean) (hk : meth.locks = false) (hc : isTh c) (hc1 : isTh c1)   : ∀ (n : Nat) (x2 : Int) (I : Mm), rgM I → r32 x2 → L_Th_isLike_15 c c1 Q n x2 I → WI p l e (rmm 0 0) s m args below meth c0 E A 3 0 0 (qI below E A args s Q) I 15 [(0, .ref (eA E c)), (1, .ref (eA E c1)), (2, .int (i2 x2))] [] := by
  intro n
  induction n with
  | zero => intro x2 I _ _ v; exact absurd v id
  | succ n ih =>
    intro x2 I hI h2 v
    unfold L_Th_isLike_15 at v
    refine r_iload_n B dX8_isLike_15 rfl rfl ?_
    refine r_aload_n B dX8_isLike_16 rfl rfl ?_
    refine r_getI B (C := RX8) (T := TX8) (N := 4) (hc.1) 0 rfl win_X8 (by decide) rfl wf_X8_21 dX8_isLike_17 (jj := 0) rfl ?_
    refine r_icmp_ge B (tgt := 76) dX8_isLike_20 (by decide) h2 ((hI _ _)) (fun h => ?_) (fun h => ?_)
    · have v := v.1 h
      refine r_iconst B dX8_isLike_76 ?_
      exact r_iret B hr hk rfl ((rg_lit (by decide) (by decide))) hI v dX8_isLike_77
    · have v := v.2 h
      refine r_aload_n B dX8_isLike_23 rfl rfl ?_
      refine r_getR B (C := RX8) (T := TX8) (N := 4) (hc.1) 1 rfl win_X8 (by decide) rfl wf_X8_9 dX8_isLike_24 ?_
      refine r_iload_n B dX8_isLike_27 rfl rfl ?_
      obtain ⟨h21, v⟩ := v
      refine r_ald B (hc.2.1) (by decide) h21 dX8_isLike_28 ?_
      refine r_aload_n B dX8_isLike_29 rfl rfl ?_
      refine r_getR B (C := RX8) (T := TX8) (N := 4) (hc1.1) 1 rfl win_X8 (by decide) rfl wf_X8_9 dX8_isLike_30 ?_
      refine r_iload_n B dX8_isLike_33 rfl rfl ?_
      obtain ⟨h22, v⟩ := v
      refine r_ald B (hc1.2.1) (by decide) h22 dX8_isLike_34 ?_
      refine r_icmp_ne B (tgt := 68) dX8_isLike_35 (by decide) ((hI _ _)) ((hI _ _)) (fun h => ?_) (fun h => ?_)
      · have v := v.1 h
        refine r_iconst B dX8_isLike_68 ?_
        exact r_iret B hr hk rfl ((rg_lit (by decide) (by decide))) hI v dX8_isLike_69
      · have v := v.2 h
        refine r_aload_n B dX8_isLike_38 rfl rfl ?_
        refine r_getR B (C := RX8) (T := TX8) (N := 4) (hc.1) 2 rfl win_X8 (by decide) rfl wf_X8_15 dX8_isLike_39 ?_
        refine r_iload_n B dX8_isLike_42 rfl rfl ?_
        obtain ⟨h23, v⟩ := v
        refine r_ald B (hc.2.2.1) (by decide) h23 dX8_isLike_43 ?_
        refine r_aload_n B dX8_isLike_44 rfl rfl ?_
        refine r_getR B (C := RX8) (T := TX8) (N := 4) (hc1.1) 2 rfl win_X8 (by decide) rfl wf_X8_15 dX8_isLike_45 ?_
        refine r_iload_n B dX8_isLike_48 rfl rfl ?_
        obtain ⟨h24, v⟩ := v
        refine r_ald B (hc1.2.2.1) (by decide) h24 dX8_isLike_49 ?_
        refine r_icmp_ne B (tgt := 68) dX8_isLike_50 (by decide) ((hI _ _)) ((hI _ _)) (fun h => ?_) (fun h => ?_)
        · have v := v.1 h
          refine r_iconst B dX8_isLike_68 ?_
          exact r_iret B hr hk rfl ((rg_lit (by decide) (by decide))) hI v dX8_isLike_69
        · have v := v.2 h
          refine r_aload_n B dX8_isLike_53 rfl rfl ?_
          refine r_getR B (C := RX8) (T := TX8) (N := 4) (hc.1) 3 rfl win_X8 (by decide) rfl wf_X8_18 dX8_isLike_54 ?_
          refine r_iload_n B dX8_isLike_57 rfl rfl ?_
          obtain ⟨h25, v⟩ := v
          refine r_ald B (hc.2.2.2) (by decide) h25 dX8_isLike_58 ?_
          refine r_aload_n B dX8_isLike_59 rfl rfl ?_
          refine r_getR B (C := RX8) (T := TX8) (N := 4) (hc1.1) 3 rfl win_X8 (by decide) rfl wf_X8_18 dX8_isLike_60 ?_
          refine r_iload_n B dX8_isLike_63 rfl rfl ?_
          obtain ⟨h26, v⟩ := v
          refine r_ald B (hc1.2.2.2) (by decide) h26 dX8_isLike_64 ?_
          refine r_icmp_eq B (tgt := 70) dX8_isLike_65 (by decide) ((hI _ _)) ((hI _ _)) (fun h => ?_) (fun h => ?_)
          · have v := v.1 h
            refine r_iinc B (q := 2) dX8_isLike_70 (by decide) rfl (lv' := [(2, .int (i2 (x2 + 1))), (0, .ref (eA E c)), (1, .ref (eA E c1))]) rfl ?_
            refine r_sub [1, 2, 0] rfl ?_
            refine r_goto B (tgt := 15) dX8_isLike_73 (by decide) ?_
            obtain ⟨h27, v⟩ := v
            refine r_sub [0, 1, 2] rfl ?_
            exact ih (x2 + 1) _ hI h27 v
          · have v := v.2 h
            refine r_iconst B dX8_isLike_68 ?_
            exact r_iret B hr hk rfl ((rg_lit (by decide) (by decide))) hI v dX8_isLike_69
set_option maxHeartbeats 4000000 in
set_option maxRecDepth 100000 in
theorem c_Th_isLike {l : Launch} {E : En} {A : Nat → Prop} (c : Int) (c1 : Int) (I : Mm) (hc : isTh c) (hc1 : isTh c1) (hI : rgM I)  : CI l E A yX8_isLike cX8_isLike 3 .boolean 0 0 [.ref (eA E c), .ref (eA E c1)] I (V_Th_isLike c c1 I) := by
  intro Q v
  refine mk_met (own := RX8) (lv0 := [(0, .ref (eA E c)), (1, .ref (eA E c1))]) (by decide) rfl (Nat.le_of_ble_eq_true rfl) rfl (fun p e s m args below meth c0 B hr hk => ?_)
  unfold V_Th_isLike at v
  refine r_aload_n B dX8_isLike_0 rfl rfl ?_
  refine r_getI B (C := RX8) (T := TX8) (N := 4) (hc.1) 0 rfl win_X8 (by decide) rfl wf_X8_21 dX8_isLike_1 (jj := 0) rfl ?_
  refine r_aload_n B dX8_isLike_4 rfl rfl ?_
  refine r_getI B (C := RX8) (T := TX8) (N := 4) (hc1.1) 0 rfl win_X8 (by decide) rfl wf_X8_21 dX8_isLike_5 (jj := 0) rfl ?_
  refine r_icmp_eq B (tgt := 13) dX8_isLike_8 (by decide) ((hI _ _)) ((hI _ _)) (fun h => ?_) (fun h => ?_)
  · have v := v.1 h
    refine r_iconst B dX8_isLike_13 ?_
    refine r_istore_n B dX8_isLike_14 rfl (by decide) (lv' := [(2, .int (i2 0)), (0, .ref (eA E c)), (1, .ref (eA E c1))]) rfl ?_
    refine r_sub [1, 2, 0] rfl ?_
    obtain ⟨f28, v⟩ := v
    refine r_sub [0, 1, 2] rfl ?_
    exact wL_Th_isLike_15 B hr hk hc hc1 f28 0 I hI ((rg_lit (by decide) (by decide))) v
  · have v := v.2 h
    refine r_iconst B dX8_isLike_11 ?_
    exact r_iret B hr hk rfl ((rg_lit (by decide) (by decide))) hI v dX8_isLike_12
set_option maxHeartbeats 4000000 in
set_option maxRecDepth 100000 in
theorem wL_Ru_isLike_15 {p : Program} {l : Launch} {e : Env} {s : State} {m : MethodId} {args : Array Value} {below : List Frame} {meth : Method} {c0 : Code} {E : En} {A : Nat → Prop} {c : Int} {c1 : Int} {Q : Int → Mm → Prop}  (B : Bd p (rmm 0 0) s m args c0 cX5_isLike 4 RX5 E A 0 0) (hr : meth.sig.returnType = some .boolean) (hk : meth.locks = false) (hc : isRu c) (hc1 : isRu c1)   : ∀ (n : Nat) (x2 : Int) (I : Mm), rgM I → r32 x2 → L_Ru_isLike_15 c c1 Q n x2 I → WI p l e (rmm 0 0) s m args below meth c0 E A 4 0 0 (qI below E A args s Q) I 15 [(0, .ref (eA E c)), (1, .ref (eA E c1)), (2, .int (i2 x2))] [] := by
  intro n
  induction n with
  | zero => intro x2 I _ _ v; exact absurd v id
  | succ n ih =>
    intro x2 I hI h2 v
    unfold L_Ru_isLike_15 at v
    refine r_iload_n B dX5_isLike_15 rfl rfl ?_
    refine r_aload_n B dX5_isLike_16 rfl rfl ?_
    refine r_getI B (C := RX5) (T := TX5) (N := 4) (hc.1) 0 rfl win_X5 (by decide) rfl wf_X5_21 dX5_isLike_17 (jj := 0) rfl ?_
    refine r_icmp_ge B (tgt := 86) dX5_isLike_20 (by decide) h2 ((hI _ _)) (fun h => ?_) (fun h => ?_)
    · have v := v.1 h
      refine r_iconst B dX5_isLike_86 ?_
      exact r_iret B hr hk rfl ((rg_lit (by decide) (by decide))) hI v dX5_isLike_87
    · have v := v.2 h
      refine r_aload_n B dX5_isLike_23 rfl rfl ?_
      refine r_getR B (C := RX5) (T := TX5) (N := 4) (hc.1) 1 rfl win_X5 (by decide) rfl wf_X5_9 dX5_isLike_24 ?_
      refine r_iload_n B dX5_isLike_27 rfl rfl ?_
      obtain ⟨h21, v⟩ := v
      refine r_ald B (hc.2.1) (by decide) h21 dX5_isLike_28 ?_
      refine r_aload_n B dX5_isLike_29 rfl rfl ?_
      refine r_getR B (C := RX5) (T := TX5) (N := 4) (hc1.1) 1 rfl win_X5 (by decide) rfl wf_X5_9 dX5_isLike_30 ?_
      refine r_iload_n B dX5_isLike_33 rfl rfl ?_
      obtain ⟨h22, v⟩ := v
      refine r_ald B (hc1.2.1) (by decide) h22 dX5_isLike_34 ?_
      refine r_icmp_ne B (tgt := 72) dX5_isLike_35 (by decide) ((hI _ _)) ((hI _ _)) (fun h => ?_) (fun h => ?_)
      · have v := v.1 h
        refine r_iconst B dX5_isLike_72 ?_
        refine r_istore_n B dX5_isLike_73 rfl (by decide) (lv' := [(3, .int (i2 0)), (0, .ref (eA E c)), (1, .ref (eA E c1)), (2, .int (i2 x2))]) rfl ?_
        refine r_sub [1, 2, 3, 0] rfl ?_
        refine r_iload_n B dX5_isLike_74 rfl rfl ?_
        refine r_if_ne B (tgt := 80) dX5_isLike_75 (by decide) ((rg_lit (by decide) (by decide))) (fun h => absurd h (by decide)) (fun _ => ?_)
        refine r_iconst B dX5_isLike_78 ?_
        exact r_iret B hr hk rfl ((rg_lit (by decide) (by decide))) hI v dX5_isLike_79
      · have v := v.2 h
        refine r_aload_n B dX5_isLike_38 rfl rfl ?_
        refine r_getR B (C := RX5) (T := TX5) (N := 4) (hc.1) 2 rfl win_X5 (by decide) rfl wf_X5_15 dX5_isLike_39 ?_
        refine r_iload_n B dX5_isLike_42 rfl rfl ?_
        obtain ⟨h23, v⟩ := v
        refine r_ald B (hc.2.2.1) (by decide) h23 dX5_isLike_43 ?_
        refine r_aload_n B dX5_isLike_44 rfl rfl ?_
        refine r_getR B (C := RX5) (T := TX5) (N := 4) (hc1.1) 2 rfl win_X5 (by decide) rfl wf_X5_15 dX5_isLike_45 ?_
        refine r_iload_n B dX5_isLike_48 rfl rfl ?_
        obtain ⟨h24, v⟩ := v
        refine r_ald B (hc1.2.2.1) (by decide) h24 dX5_isLike_49 ?_
        refine r_icmp_ne B (tgt := 72) dX5_isLike_50 (by decide) ((hI _ _)) ((hI _ _)) (fun h => ?_) (fun h => ?_)
        · have v := v.1 h
          refine r_iconst B dX5_isLike_72 ?_
          refine r_istore_n B dX5_isLike_73 rfl (by decide) (lv' := [(3, .int (i2 0)), (0, .ref (eA E c)), (1, .ref (eA E c1)), (2, .int (i2 x2))]) rfl ?_
          refine r_sub [1, 2, 3, 0] rfl ?_
          refine r_iload_n B dX5_isLike_74 rfl rfl ?_
          refine r_if_ne B (tgt := 80) dX5_isLike_75 (by decide) ((rg_lit (by decide) (by decide))) (fun h => absurd h (by decide)) (fun _ => ?_)
          refine r_iconst B dX5_isLike_78 ?_
          exact r_iret B hr hk rfl ((rg_lit (by decide) (by decide))) hI v dX5_isLike_79
        · have v := v.2 h
          refine r_aload_n B dX5_isLike_53 rfl rfl ?_
          refine r_getR B (C := RX5) (T := TX5) (N := 4) (hc.1) 3 rfl win_X5 (by decide) rfl wf_X5_18 dX5_isLike_54 ?_
          refine r_iload_n B dX5_isLike_57 rfl rfl ?_
          obtain ⟨h25, v⟩ := v
          refine r_ald B (hc.2.2.2) (by decide) h25 dX5_isLike_58 ?_
          refine r_aload_n B dX5_isLike_59 rfl rfl ?_
          refine r_getR B (C := RX5) (T := TX5) (N := 4) (hc1.1) 3 rfl win_X5 (by decide) rfl wf_X5_18 dX5_isLike_60 ?_
          refine r_iload_n B dX5_isLike_63 rfl rfl ?_
          obtain ⟨h26, v⟩ := v
          refine r_ald B (hc1.2.2.2) (by decide) h26 dX5_isLike_64 ?_
          refine r_icmp_ne B (tgt := 72) dX5_isLike_65 (by decide) ((hI _ _)) ((hI _ _)) (fun h => ?_) (fun h => ?_)
          · have v := v.1 h
            refine r_iconst B dX5_isLike_72 ?_
            refine r_istore_n B dX5_isLike_73 rfl (by decide) (lv' := [(3, .int (i2 0)), (0, .ref (eA E c)), (1, .ref (eA E c1)), (2, .int (i2 x2))]) rfl ?_
            refine r_sub [1, 2, 3, 0] rfl ?_
            refine r_iload_n B dX5_isLike_74 rfl rfl ?_
            refine r_if_ne B (tgt := 80) dX5_isLike_75 (by decide) ((rg_lit (by decide) (by decide))) (fun h => absurd h (by decide)) (fun _ => ?_)
            refine r_iconst B dX5_isLike_78 ?_
            exact r_iret B hr hk rfl ((rg_lit (by decide) (by decide))) hI v dX5_isLike_79
          · have v := v.2 h
            refine r_iconst B dX5_isLike_68 ?_
            refine r_goto B (tgt := 73) dX5_isLike_69 (by decide) ?_
            refine r_istore_n B dX5_isLike_73 rfl (by decide) (lv' := [(3, .int (i2 1)), (0, .ref (eA E c)), (1, .ref (eA E c1)), (2, .int (i2 x2))]) rfl ?_
            refine r_sub [1, 2, 3, 0] rfl ?_
            refine r_iload_n B dX5_isLike_74 rfl rfl ?_
            refine r_if_ne B (tgt := 80) dX5_isLike_75 (by decide) ((rg_lit (by decide) (by decide))) (fun _ => ?_) (fun h => absurd h (by decide))
            refine r_iinc B (q := 2) dX5_isLike_80 (by decide) rfl (lv' := [(2, .int (i2 (x2 + 1))), (0, .ref (eA E c)), (1, .ref (eA E c1)), (3, .int (i2 1))]) rfl ?_
            refine r_sub [1, 2, 0, 3] rfl ?_
            refine r_goto B (tgt := 15) dX5_isLike_83 (by decide) ?_
            obtain ⟨h27, v⟩ := v
            refine r_sub [0, 1, 2] rfl ?_
            exact ih (x2 + 1) _ hI h27 v
set_option maxHeartbeats 4000000 in
set_option maxRecDepth 100000 in
theorem c_Ru_isLike {l : Launch} {E : En} {A : Nat → Prop} (c : Int) (c1 : Int) (I : Mm) (hc : isRu c) (hc1 : isRu c1) (hI : rgM I)  : CI l E A yX5_isLike cX5_isLike 4 .boolean 0 0 [.ref (eA E c), .ref (eA E c1)] I (V_Ru_isLike c c1 I) := by
  intro Q v
  refine mk_met (own := RX5) (lv0 := [(0, .ref (eA E c)), (1, .ref (eA E c1))]) (by decide) rfl (Nat.le_of_ble_eq_true rfl) rfl (fun p e s m args below meth c0 B hr hk => ?_)
  unfold V_Ru_isLike at v
  refine r_aload_n B dX5_isLike_0 rfl rfl ?_
  refine r_getI B (C := RX5) (T := TX5) (N := 4) (hc.1) 0 rfl win_X5 (by decide) rfl wf_X5_21 dX5_isLike_1 (jj := 0) rfl ?_
  refine r_aload_n B dX5_isLike_4 rfl rfl ?_
  refine r_getI B (C := RX5) (T := TX5) (N := 4) (hc1.1) 0 rfl win_X5 (by decide) rfl wf_X5_21 dX5_isLike_5 (jj := 0) rfl ?_
  refine r_icmp_eq B (tgt := 13) dX5_isLike_8 (by decide) ((hI _ _)) ((hI _ _)) (fun h => ?_) (fun h => ?_)
  · have v := v.1 h
    refine r_iconst B dX5_isLike_13 ?_
    refine r_istore_n B dX5_isLike_14 rfl (by decide) (lv' := [(2, .int (i2 0)), (0, .ref (eA E c)), (1, .ref (eA E c1))]) rfl ?_
    refine r_sub [1, 2, 0] rfl ?_
    obtain ⟨f28, v⟩ := v
    refine r_sub [0, 1, 2] rfl ?_
    exact wL_Ru_isLike_15 B hr hk hc hc1 f28 0 I hI ((rg_lit (by decide) (by decide))) v
  · have v := v.2 h
    refine r_iconst B dX5_isLike_11 ?_
    exact r_iret B hr hk rfl ((rg_lit (by decide) (by decide))) hI v dX5_isLike_12
