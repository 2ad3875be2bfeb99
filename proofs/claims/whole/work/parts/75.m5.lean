set_option maxHeartbeats 4000000 in
set_option maxRecDepth 100000 in
theorem wL_M_take_32 {p : Program} {l : Launch} {e : Env} {s : State} {m : MethodId} {args : Array Value} {below : List Frame} {meth : Method} {c0 : Code} {E : En} {A : Nat → Prop} {x1 : Int} {Q : Int → Mm → Prop}  (B : Bd p (rmm 7 162) s m args c0 cX11_take 4 RX11 E A 0 0) (hr : meth.sig.returnType = some .int) (hk : meth.locks = false) (h1 : r32 x1)   : ∀ (n : Nat) (x2 : Int) (I : Mm), rgM I → r32 x2 → L_M_take_32 x1 Q n x2 I → WI p l e (rmm 7 162) s m args below meth c0 E A 4 0 0 (qI below E A args s Q) I 32 [(0, .ref (eA E 236)), (1, .int (i2 x1)), (2, .int (i2 x2))] [] := by
  intro n
  induction n with
  | zero => intro x2 I _ _ v; exact absurd v id
  | succ n ih =>
    intro x2 I hI h2 v
    unfold L_M_take_32 at v
    refine r_iload_n B dX11_take_32 rfl rfl ?_
    refine r_iload_n B dX11_take_33 rfl rfl ?_
    refine r_icmp_ge B (tgt := 57) dX11_take_34 (by decide) h2 h1 (fun h => ?_) (fun h => ?_)
    · have v := v.1 h
      refine r_iload_n B dX11_take_57 rfl rfl ?_
      exact r_iret B hr hk rfl h2 hI v dX11_take_58
    · have v := v.2 h
      refine r_aload_n B dX11_take_37 rfl rfl ?_
      refine r_getR B (C := RX11) (T := TX11) (N := 25) o_236 0 rfl win_X11 (by decide) rfl wf_X11_7 dX11_take_38 ?_
      refine r_iconst B dX11_take_41 ?_
      refine r_ald B a_237 (by decide) (by decide) dX11_take_42 ?_
      refine r_if_le B (tgt := 57) dX11_take_43 (by decide) ((hI _ _)) (fun h => ?_) (fun h => ?_)
      · have v := v.1 h
        refine r_iload_n B dX11_take_57 rfl rfl ?_
        exact r_iret B hr hk rfl h2 hI v dX11_take_58
      · have v := v.2 h
        refine r_aload_n B dX11_take_46 rfl rfl ?_
        refine r_cI B (st := []) (as := []) (T := TX11) (N := 25) (c_M_takes _ hI ) v o_236 rfl mw_M_takes wl_X11_122 ⟨Nat.le_of_ble_eq_true rfl, Nat.le_of_ble_eq_true rfl⟩ rfl rfl (Nat.le_of_ble_eq_true rfl) dX11_take_47 (fun z24 I25 hz24 hI25 v => ?_)
        refine r_istore_n B dX11_take_50 rfl (by decide) (lv' := [(3, .int (i2 z24)), (0, .ref (eA E 236)), (1, .int (i2 x1)), (2, .int (i2 x2))]) rfl ?_
        refine r_sub [1, 2, 3, 0] rfl ?_
        refine r_iinc B (q := 2) dX11_take_51 (by decide) rfl (lv' := [(2, .int (i2 (x2 + 1))), (0, .ref (eA E 236)), (1, .int (i2 x1)), (3, .int (i2 z24))]) rfl ?_
        refine r_sub [1, 2, 0, 3] rfl ?_
        refine r_goto B (tgt := 32) dX11_take_54 (by decide) ?_
        obtain ⟨h26, v⟩ := v
        refine r_sub [0, 1, 2] rfl ?_
        exact ih (x2 + 1) _ hI25 h26 v
set_option maxHeartbeats 4000000 in
set_option maxRecDepth 100000 in
theorem c_M_take {l : Launch} {E : En} {A : Nat → Prop} (x1 : Int) (I : Mm)  (hI : rgM I) (h1 : r32 x1) : CI l E A yX11_take cX11_take 4 .int 7 162 [.ref (eA E 236), .int (i2 x1)] I (V_M_take x1 I) := by
  intro Q v
  refine mk_met (own := RX11) (lv0 := [(0, .ref (eA E 236)), (1, .int (i2 x1))]) (by decide) rfl (Nat.le_of_ble_eq_true rfl) rfl (fun p e s m args below meth c0 B hr hk => ?_)
  unfold V_M_take at v
  refine r_iload_n B dX11_take_0 rfl rfl ?_
  refine r_i2l B dX11_take_1 h1 ?_
  refine r_lconst B 1 dX11_take_2 (by decide) ?_
  refine r_ldc2 B (99) dX11_take_3 wc_X11_120 (by decide) ?_
  refine r_sI B (st := []) (as := [.long (l2 x1), .long (l2 1), .long (l2 99)]) (c_M_in x1 1 99 _ hI ((rg_64 h1)) ((show r64 (1) by exact ⟨by decide, by decide⟩)) ((show r64 (99) by exact ⟨by decide, by decide⟩))) v mw_M_in wl_X11_55 ⟨Nat.le_of_ble_eq_true rfl, Nat.le_of_ble_eq_true rfl⟩ rfl rfl (Nat.le_of_ble_eq_true rfl) dX11_take_6 (fun z21 I22 hz21 hI22 v => ?_)
  refine r_if_ne B (tgt := 14) dX11_take_9 (by decide) hz21 (fun h => ?_) (fun h => ?_)
  · have v := v.1 h
    refine r_aload_n B dX11_take_14 rfl rfl ?_
    refine r_getR B (C := RX11) (T := TX11) (N := 25) o_236 0 rfl win_X11 (by decide) rfl wf_X11_7 dX11_take_15 ?_
    refine r_iconst B dX11_take_18 ?_
    refine r_ald B a_237 (by decide) (by decide) dX11_take_19 ?_
    refine r_if_ne B (tgt := 26) dX11_take_20 (by decide) ((hI22 _ _)) (fun h => ?_) (fun h => ?_)
    · have v := v.1 h
      refine r_aload_n B dX11_take_26 rfl rfl ?_
      refine r_cV B (st := []) (as := []) (T := TX11) (N := 25) (c_M_keepsAct _ hI22 ) v o_236 rfl mw_M_keepsAct wl_X11_117 ⟨Nat.le_of_ble_eq_true rfl, Nat.le_of_ble_eq_true rfl⟩ rfl rfl (Nat.le_of_ble_eq_true rfl) dX11_take_27 (fun I23 hI23 v => ?_)
      refine r_iconst B dX11_take_30 ?_
      refine r_istore_n B dX11_take_31 rfl (by decide) (lv' := [(2, .int (i2 0)), (0, .ref (eA E 236)), (1, .int (i2 x1))]) rfl ?_
      refine r_sub [1, 2, 0] rfl ?_
      obtain ⟨f27, v⟩ := v
      refine r_sub [0, 1, 2] rfl ?_
      exact wL_M_take_32 B hr hk h1 f27 0 I23 hI23 ((rg_lit (by decide) (by decide))) v
    · have v := v.2 h
      refine r_bipush B dX11_take_23 (by decide) ?_
      exact r_iret B hr hk rfl ((rg_lit (by decide) (by decide))) hI22 v dX11_take_25
  · have v := v.2 h
    refine r_iconst B dX11_take_12 ?_
    exact r_iret B hr hk rfl ((rg_lit (by decide) (by decide))) hI22 v dX11_take_13
set_option maxHeartbeats 4000000 in
set_option maxRecDepth 100000 in
theorem wL_M_until_44 {p : Program} {l : Launch} {e : Env} {s : State} {m : MethodId} {args : Array Value} {below : List Frame} {meth : Method} {c0 : Code} {E : En} {A : Nat → Prop} {x1 : Int} {Q : Int → Mm → Prop}  (B : Bd p (rmm 7 162) s m args c0 cX11_until 4 RX11 E A 0 0) (hr : meth.sig.returnType = some .int) (hk : meth.locks = false) (h1 : r32 x1)   : ∀ (n : Nat) (x2 : Int) (I : Mm), rgM I → r32 x2 → L_M_until_44 x1 Q n x2 I → WI p l e (rmm 7 162) s m args below meth c0 E A 4 0 0 (qI below E A args s Q) I 44 [(0, .ref (eA E 236)), (1, .int (i2 x1)), (2, .int (i2 x2))] [] := by
  intro n
  induction n with
  | zero => intro x2 I _ _ v; exact absurd v id
  | succ n ih =>
    intro x2 I hI h2 v
    unfold L_M_until_44 at v
    refine r_iload_n B dX11_until_44 rfl rfl ?_
    refine r_sipush B dX11_until_45 (by decide) ?_
    refine r_icmp_ge B (tgt := 83) dX11_until_48 (by decide) h2 ((rg_lit (by decide) (by decide))) (fun h => ?_) (fun h => ?_)
    · have v := v.1 h
      refine r_iload_n B dX11_until_83 rfl rfl ?_
      exact r_iret B hr hk rfl h2 hI v dX11_until_84
    · have v := v.2 h
      refine r_aload_n B dX11_until_51 rfl rfl ?_
      refine r_getR B (C := RX11) (T := TX11) (N := 25) o_236 0 rfl win_X11 (by decide) rfl wf_X11_7 dX11_until_52 ?_
      refine r_iconst B dX11_until_55 ?_
      refine r_ald B a_237 (by decide) (by decide) dX11_until_56 ?_
      refine r_if_le B (tgt := 83) dX11_until_57 (by decide) ((hI _ _)) (fun h => ?_) (fun h => ?_)
      · have v := v.1 h
        refine r_iload_n B dX11_until_83 rfl rfl ?_
        exact r_iret B hr hk rfl h2 hI v dX11_until_84
      · have v := v.2 h
        refine r_aload_n B dX11_until_60 rfl rfl ?_
        refine r_getR B (C := RX11) (T := TX11) (N := 25) o_236 0 rfl win_X11 (by decide) rfl wf_X11_7 dX11_until_61 ?_
        refine r_sipush B dX11_until_64 (by decide) ?_
        refine r_ald B a_237 (by decide) (by decide) dX11_until_67 ?_
        refine r_iload_n B dX11_until_68 rfl rfl ?_
        refine r_icmp_gt B (tgt := 83) dX11_until_69 (by decide) ((hI _ _)) h1 (fun h => ?_) (fun h => ?_)
        · have v := v.1 h
          refine r_iload_n B dX11_until_83 rfl rfl ?_
          exact r_iret B hr hk rfl h2 hI v dX11_until_84
        · have v := v.2 h
          refine r_aload_n B dX11_until_72 rfl rfl ?_
          refine r_cI B (st := []) (as := []) (T := TX11) (N := 25) (c_M_takes _ hI ) v o_236 rfl mw_M_takes wl_X11_122 ⟨Nat.le_of_ble_eq_true rfl, Nat.le_of_ble_eq_true rfl⟩ rfl rfl (Nat.le_of_ble_eq_true rfl) dX11_until_73 (fun z24 I25 hz24 hI25 v => ?_)
          refine r_istore_n B dX11_until_76 rfl (by decide) (lv' := [(3, .int (i2 z24)), (0, .ref (eA E 236)), (1, .int (i2 x1)), (2, .int (i2 x2))]) rfl ?_
          refine r_sub [1, 2, 3, 0] rfl ?_
          refine r_iinc B (q := 2) dX11_until_77 (by decide) rfl (lv' := [(2, .int (i2 (x2 + 1))), (0, .ref (eA E 236)), (1, .int (i2 x1)), (3, .int (i2 z24))]) rfl ?_
          refine r_sub [1, 2, 0, 3] rfl ?_
          refine r_goto B (tgt := 44) dX11_until_80 (by decide) ?_
          obtain ⟨h26, v⟩ := v
          refine r_sub [0, 1, 2] rfl ?_
          exact ih (x2 + 1) _ hI25 h26 v
set_option maxHeartbeats 4000000 in
set_option maxRecDepth 100000 in
theorem c_M_until {l : Launch} {E : En} {A : Nat → Prop} (x1 : Int) (I : Mm)  (hI : rgM I) (h1 : r32 x1) : CI l E A yX11_until cX11_until 4 .int 7 162 [.ref (eA E 236), .int (i2 x1)] I (V_M_until x1 I) := by
  intro Q v
  refine mk_met (own := RX11) (lv0 := [(0, .ref (eA E 236)), (1, .int (i2 x1))]) (by decide) rfl (Nat.le_of_ble_eq_true rfl) rfl (fun p e s m args below meth c0 B hr hk => ?_)
  unfold V_M_until at v
  refine r_iload_n B dX11_until_0 rfl rfl ?_
  refine r_i2l B dX11_until_1 h1 ?_
  refine r_lconst B 0 dX11_until_2 (by decide) ?_
  refine r_ldc2 B (999999999) dX11_until_3 wc_X11_115 (by decide) ?_
  refine r_sI B (st := []) (as := [.long (l2 x1), .long (l2 0), .long (l2 999999999)]) (c_M_in x1 0 999999999 _ hI ((rg_64 h1)) ((show r64 (0) by exact ⟨by decide, by decide⟩)) ((show r64 (999999999) by exact ⟨by decide, by decide⟩))) v mw_M_in wl_X11_55 ⟨Nat.le_of_ble_eq_true rfl, Nat.le_of_ble_eq_true rfl⟩ rfl rfl (Nat.le_of_ble_eq_true rfl) dX11_until_6 (fun z21 I22 hz21 hI22 v => ?_)
  refine r_if_ne B (tgt := 14) dX11_until_9 (by decide) hz21 (fun h => ?_) (fun h => ?_)
  · have v := v.1 h
    refine r_aload_n B dX11_until_14 rfl rfl ?_
    refine r_getR B (C := RX11) (T := TX11) (N := 25) o_236 0 rfl win_X11 (by decide) rfl wf_X11_7 dX11_until_15 ?_
    refine r_iconst B dX11_until_18 ?_
    refine r_ald B a_237 (by decide) (by decide) dX11_until_19 ?_
    refine r_if_eq B (tgt := 35) dX11_until_20 (by decide) ((hI22 _ _)) (fun h => ?_) (fun h => ?_)
    · have v := v.1 h
      refine r_bipush B dX11_until_35 (by decide) ?_
      exact r_iret B hr hk rfl ((rg_lit (by decide) (by decide))) hI22 v dX11_until_37
    · have v := v.2 h
      refine r_aload_n B dX11_until_23 rfl rfl ?_
      refine r_getR B (C := RX11) (T := TX11) (N := 25) o_236 0 rfl win_X11 (by decide) rfl wf_X11_7 dX11_until_24 ?_
      refine r_sipush B dX11_until_27 (by decide) ?_
      refine r_ald B a_237 (by decide) (by decide) dX11_until_30 ?_
      refine r_iload_n B dX11_until_31 rfl rfl ?_
      refine r_icmp_le B (tgt := 38) dX11_until_32 (by decide) ((hI22 _ _)) h1 (fun h => ?_) (fun h => ?_)
      · have v := v.1 h
        refine r_aload_n B dX11_until_38 rfl rfl ?_
        refine r_cV B (st := []) (as := []) (T := TX11) (N := 25) (c_M_keepsAct _ hI22 ) v o_236 rfl mw_M_keepsAct wl_X11_117 ⟨Nat.le_of_ble_eq_true rfl, Nat.le_of_ble_eq_true rfl⟩ rfl rfl (Nat.le_of_ble_eq_true rfl) dX11_until_39 (fun I23 hI23 v => ?_)
        refine r_iconst B dX11_until_42 ?_
        refine r_istore_n B dX11_until_43 rfl (by decide) (lv' := [(2, .int (i2 0)), (0, .ref (eA E 236)), (1, .int (i2 x1))]) rfl ?_
        refine r_sub [1, 2, 0] rfl ?_
        obtain ⟨f27, v⟩ := v
        refine r_sub [0, 1, 2] rfl ?_
        exact wL_M_until_44 B hr hk h1 f27 0 I23 hI23 ((rg_lit (by decide) (by decide))) v
      · have v := v.2 h
        refine r_bipush B dX11_until_35 (by decide) ?_
        exact r_iret B hr hk rfl ((rg_lit (by decide) (by decide))) hI22 v dX11_until_37
  · have v := v.2 h
    refine r_iconst B dX11_until_12 ?_
    exact r_iret B hr hk rfl ((rg_lit (by decide) (by decide))) hI22 v dX11_until_13
set_option maxHeartbeats 4000000 in
set_option maxRecDepth 100000 in
theorem wL_M_placeOf_2 {p : Program} {l : Launch} {e : Env} {s : State} {m : MethodId} {args : Array Value} {below : List Frame} {meth : Method} {c0 : Code} {E : En} {A : Nat → Prop} {x1 : Int} {Q : Int → Mm → Prop}  (B : Bd p (rmm 0 0) s m args c0 cX11_placeOf 3 RX11 E A 0 0) (hr : meth.sig.returnType = some .int) (hk : meth.locks = false) (h1 : r32 x1)   : ∀ (n : Nat) (x2 : Int) (I : Mm), rgM I → r32 x2 → L_M_placeOf_2 x1 Q n x2 I → WI p l e (rmm 0 0) s m args below meth c0 E A 3 0 0 (qI below E A args s Q) I 2 [(0, .ref (eA E 236)), (1, .int (i2 x1)), (2, .int (i2 x2))] [] := by
  intro n
  induction n with
  | zero => intro x2 I _ _ v; exact absurd v id
  | succ n ih =>
    intro x2 I hI h2 v
    unfold L_M_placeOf_2 at v
    refine r_iload_n B dX11_placeOf_2 rfl rfl ?_
    refine r_aload_n B dX11_placeOf_3 rfl rfl ?_
    refine r_getR B (C := RX11) (T := TX11) (N := 25) o_236 0 rfl win_X11 (by decide) rfl wf_X11_7 dX11_placeOf_4 ?_
    refine r_iconst B dX11_placeOf_7 ?_
    refine r_ald B a_237 (by decide) (by decide) dX11_placeOf_8 ?_
    refine r_icmp_ge B (tgt := 34) dX11_placeOf_9 (by decide) h2 ((hI _ _)) (fun h => ?_) (fun h => ?_)
    · have v := v.1 h
      refine r_iconst B dX11_placeOf_34 ?_
      exact r_iret B hr hk rfl ((rg_lit (by decide) (by decide))) hI v dX11_placeOf_35
    · have v := v.2 h
      refine r_aload_n B dX11_placeOf_12 rfl rfl ?_
      refine r_getR B (C := RX11) (T := TX11) (N := 25) o_236 0 rfl win_X11 (by decide) rfl wf_X11_7 dX11_placeOf_13 ?_
      refine r_sipush B dX11_placeOf_16 (by decide) ?_
      refine r_iload_n B dX11_placeOf_19 rfl rfl ?_
      refine r_iadd B dX11_placeOf_20 ?_
      obtain ⟨h21, v⟩ := v
      refine r_ald B a_237 (by decide) h21 dX11_placeOf_21 ?_
      refine r_iload_n B dX11_placeOf_22 rfl rfl ?_
      refine r_icmp_ne B (tgt := 28) dX11_placeOf_23 (by decide) ((hI _ _)) h1 (fun h => ?_) (fun h => ?_)
      · have v := v.1 h
        refine r_iinc B (q := 2) dX11_placeOf_28 (by decide) rfl (lv' := [(2, .int (i2 (x2 + 1))), (0, .ref (eA E 236)), (1, .int (i2 x1))]) rfl ?_
        refine r_sub [1, 2, 0] rfl ?_
        refine r_goto B (tgt := 2) dX11_placeOf_31 (by decide) ?_
        obtain ⟨h22, v⟩ := v
        refine r_sub [0, 1, 2] rfl ?_
        exact ih (x2 + 1) _ hI h22 v
      · have v := v.2 h
        refine r_iload_n B dX11_placeOf_26 rfl rfl ?_
        exact r_iret B hr hk rfl h2 hI v dX11_placeOf_27
set_option maxHeartbeats 4000000 in
set_option maxRecDepth 100000 in
theorem c_M_placeOf {l : Launch} {E : En} {A : Nat → Prop} (x1 : Int) (I : Mm)  (hI : rgM I) (h1 : r32 x1) : CI l E A yX11_placeOf cX11_placeOf 3 .int 0 0 [.ref (eA E 236), .int (i2 x1)] I (V_M_placeOf x1 I) := by
  intro Q v
  refine mk_met (own := RX11) (lv0 := [(0, .ref (eA E 236)), (1, .int (i2 x1))]) (by decide) rfl (Nat.le_of_ble_eq_true rfl) rfl (fun p e s m args below meth c0 B hr hk => ?_)
  unfold V_M_placeOf at v
  refine r_iconst B dX11_placeOf_0 ?_
  refine r_istore_n B dX11_placeOf_1 rfl (by decide) (lv' := [(2, .int (i2 0)), (0, .ref (eA E 236)), (1, .int (i2 x1))]) rfl ?_
  refine r_sub [1, 2, 0] rfl ?_
  obtain ⟨f23, v⟩ := v
  refine r_sub [0, 1, 2] rfl ?_
  exact wL_M_placeOf_2 B hr hk h1 f23 0 I hI ((rg_lit (by decide) (by decide))) v
set_option maxHeartbeats 4000000 in
set_option maxRecDepth 100000 in
theorem c_M_cancel {l : Launch} {E : En} {A : Nat → Prop} (x1 : Int) (I : Mm)  (hI : rgM I) (h1 : r32 x1) : CI l E A yX11_cancel cX11_cancel 3 .int 4 91 [.ref (eA E 236), .int (i2 x1)] I (V_M_cancel x1 I) := by
  intro Q v
  refine mk_met (own := RX11) (lv0 := [(0, .ref (eA E 236)), (1, .int (i2 x1))]) (by decide) rfl (Nat.le_of_ble_eq_true rfl) rfl (fun p e s m args below meth c0 B hr hk => ?_)
  unfold V_M_cancel at v
  refine r_aload_n B dX11_cancel_0 rfl rfl ?_
  refine r_iload_n B dX11_cancel_1 rfl rfl ?_
  refine r_cI B (st := []) (as := [.int (i2 x1)]) (T := TX11) (N := 25) (c_M_placeOf x1 _ hI h1) v o_236 rfl mw_M_placeOf wl_X11_125 ⟨Nat.le_of_ble_eq_true rfl, Nat.le_of_ble_eq_true rfl⟩ rfl rfl (Nat.le_of_ble_eq_true rfl) dX11_cancel_2 (fun z21 I22 hz21 hI22 v => ?_)
  refine r_istore_n B dX11_cancel_5 rfl (by decide) (lv' := [(2, .int (i2 z21)), (0, .ref (eA E 236)), (1, .int (i2 x1))]) rfl ?_
  refine r_sub [1, 2, 0] rfl ?_
  refine r_iload_n B dX11_cancel_6 rfl rfl ?_
  refine r_if_ge B (tgt := 12) dX11_cancel_7 (by decide) hz21 (fun h => ?_) (fun h => ?_)
  · have v := v.1 h
    refine r_aload_n B dX11_cancel_12 rfl rfl ?_
    refine r_cV B (st := []) (as := []) (T := TX11) (N := 25) (c_M_keepsAct _ hI22 ) v o_236 rfl mw_M_keepsAct wl_X11_117 ⟨Nat.le_of_ble_eq_true rfl, Nat.le_of_ble_eq_true rfl⟩ rfl rfl (Nat.le_of_ble_eq_true rfl) dX11_cancel_13 (fun I23 hI23 v => ?_)
    refine r_aload_n B dX11_cancel_16 rfl rfl ?_
    refine r_getR B (C := RX11) (T := TX11) (N := 25) o_236 0 rfl win_X11 (by decide) rfl wf_X11_7 dX11_cancel_17 ?_
    refine r_bipush B dX11_cancel_20 (by decide) ?_
    refine r_dup2 B dX11_cancel_22 rfl rfl ?_
    refine r_ald B a_237 (by decide) (by decide) dX11_cancel_23 ?_
    refine r_iconst B dX11_cancel_24 ?_
    refine r_iadd B dX11_cancel_25 ?_
    obtain ⟨h24, v⟩ := v
    refine r_ast B a_237 (by decide) (by decide) dX11_cancel_26 ?_
    have hI25 : rgM (wrM I23 237 15 (I23 237 15 + 1)) := rg_wr hI23 h24
    refine r_aload_n B dX11_cancel_27 rfl rfl ?_
    refine r_iload_n B dX11_cancel_28 rfl rfl ?_
    refine r_cV B (st := []) (as := [.int (i2 z21)]) (T := TX11) (N := 25) (c_M_leaves z21 _ hI25 hz21) v o_236 rfl mw_M_leaves wl_X11_97 ⟨Nat.le_of_ble_eq_true rfl, Nat.le_of_ble_eq_true rfl⟩ rfl rfl (Nat.le_of_ble_eq_true rfl) dX11_cancel_29 (fun I26 hI26 v => ?_)
    refine r_aload_n B dX11_cancel_32 rfl rfl ?_
    refine r_getR B (C := RX11) (T := TX11) (N := 25) o_236 0 rfl win_X11 (by decide) rfl wf_X11_7 dX11_cancel_33 ?_
    refine r_iconst B dX11_cancel_36 ?_
    refine r_ald B a_237 (by decide) (by decide) dX11_cancel_37 ?_
    exact r_iret B hr hk rfl ((hI26 _ _)) hI26 v dX11_cancel_38
  · have v := v.2 h
    refine r_iconst B dX11_cancel_10 ?_
    exact r_iret B hr hk rfl ((rg_lit (by decide) (by decide))) hI22 v dX11_cancel_11
set_option maxHeartbeats 4000000 in
set_option maxRecDepth 100000 in
theorem wL_M_waiting_4 {p : Program} {l : Launch} {e : Env} {s : State} {m : MethodId} {args : Array Value} {below : List Frame} {meth : Method} {c0 : Code} {E : En} {A : Nat → Prop} {x1 : Int} {Q : Int → Mm → Prop}  (B : Bd p (rmm 0 0) s m args c0 cX11_waiting 4 RX11 E A 0 0) (hr : meth.sig.returnType = some .int) (hk : meth.locks = false) (h1 : r32 x1)   : ∀ (n : Nat) (x2 : Int) (x3 : Int) (I : Mm), rgM I → r32 x2 → r32 x3 → L_M_waiting_4 x1 Q n x2 x3 I → WI p l e (rmm 0 0) s m args below meth c0 E A 4 0 0 (qI below E A args s Q) I 4 [(0, .ref (eA E 236)), (1, .int (i2 x1)), (2, .int (i2 x2)), (3, .int (i2 x3))] [] := by
  intro n
  induction n with
  | zero => intro x2 x3 I _ _ _ v; exact absurd v id
  | succ n ih =>
    intro x2 x3 I hI h2 h3 v
    unfold L_M_waiting_4 at v
    refine r_iload_n B dX11_waiting_4 rfl rfl ?_
    refine r_aload_n B dX11_waiting_5 rfl rfl ?_
    refine r_getR B (C := RX11) (T := TX11) (N := 25) o_236 0 rfl win_X11 (by decide) rfl wf_X11_7 dX11_waiting_6 ?_
    refine r_iconst B dX11_waiting_9 ?_
    refine r_ald B a_237 (by decide) (by decide) dX11_waiting_10 ?_
    refine r_icmp_ge B (tgt := 42) dX11_waiting_11 (by decide) h3 ((hI _ _)) (fun h => ?_) (fun h => ?_)
    · have v := v.1 h
      refine r_iload_n B dX11_waiting_42 rfl rfl ?_
      exact r_iret B hr hk rfl h2 hI v dX11_waiting_43
    · have v := v.2 h
      refine r_iload_n B dX11_waiting_14 rfl rfl ?_
      refine r_aload_n B dX11_waiting_15 rfl rfl ?_
      refine r_getR B (C := RX11) (T := TX11) (N := 25) o_236 0 rfl win_X11 (by decide) rfl wf_X11_7 dX11_waiting_16 ?_
      refine r_sipush B dX11_waiting_19 (by decide) ?_
      refine r_iload_n B dX11_waiting_22 rfl rfl ?_
      refine r_iadd B dX11_waiting_23 ?_
      obtain ⟨h21, v⟩ := v
      refine r_ald B a_237 (by decide) h21 dX11_waiting_24 ?_
      refine r_iload_n B dX11_waiting_25 rfl rfl ?_
      refine r_icmp_ne B (tgt := 33) dX11_waiting_26 (by decide) ((hI _ _)) h1 (fun h => ?_) (fun h => ?_)
      · have v := v.1 h
        refine r_iconst B dX11_waiting_33 ?_
        refine r_iadd B dX11_waiting_34 ?_
        refine r_istore_n B dX11_waiting_35 rfl (by decide) (lv' := [(2, .int (i2 (x2 + 0))), (0, .ref (eA E 236)), (1, .int (i2 x1)), (3, .int (i2 x3))]) rfl ?_
        refine r_sub [1, 2, 0, 3] rfl ?_
        refine r_iinc B (q := 3) dX11_waiting_36 (by decide) rfl (lv' := [(3, .int (i2 (x3 + 1))), (0, .ref (eA E 236)), (1, .int (i2 x1)), (2, .int (i2 (x2 + 0)))]) rfl ?_
        refine r_sub [1, 2, 3, 0] rfl ?_
        refine r_goto B (tgt := 4) dX11_waiting_39 (by decide) ?_
        obtain ⟨h22, v⟩ := v
        obtain ⟨h23, v⟩ := v
        refine r_sub [0, 1, 2, 3] rfl ?_
        exact ih (x2 + 0) (x3 + 1) _ hI h22 h23 v
      · have v := v.2 h
        refine r_iconst B dX11_waiting_29 ?_
        refine r_goto B (tgt := 34) dX11_waiting_30 (by decide) ?_
        refine r_iadd B dX11_waiting_34 ?_
        refine r_istore_n B dX11_waiting_35 rfl (by decide) (lv' := [(2, .int (i2 (x2 + 1))), (0, .ref (eA E 236)), (1, .int (i2 x1)), (3, .int (i2 x3))]) rfl ?_
        refine r_sub [1, 2, 0, 3] rfl ?_
        refine r_iinc B (q := 3) dX11_waiting_36 (by decide) rfl (lv' := [(3, .int (i2 (x3 + 1))), (0, .ref (eA E 236)), (1, .int (i2 x1)), (2, .int (i2 (x2 + 1)))]) rfl ?_
        refine r_sub [1, 2, 3, 0] rfl ?_
        refine r_goto B (tgt := 4) dX11_waiting_39 (by decide) ?_
        obtain ⟨h24, v⟩ := v
        obtain ⟨h25, v⟩ := v
        refine r_sub [0, 1, 2, 3] rfl ?_
        exact ih (x2 + 1) (x3 + 1) _ hI h24 h25 v
set_option maxHeartbeats 4000000 in
set_option maxRecDepth 100000 in
theorem c_M_waiting {l : Launch} {E : En} {A : Nat → Prop} (x1 : Int) (I : Mm)  (hI : rgM I) (h1 : r32 x1) : CI l E A yX11_waiting cX11_waiting 4 .int 0 0 [.ref (eA E 236), .int (i2 x1)] I (V_M_waiting x1 I) := by
  intro Q v
  refine mk_met (own := RX11) (lv0 := [(0, .ref (eA E 236)), (1, .int (i2 x1))]) (by decide) rfl (Nat.le_of_ble_eq_true rfl) rfl (fun p e s m args below meth c0 B hr hk => ?_)
  unfold V_M_waiting at v
  refine r_iconst B dX11_waiting_0 ?_
  refine r_istore_n B dX11_waiting_1 rfl (by decide) (lv' := [(2, .int (i2 0)), (0, .ref (eA E 236)), (1, .int (i2 x1))]) rfl ?_
  refine r_sub [1, 2, 0] rfl ?_
  refine r_iconst B dX11_waiting_2 ?_
  refine r_istore_n B dX11_waiting_3 rfl (by decide) (lv' := [(3, .int (i2 0)), (0, .ref (eA E 236)), (1, .int (i2 x1)), (2, .int (i2 0))]) rfl ?_
  refine r_sub [1, 2, 3, 0] rfl ?_
  obtain ⟨f26, v⟩ := v
  refine r_sub [0, 1, 2, 3] rfl ?_
  exact wL_M_waiting_4 B hr hk h1 f26 0 0 I hI ((rg_lit (by decide) (by decide))) ((rg_lit (by decide) (by decide))) v
set_option maxHeartbeats 4000000 in
set_option maxRecDepth 100000 in
theorem wL_M_firstOf_2 {p : Program} {l : Launch} {e : Env} {s : State} {m : MethodId} {args : Array Value} {below : List Frame} {meth : Method} {c0 : Code} {E : En} {A : Nat → Prop} {x1 : Int} {Q : Int → Mm → Prop}  (B : Bd p (rmm 0 0) s m args c0 cX11_firstOf 3 RX11 E A 0 0) (hr : meth.sig.returnType = some .int) (hk : meth.locks = false) (h1 : r32 x1)   : ∀ (n : Nat) (x2 : Int) (I : Mm), rgM I → r32 x2 → L_M_firstOf_2 x1 Q n x2 I → WI p l e (rmm 0 0) s m args below meth c0 E A 3 0 0 (qI below E A args s Q) I 2 [(0, .ref (eA E 236)), (1, .int (i2 x1)), (2, .int (i2 x2))] [] := by
  intro n
  induction n with
  | zero => intro x2 I _ _ v; exact absurd v id
  | succ n ih =>
    intro x2 I hI h2 v
    unfold L_M_firstOf_2 at v
    refine r_iload_n B dX11_firstOf_2 rfl rfl ?_
    refine r_aload_n B dX11_firstOf_3 rfl rfl ?_
    refine r_getR B (C := RX11) (T := TX11) (N := 25) o_236 0 rfl win_X11 (by decide) rfl wf_X11_7 dX11_firstOf_4 ?_
    refine r_iconst B dX11_firstOf_7 ?_
    refine r_ald B a_237 (by decide) (by decide) dX11_firstOf_8 ?_
    refine r_icmp_ge B (tgt := 34) dX11_firstOf_9 (by decide) h2 ((hI _ _)) (fun h => ?_) (fun h => ?_)
    · have v := v.1 h
      refine r_iconst B dX11_firstOf_34 ?_
      exact r_iret B hr hk rfl ((rg_lit (by decide) (by decide))) hI v dX11_firstOf_35
    · have v := v.2 h
      refine r_aload_n B dX11_firstOf_12 rfl rfl ?_
      refine r_getR B (C := RX11) (T := TX11) (N := 25) o_236 0 rfl win_X11 (by decide) rfl wf_X11_7 dX11_firstOf_13 ?_
      refine r_sipush B dX11_firstOf_16 (by decide) ?_
      refine r_iload_n B dX11_firstOf_19 rfl rfl ?_
      refine r_iadd B dX11_firstOf_20 ?_
      obtain ⟨h21, v⟩ := v
      refine r_ald B a_237 (by decide) h21 dX11_firstOf_21 ?_
      refine r_iload_n B dX11_firstOf_22 rfl rfl ?_
      refine r_icmp_ne B (tgt := 28) dX11_firstOf_23 (by decide) ((hI _ _)) h1 (fun h => ?_) (fun h => ?_)
      · have v := v.1 h
        refine r_iinc B (q := 2) dX11_firstOf_28 (by decide) rfl (lv' := [(2, .int (i2 (x2 + 1))), (0, .ref (eA E 236)), (1, .int (i2 x1))]) rfl ?_
        refine r_sub [1, 2, 0] rfl ?_
        refine r_goto B (tgt := 2) dX11_firstOf_31 (by decide) ?_
        obtain ⟨h22, v⟩ := v
        refine r_sub [0, 1, 2] rfl ?_
        exact ih (x2 + 1) _ hI h22 v
      · have v := v.2 h
        refine r_iload_n B dX11_firstOf_26 rfl rfl ?_
        exact r_iret B hr hk rfl h2 hI v dX11_firstOf_27
set_option maxHeartbeats 4000000 in
set_option maxRecDepth 100000 in
theorem c_M_firstOf {l : Launch} {E : En} {A : Nat → Prop} (x1 : Int) (I : Mm)  (hI : rgM I) (h1 : r32 x1) : CI l E A yX11_firstOf cX11_firstOf 3 .int 0 0 [.ref (eA E 236), .int (i2 x1)] I (V_M_firstOf x1 I) := by
  intro Q v
  refine mk_met (own := RX11) (lv0 := [(0, .ref (eA E 236)), (1, .int (i2 x1))]) (by decide) rfl (Nat.le_of_ble_eq_true rfl) rfl (fun p e s m args below meth c0 B hr hk => ?_)
  unfold V_M_firstOf at v
  refine r_iconst B dX11_firstOf_0 ?_
  refine r_istore_n B dX11_firstOf_1 rfl (by decide) (lv' := [(2, .int (i2 0)), (0, .ref (eA E 236)), (1, .int (i2 x1))]) rfl ?_
  refine r_sub [1, 2, 0] rfl ?_
  obtain ⟨f23, v⟩ := v
  refine r_sub [0, 1, 2] rfl ?_
  exact wL_M_firstOf_2 B hr hk h1 f23 0 I hI ((rg_lit (by decide) (by decide))) v
set_option maxHeartbeats 4000000 in
set_option maxRecDepth 100000 in
theorem wL_M_clear_33 {p : Program} {l : Launch} {e : Env} {s : State} {m : MethodId} {args : Array Value} {below : List Frame} {meth : Method} {c0 : Code} {E : En} {A : Nat → Prop} {x1 : Int} {Q : Int → Mm → Prop}  (B : Bd p (rmm 4 91) s m args c0 cX11_clear 4 RX11 E A 0 0) (hr : meth.sig.returnType = some .int) (hk : meth.locks = false) (h1 : r32 x1)   : ∀ (n : Nat) (x2 : Int) (x3 : Int) (I : Mm), rgM I → r32 x2 → r32 x3 → L_M_clear_33 x1 Q n x2 x3 I → WI p l e (rmm 4 91) s m args below meth c0 E A 4 0 0 (qI below E A args s Q) I 33 [(0, .ref (eA E 236)), (1, .int (i2 x1)), (2, .int (i2 x2)), (3, .int (i2 x3))] [] := by
  intro n
  induction n with
  | zero => intro x2 x3 I _ _ _ v; exact absurd v id
  | succ n ih =>
    intro x2 x3 I hI h2 h3 v
    unfold L_M_clear_33 at v
    refine r_iload_n B dX11_clear_33 rfl rfl ?_
    refine r_if_lt B (tgt := 65) dX11_clear_34 (by decide) h3 (fun h => ?_) (fun h => ?_)
    · have v := v.1 h
      refine r_iload_n B dX11_clear_65 rfl rfl ?_
      exact r_iret B hr hk rfl h2 hI v dX11_clear_66
    · have v := v.2 h
      refine r_aload_n B dX11_clear_37 rfl rfl ?_
      refine r_getR B (C := RX11) (T := TX11) (N := 25) o_236 0 rfl win_X11 (by decide) rfl wf_X11_7 dX11_clear_38 ?_
      refine r_bipush B dX11_clear_41 (by decide) ?_
      refine r_dup2 B dX11_clear_43 rfl rfl ?_
      refine r_ald B a_237 (by decide) (by decide) dX11_clear_44 ?_
      refine r_iconst B dX11_clear_45 ?_
      refine r_iadd B dX11_clear_46 ?_
      obtain ⟨h28, v⟩ := v
      refine r_ast B a_237 (by decide) (by decide) dX11_clear_47 ?_
      have hI29 : rgM (wrM I 237 15 (I 237 15 + 1)) := rg_wr hI h28
      refine r_aload_n B dX11_clear_48 rfl rfl ?_
      refine r_iload_n B dX11_clear_49 rfl rfl ?_
      refine r_cV B (st := []) (as := [.int (i2 x3)]) (T := TX11) (N := 25) (c_M_leaves x3 _ hI29 h3) v o_236 rfl mw_M_leaves wl_X11_97 ⟨Nat.le_of_ble_eq_true rfl, Nat.le_of_ble_eq_true rfl⟩ rfl rfl (Nat.le_of_ble_eq_true rfl) dX11_clear_50 (fun I30 hI30 v => ?_)
      refine r_iinc B (q := 2) dX11_clear_53 (by decide) rfl (lv' := [(2, .int (i2 (x2 + 1))), (0, .ref (eA E 236)), (1, .int (i2 x1)), (3, .int (i2 x3))]) rfl ?_
      refine r_sub [1, 2, 0, 3] rfl ?_
      refine r_aload_n B dX11_clear_56 rfl rfl ?_
      refine r_iload_n B dX11_clear_57 rfl rfl ?_
      refine r_cI B (st := []) (as := [.int (i2 x1)]) (T := TX11) (N := 25) (c_M_firstOf x1 _ hI30 h1) v o_236 rfl mw_M_firstOf wl_X11_132 ⟨Nat.le_of_ble_eq_true rfl, Nat.le_of_ble_eq_true rfl⟩ rfl rfl (Nat.le_of_ble_eq_true rfl) dX11_clear_58 (fun z31 I32 hz31 hI32 v => ?_)
      refine r_istore_n B dX11_clear_61 rfl (by decide) (lv' := [(3, .int (i2 z31)), (0, .ref (eA E 236)), (1, .int (i2 x1)), (2, .int (i2 (x2 + 1)))]) rfl ?_
      refine r_sub [1, 2, 3, 0] rfl ?_
      refine r_goto B (tgt := 33) dX11_clear_62 (by decide) ?_
      obtain ⟨h33, v⟩ := v
      refine r_sub [0, 1, 2, 3] rfl ?_
      exact ih (x2 + 1) z31 _ hI32 h33 hz31 v
set_option maxHeartbeats 4000000 in
set_option maxRecDepth 100000 in
theorem c_M_clear {l : Launch} {E : En} {A : Nat → Prop} (x1 : Int) (I : Mm)  (hI : rgM I) (h1 : r32 x1) : CI l E A yX11_clear cX11_clear 4 .int 4 91 [.ref (eA E 236), .int (i2 x1)] I (V_M_clear x1 I) := by
  intro Q v
  refine mk_met (own := RX11) (lv0 := [(0, .ref (eA E 236)), (1, .int (i2 x1))]) (by decide) rfl (Nat.le_of_ble_eq_true rfl) rfl (fun p e s m args below meth c0 B hr hk => ?_)
  unfold V_M_clear at v
  refine r_aload_n B dX11_clear_0 rfl rfl ?_
  refine r_iload_n B dX11_clear_1 rfl rfl ?_
  refine r_cI B (st := []) (as := [.int (i2 x1)]) (T := TX11) (N := 25) (c_M_isName x1 _ hI h1) v o_236 rfl mw_M_isName wl_X11_111 ⟨Nat.le_of_ble_eq_true rfl, Nat.le_of_ble_eq_true rfl⟩ rfl rfl (Nat.le_of_ble_eq_true rfl) dX11_clear_2 (fun z21 I22 hz21 hI22 v => ?_)
  refine r_if_ne B (tgt := 10) dX11_clear_5 (by decide) hz21 (fun h => ?_) (fun h => ?_)
  · have v := v.1 h
    refine r_aload_n B dX11_clear_10 rfl rfl ?_
    refine r_iload_n B dX11_clear_11 rfl rfl ?_
    refine r_cI B (st := []) (as := [.int (i2 x1)]) (T := TX11) (N := 25) (c_M_waiting x1 _ hI22 h1) v o_236 rfl mw_M_waiting wl_X11_129 ⟨Nat.le_of_ble_eq_true rfl, Nat.le_of_ble_eq_true rfl⟩ rfl rfl (Nat.le_of_ble_eq_true rfl) dX11_clear_12 (fun z23 I24 hz23 hI24 v => ?_)
    refine r_if_ne B (tgt := 21) dX11_clear_15 (by decide) hz23 (fun h => ?_) (fun h => ?_)
    · have v := v.1 h
      refine r_aload_n B dX11_clear_21 rfl rfl ?_
      refine r_cV B (st := []) (as := []) (T := TX11) (N := 25) (c_M_keepsAct _ hI24 ) v o_236 rfl mw_M_keepsAct wl_X11_117 ⟨Nat.le_of_ble_eq_true rfl, Nat.le_of_ble_eq_true rfl⟩ rfl rfl (Nat.le_of_ble_eq_true rfl) dX11_clear_22 (fun I25 hI25 v => ?_)
      refine r_iconst B dX11_clear_25 ?_
      refine r_istore_n B dX11_clear_26 rfl (by decide) (lv' := [(2, .int (i2 0)), (0, .ref (eA E 236)), (1, .int (i2 x1))]) rfl ?_
      refine r_sub [1, 2, 0] rfl ?_
      refine r_aload_n B dX11_clear_27 rfl rfl ?_
      refine r_iload_n B dX11_clear_28 rfl rfl ?_
      refine r_cI B (st := []) (as := [.int (i2 x1)]) (T := TX11) (N := 25) (c_M_firstOf x1 _ hI25 h1) v o_236 rfl mw_M_firstOf wl_X11_132 ⟨Nat.le_of_ble_eq_true rfl, Nat.le_of_ble_eq_true rfl⟩ rfl rfl (Nat.le_of_ble_eq_true rfl) dX11_clear_29 (fun z26 I27 hz26 hI27 v => ?_)
      refine r_istore_n B dX11_clear_32 rfl (by decide) (lv' := [(3, .int (i2 z26)), (0, .ref (eA E 236)), (1, .int (i2 x1)), (2, .int (i2 0))]) rfl ?_
      refine r_sub [1, 2, 3, 0] rfl ?_
      obtain ⟨f34, v⟩ := v
      refine r_sub [0, 1, 2, 3] rfl ?_
      exact wL_M_clear_33 B hr hk h1 f34 0 z26 I27 hI27 ((rg_lit (by decide) (by decide))) hz26 v
    · have v := v.2 h
      refine r_bipush B dX11_clear_18 (by decide) ?_
      exact r_iret B hr hk rfl ((rg_lit (by decide) (by decide))) hI24 v dX11_clear_20
  · have v := v.2 h
    refine r_iconst B dX11_clear_8 ?_
    exact r_iret B hr hk rfl ((rg_lit (by decide) (by decide))) hI22 v dX11_clear_9
set_option maxHeartbeats 4000000 in
set_option maxRecDepth 100000 in
theorem c_M_putsOff {l : Launch} {E : En} {A : Nat → Prop} (x1 : Int) (x2 : Int) (I : Mm)  (hI : rgM I) (h1 : r32 x1) (h2 : r32 x2) : CV l E A yX11_putsOff cX11_putsOff 5 4 93 [.ref (eA E 236), .int (i2 x1), .int (i2 x2)] I (V_M_putsOff x1 x2 I) := by
  intro Q v
  refine mk_met (own := RX11) (lv0 := [(0, .ref (eA E 236)), (1, .int (i2 x1)), (2, .int (i2 x2))]) (by decide) rfl (Nat.le_of_ble_eq_true rfl) rfl (fun p e s m args below meth c0 B hr hk => ?_)
  unfold V_M_putsOff at v
  refine r_aload_n B dX11_putsOff_0 rfl rfl ?_
  refine r_iload_n B dX11_putsOff_1 rfl rfl ?_
  refine r_cI B (st := []) (as := [.int (i2 x1)]) (T := TX11) (N := 25) (c_M_placeOf x1 _ hI h1) v o_236 rfl mw_M_placeOf wl_X11_125 ⟨Nat.le_of_ble_eq_true rfl, Nat.le_of_ble_eq_true rfl⟩ rfl rfl (Nat.le_of_ble_eq_true rfl) dX11_putsOff_2 (fun z21 I22 hz21 hI22 v => ?_)
  refine r_istore_n B dX11_putsOff_5 rfl (by decide) (lv' := [(3, .int (i2 z21)), (0, .ref (eA E 236)), (1, .int (i2 x1)), (2, .int (i2 x2))]) rfl ?_
  refine r_sub [1, 2, 3, 0] rfl ?_
  refine r_aload_n B dX11_putsOff_6 rfl rfl ?_
  refine r_getR B (C := RX11) (T := TX11) (N := 25) o_236 0 rfl win_X11 (by decide) rfl wf_X11_7 dX11_putsOff_7 ?_
  refine r_sipush B dX11_putsOff_10 (by decide) ?_
  refine r_iload_n B dX11_putsOff_13 rfl rfl ?_
  refine r_iadd B dX11_putsOff_14 ?_
  obtain ⟨h23, v⟩ := v
  refine r_ald B a_237 (by decide) h23 dX11_putsOff_15 ?_
  refine r_istore B dX11_putsOff_16 (by decide) (lv' := [(4, .int (i2 (I22 237 (580 + z21)))), (0, .ref (eA E 236)), (1, .int (i2 x1)), (2, .int (i2 x2)), (3, .int (i2 z21))]) rfl ?_
  refine r_sub [1, 2, 3, 4, 0] rfl ?_
  refine r_aload_n B dX11_putsOff_18 rfl rfl ?_
  refine r_iload_n B dX11_putsOff_19 rfl rfl ?_
  refine r_cV B (st := []) (as := [.int (i2 z21)]) (T := TX11) (N := 25) (c_M_leaves z21 _ hI22 hz21) v o_236 rfl mw_M_leaves wl_X11_97 ⟨Nat.le_of_ble_eq_true rfl, Nat.le_of_ble_eq_true rfl⟩ rfl rfl (Nat.le_of_ble_eq_true rfl) dX11_putsOff_20 (fun I24 hI24 v => ?_)
  refine r_aload_n B dX11_putsOff_23 rfl rfl ?_
  refine r_iload_n B dX11_putsOff_24 rfl rfl ?_
  refine r_iload B dX11_putsOff_25 rfl ?_
  refine r_iload_n B dX11_putsOff_27 rfl rfl ?_
  refine r_cV B (st := []) (as := [.int (i2 x1), .int (i2 (I22 237 (580 + z21))), .int (i2 x2)]) (T := TX11) (N := 25) (c_M_comes x1 (I22 237 (580 + z21)) x2 _ hI24 h1 ((hI22 _ _)) h2) v o_236 rfl mw_M_comes wl_X11_76 ⟨Nat.le_of_ble_eq_true rfl, Nat.le_of_ble_eq_true rfl⟩ rfl rfl (Nat.le_of_ble_eq_true rfl) dX11_putsOff_28 (fun I25 hI25 v => ?_)
  exact r_vret B hr hk hI25 v dX11_putsOff_31
set_option maxHeartbeats 4000000 in
set_option maxRecDepth 100000 in
theorem c_M_postpone {l : Launch} {E : En} {A : Nat → Prop} (x1 : Int) (x2 : Int) (I : Mm)  (hI : rgM I) (h1 : r32 x1) (h2 : r32 x2) : CI l E A yX11_postpone cX11_postpone 5 .int 5 117 [.ref (eA E 236), .int (i2 x1), .int (i2 x2)] I (V_M_postpone x1 x2 I) := by
  intro Q v
  refine mk_met (own := RX11) (lv0 := [(0, .ref (eA E 236)), (1, .int (i2 x1)), (2, .int (i2 x2))]) (by decide) rfl (Nat.le_of_ble_eq_true rfl) rfl (fun p e s m args below meth c0 B hr hk => ?_)
  unfold V_M_postpone at v
  refine r_aload_n B dX11_postpone_0 rfl rfl ?_
  refine r_iload_n B dX11_postpone_1 rfl rfl ?_
  refine r_cI B (st := []) (as := [.int (i2 x1)]) (T := TX11) (N := 25) (c_M_placeOf x1 _ hI h1) v o_236 rfl mw_M_placeOf wl_X11_125 ⟨Nat.le_of_ble_eq_true rfl, Nat.le_of_ble_eq_true rfl⟩ rfl rfl (Nat.le_of_ble_eq_true rfl) dX11_postpone_2 (fun z21 I22 hz21 hI22 v => ?_)
  refine r_istore_n B dX11_postpone_5 rfl (by decide) (lv' := [(3, .int (i2 z21)), (0, .ref (eA E 236)), (1, .int (i2 x1)), (2, .int (i2 x2))]) rfl ?_
  refine r_sub [1, 2, 3, 0] rfl ?_
  refine r_iload_n B dX11_postpone_6 rfl rfl ?_
  refine r_if_lt B (tgt := 22) dX11_postpone_7 (by decide) hz21 (fun h => ?_) (fun h => ?_)
  · have v := v.1 h
    refine r_iconst B dX11_postpone_22 ?_
    exact r_iret B hr hk rfl ((rg_lit (by decide) (by decide))) hI22 v dX11_postpone_23
  · have v := v.2 h
    refine r_iload_n B dX11_postpone_10 rfl rfl ?_
    refine r_i2l B dX11_postpone_11 h2 ?_
    refine r_lconst B 0 dX11_postpone_12 (by decide) ?_
    refine r_ldc2 B (999999999) dX11_postpone_13 wc_X11_115 (by decide) ?_
    refine r_sI B (st := []) (as := [.long (l2 x2), .long (l2 0), .long (l2 999999999)]) (c_M_in x2 0 999999999 _ hI22 ((rg_64 h2)) ((show r64 (0) by exact ⟨by decide, by decide⟩)) ((show r64 (999999999) by exact ⟨by decide, by decide⟩))) v mw_M_in wl_X11_55 ⟨Nat.le_of_ble_eq_true rfl, Nat.le_of_ble_eq_true rfl⟩ rfl rfl (Nat.le_of_ble_eq_true rfl) dX11_postpone_16 (fun z23 I24 hz23 hI24 v => ?_)
    refine r_if_ne B (tgt := 24) dX11_postpone_19 (by decide) hz23 (fun h => ?_) (fun h => ?_)
    · have v := v.1 h
      refine r_iload_n B dX11_postpone_24 rfl rfl ?_
      refine r_aload_n B dX11_postpone_25 rfl rfl ?_
      refine r_getR B (C := RX11) (T := TX11) (N := 25) o_236 0 rfl win_X11 (by decide) rfl wf_X11_7 dX11_postpone_26 ?_
      refine r_iconst B dX11_postpone_29 ?_
      refine r_ald B a_237 (by decide) (by decide) dX11_postpone_30 ?_
      refine r_icmp_ge B (tgt := 37) dX11_postpone_31 (by decide) h2 ((hI24 _ _)) (fun h => ?_) (fun h => ?_)
      · have v := v.1 h
        refine r_aload_n B dX11_postpone_37 rfl rfl ?_
        refine r_getR B (C := RX11) (T := TX11) (N := 25) o_236 0 rfl win_X11 (by decide) rfl wf_X11_7 dX11_postpone_38 ?_
        refine r_sipush B dX11_postpone_41 (by decide) ?_
        refine r_iload_n B dX11_postpone_44 rfl rfl ?_
        refine r_iadd B dX11_postpone_45 ?_
        obtain ⟨h25, v⟩ := v
        refine r_ald B a_237 (by decide) h25 dX11_postpone_46 ?_
        refine r_istore B dX11_postpone_47 (by decide) (lv' := [(4, .int (i2 (I24 237 (780 + z21)))), (0, .ref (eA E 236)), (1, .int (i2 x1)), (2, .int (i2 x2)), (3, .int (i2 z21))]) rfl ?_
        refine r_sub [1, 2, 3, 4, 0] rfl ?_
        refine r_iload B dX11_postpone_49 rfl ?_
        refine r_iload_n B dX11_postpone_51 rfl rfl ?_
        refine r_icmp_ne B (tgt := 58) dX11_postpone_52 (by decide) ((hI24 _ _)) h2 (fun h => ?_) (fun h => ?_)
        · have v := v.1 h
          refine r_aload_n B dX11_postpone_58 rfl rfl ?_
          refine r_cV B (st := []) (as := []) (T := TX11) (N := 25) (c_M_keepsAct _ hI24 ) v o_236 rfl mw_M_keepsAct wl_X11_117 ⟨Nat.le_of_ble_eq_true rfl, Nat.le_of_ble_eq_true rfl⟩ rfl rfl (Nat.le_of_ble_eq_true rfl) dX11_postpone_59 (fun I26 hI26 v => ?_)
          refine r_aload_n B dX11_postpone_62 rfl rfl ?_
          refine r_iload_n B dX11_postpone_63 rfl rfl ?_
          refine r_iload_n B dX11_postpone_64 rfl rfl ?_
          refine r_cV B (st := []) (as := [.int (i2 x1), .int (i2 x2)]) (T := TX11) (N := 25) (c_M_putsOff x1 x2 _ hI26 h1 h2) v o_236 rfl mw_M_putsOff wl_X11_135 ⟨Nat.le_of_ble_eq_true rfl, Nat.le_of_ble_eq_true rfl⟩ rfl rfl (Nat.le_of_ble_eq_true rfl) dX11_postpone_65 (fun I27 hI27 v => ?_)
          refine r_iload B dX11_postpone_68 rfl ?_
          exact r_iret B hr hk rfl ((hI24 _ _)) hI27 v dX11_postpone_70
        · have v := v.2 h
          refine r_bipush B dX11_postpone_55 (by decide) ?_
          exact r_iret B hr hk rfl ((rg_lit (by decide) (by decide))) hI24 v dX11_postpone_57
      · have v := v.2 h
        refine r_bipush B dX11_postpone_34 (by decide) ?_
        exact r_iret B hr hk rfl ((rg_lit (by decide) (by decide))) hI24 v dX11_postpone_36
    · have v := v.2 h
      refine r_iconst B dX11_postpone_22 ?_
      exact r_iret B hr hk rfl ((rg_lit (by decide) (by decide))) hI24 v dX11_postpone_23
set_option maxHeartbeats 4000000 in
set_option maxRecDepth 100000 in
theorem wL_M_series_112 {p : Program} {l : Launch} {e : Env} {s : State} {m : MethodId} {args : Array Value} {below : List Frame} {meth : Method} {c0 : Code} {E : En} {A : Nat → Prop} {x1 : Int} {x2 : Int} {x3 : Int} {x4 : Int} {x5 : Int} {Q : Int → Mm → Prop}  (B : Bd p (rmm 5 115) s m args c0 cX11_series 8 RX11 E A 0 0) (hr : meth.sig.returnType = some .int) (hk : meth.locks = false) (h1 : r32 x1) (h2 : r32 x2) (h3 : r32 x3) (h4 : r32 x4) (h5 : r32 x5)  : ∀ (n : Nat) (x6 : Int) (I : Mm), rgM I → r32 x6 → L_M_series_112 x1 x2 x3 x4 x5 Q n x6 I → WI p l e (rmm 5 115) s m args below meth c0 E A 8 0 0 (qI below E A args s Q) I 112 [(0, .ref (eA E 236)), (1, .int (i2 x1)), (2, .int (i2 x2)), (3, .int (i2 x3)), (4, .int (i2 x4)), (5, .int (i2 x5)), (6, .int (i2 x6))] [] := by
  intro n
  induction n with
  | zero => intro x6 I _ _ v; exact absurd v id
  | succ n ih =>
    intro x6 I hI h6 v
    unfold L_M_series_112 at v
    refine r_iload B dX11_series_112 rfl ?_
    refine r_iload B dX11_series_114 rfl ?_
    refine r_icmp_ge B (tgt := 138) dX11_series_116 (by decide) h6 h4 (fun h => ?_) (fun h => ?_)
    · have v := v.1 h
      refine r_iload B dX11_series_138 rfl ?_
      exact r_iret B hr hk rfl h5 hI v dX11_series_140
    · have v := v.2 h
      refine r_aload_n B dX11_series_119 rfl rfl ?_
      refine r_iload_n B dX11_series_120 rfl rfl ?_
      refine r_iload_n B dX11_series_121 rfl rfl ?_
      refine r_iload_n B dX11_series_122 rfl rfl ?_
      refine r_iload B dX11_series_123 rfl ?_
      refine r_imul B dX11_series_125 ?_
      refine r_iadd B dX11_series_126 ?_
      obtain ⟨h33, v⟩ := v
      refine r_cI B (st := []) (as := [.int (i2 x1), .int (i2 (x3 + (x2 * x6)))]) (T := TX11) (N := 25) (c_M_comesNew x1 (x3 + (x2 * x6)) _ hI h1 h33) v o_236 rfl mw_M_comesNew wl_X11_104 ⟨Nat.le_of_ble_eq_true rfl, Nat.le_of_ble_eq_true rfl⟩ rfl rfl (Nat.le_of_ble_eq_true rfl) dX11_series_127 (fun z34 I35 hz34 hI35 v => ?_)
      refine r_istore B dX11_series_130 (by decide) (lv' := [(7, .int (i2 z34)), (0, .ref (eA E 236)), (1, .int (i2 x1)), (2, .int (i2 x2)), (3, .int (i2 x3)), (4, .int (i2 x4)), (5, .int (i2 x5)), (6, .int (i2 x6))]) rfl ?_
      refine r_sub [1, 2, 3, 4, 5, 6, 7, 0] rfl ?_
      refine r_iinc B (q := 6) dX11_series_132 (by decide) rfl (lv' := [(6, .int (i2 (x6 + 1))), (0, .ref (eA E 236)), (1, .int (i2 x1)), (2, .int (i2 x2)), (3, .int (i2 x3)), (4, .int (i2 x4)), (5, .int (i2 x5)), (7, .int (i2 z34))]) rfl ?_
      refine r_sub [1, 2, 3, 4, 5, 6, 0, 7] rfl ?_
      refine r_goto B (tgt := 112) dX11_series_135 (by decide) ?_
      obtain ⟨h36, v⟩ := v
      refine r_sub [0, 1, 2, 3, 4, 5, 6] rfl ?_
      exact ih (x6 + 1) _ hI35 h36 v
set_option maxHeartbeats 4000000 in
set_option maxRecDepth 100000 in
theorem c_M_series {l : Launch} {E : En} {A : Nat → Prop} (x1 : Int) (x2 : Int) (x3 : Int) (x4 : Int) (I : Mm)  (hI : rgM I) (h1 : r32 x1) (h2 : r32 x2) (h3 : r32 x3) (h4 : r32 x4) : CI l E A yX11_series cX11_series 8 .int 5 115 [.ref (eA E 236), .int (i2 x1), .int (i2 x2), .int (i2 x3), .int (i2 x4)] I (V_M_series x1 x2 x3 x4 I) := by
  intro Q v
  refine mk_met (own := RX11) (lv0 := [(0, .ref (eA E 236)), (1, .int (i2 x1)), (2, .int (i2 x2)), (3, .int (i2 x3)), (4, .int (i2 x4))]) (by decide) rfl (Nat.le_of_ble_eq_true rfl) rfl (fun p e s m args below meth c0 B hr hk => ?_)
  unfold V_M_series at v
  refine r_aload_n B dX11_series_0 rfl rfl ?_
  refine r_iload_n B dX11_series_1 rfl rfl ?_
  refine r_cI B (st := []) (as := [.int (i2 x1)]) (T := TX11) (N := 25) (c_M_isName x1 _ hI h1) v o_236 rfl mw_M_isName wl_X11_111 ⟨Nat.le_of_ble_eq_true rfl, Nat.le_of_ble_eq_true rfl⟩ rfl rfl (Nat.le_of_ble_eq_true rfl) dX11_series_2 (fun z21 I22 hz21 hI22 v => ?_)
  refine r_if_eq B (tgt := 45) dX11_series_5 (by decide) hz21 (fun h => ?_) (fun h => ?_)
  · have v := v.1 h
    refine r_iconst B dX11_series_45 ?_
    exact r_iret B hr hk rfl ((rg_lit (by decide) (by decide))) hI22 v dX11_series_46
  · have v := v.2 h
    refine r_iload_n B dX11_series_8 rfl rfl ?_
    refine r_i2l B dX11_series_9 h2 ?_
    refine r_lconst B 1 dX11_series_10 (by decide) ?_
    refine r_ldc2 B (999999) dX11_series_11 wc_X11_139 (by decide) ?_
    refine r_sI B (st := []) (as := [.long (l2 x2), .long (l2 1), .long (l2 999999)]) (c_M_in x2 1 999999 _ hI22 ((rg_64 h2)) ((show r64 (1) by exact ⟨by decide, by decide⟩)) ((show r64 (999999) by exact ⟨by decide, by decide⟩))) v mw_M_in wl_X11_55 ⟨Nat.le_of_ble_eq_true rfl, Nat.le_of_ble_eq_true rfl⟩ rfl rfl (Nat.le_of_ble_eq_true rfl) dX11_series_14 (fun z23 I24 hz23 hI24 v => ?_)
    refine r_if_eq B (tgt := 45) dX11_series_17 (by decide) hz23 (fun h => ?_) (fun h => ?_)
    · have v := v.1 h
      refine r_iconst B dX11_series_45 ?_
      exact r_iret B hr hk rfl ((rg_lit (by decide) (by decide))) hI24 v dX11_series_46
    · have v := v.2 h
      refine r_iload_n B dX11_series_20 rfl rfl ?_
      refine r_i2l B dX11_series_21 h3 ?_
      refine r_lconst B 0 dX11_series_22 (by decide) ?_
      refine r_ldc2 B (999999999) dX11_series_23 wc_X11_115 (by decide) ?_
      refine r_sI B (st := []) (as := [.long (l2 x3), .long (l2 0), .long (l2 999999999)]) (c_M_in x3 0 999999999 _ hI24 ((rg_64 h3)) ((show r64 (0) by exact ⟨by decide, by decide⟩)) ((show r64 (999999999) by exact ⟨by decide, by decide⟩))) v mw_M_in wl_X11_55 ⟨Nat.le_of_ble_eq_true rfl, Nat.le_of_ble_eq_true rfl⟩ rfl rfl (Nat.le_of_ble_eq_true rfl) dX11_series_26 (fun z25 I26 hz25 hI26 v => ?_)
      refine r_if_eq B (tgt := 45) dX11_series_29 (by decide) hz25 (fun h => ?_) (fun h => ?_)
      · have v := v.1 h
        refine r_iconst B dX11_series_45 ?_
        exact r_iret B hr hk rfl ((rg_lit (by decide) (by decide))) hI26 v dX11_series_46
      · have v := v.2 h
        refine r_iload B dX11_series_32 rfl ?_
        refine r_i2l B dX11_series_34 h4 ?_
        refine r_lconst B 1 dX11_series_35 (by decide) ?_
        refine r_ldc2 B (50) dX11_series_36 wc_X11_141 (by decide) ?_
        refine r_sI B (st := []) (as := [.long (l2 x4), .long (l2 1), .long (l2 50)]) (c_M_in x4 1 50 _ hI26 ((rg_64 h4)) ((show r64 (1) by exact ⟨by decide, by decide⟩)) ((show r64 (50) by exact ⟨by decide, by decide⟩))) v mw_M_in wl_X11_55 ⟨Nat.le_of_ble_eq_true rfl, Nat.le_of_ble_eq_true rfl⟩ rfl rfl (Nat.le_of_ble_eq_true rfl) dX11_series_39 (fun z27 I28 hz27 hI28 v => ?_)
        refine r_if_ne B (tgt := 47) dX11_series_42 (by decide) hz27 (fun h => ?_) (fun h => ?_)
        · have v := v.1 h
          refine r_iload_n B dX11_series_47 rfl rfl ?_
          refine r_aload_n B dX11_series_48 rfl rfl ?_
          refine r_getR B (C := RX11) (T := TX11) (N := 25) o_236 0 rfl win_X11 (by decide) rfl wf_X11_7 dX11_series_49 ?_
          refine r_iconst B dX11_series_52 ?_
          refine r_ald B a_237 (by decide) (by decide) dX11_series_53 ?_
          refine r_icmp_ge B (tgt := 60) dX11_series_54 (by decide) h3 ((hI28 _ _)) (fun h => ?_) (fun h => ?_)
          · have v := v.1 h
            refine r_aload_n B dX11_series_60 rfl rfl ?_
            refine r_getR B (C := RX11) (T := TX11) (N := 25) o_236 0 rfl win_X11 (by decide) rfl wf_X11_7 dX11_series_61 ?_
            refine r_iconst B dX11_series_64 ?_
            refine r_ald B a_237 (by decide) (by decide) dX11_series_65 ?_
            refine r_iload B dX11_series_66 rfl ?_
            refine r_iadd B dX11_series_68 ?_
            refine r_sipush B dX11_series_69 (by decide) ?_
            obtain ⟨h29, v⟩ := v
            refine r_icmp_gt B (tgt := 93) dX11_series_72 (by decide) h29 ((rg_lit (by decide) (by decide))) (fun h => ?_) (fun h => ?_)
            · have v := v.1 h
              refine r_bipush B dX11_series_93 (by decide) ?_
              exact r_iret B hr hk rfl ((rg_lit (by decide) (by decide))) hI28 v dX11_series_95
            · have v := v.2 h
              refine r_iload_n B dX11_series_75 rfl rfl ?_
              refine r_i2l B dX11_series_76 h3 ?_
              refine r_iload_n B dX11_series_77 rfl rfl ?_
              refine r_i2l B dX11_series_78 h2 ?_
              refine r_iload B dX11_series_79 rfl ?_
              refine r_iconst B dX11_series_81 ?_
              refine r_isub B dX11_series_82 ?_
              obtain ⟨h30, v⟩ := v
              refine r_i2l B dX11_series_83 h30 ?_
              refine r_lmul B dX11_series_84 ?_
              refine r_ladd B dX11_series_85 ?_
              refine r_ldc2 B (999999999) dX11_series_86 wc_X11_115 (by decide) ?_
              obtain ⟨h31, v⟩ := v
              refine r_lcmp_le B (tgt := 96) dX11_series_89 dX11_series_90 (by decide) h31 ((show r64 (999999999) by exact ⟨by decide, by decide⟩)) (fun h => ?_) (fun h => ?_)
              · have v := v.1 h
                refine r_aload_n B dX11_series_96 rfl rfl ?_
                refine r_cV B (st := []) (as := []) (T := TX11) (N := 25) (c_M_keepsAct _ hI28 ) v o_236 rfl mw_M_keepsAct wl_X11_117 ⟨Nat.le_of_ble_eq_true rfl, Nat.le_of_ble_eq_true rfl⟩ rfl rfl (Nat.le_of_ble_eq_true rfl) dX11_series_97 (fun I32 hI32 v => ?_)
                refine r_aload_n B dX11_series_100 rfl rfl ?_
                refine r_getR B (C := RX11) (T := TX11) (N := 25) o_236 0 rfl win_X11 (by decide) rfl wf_X11_7 dX11_series_101 ?_
                refine r_bipush B dX11_series_104 (by decide) ?_
                refine r_ald B a_237 (by decide) (by decide) dX11_series_106 ?_
                refine r_istore B dX11_series_107 (by decide) (lv' := [(5, .int (i2 (I32 237 6))), (0, .ref (eA E 236)), (1, .int (i2 x1)), (2, .int (i2 x2)), (3, .int (i2 x3)), (4, .int (i2 x4))]) rfl ?_
                refine r_sub [1, 2, 3, 4, 5, 0] rfl ?_
                refine r_iconst B dX11_series_109 ?_
                refine r_istore B dX11_series_110 (by decide) (lv' := [(6, .int (i2 0)), (0, .ref (eA E 236)), (1, .int (i2 x1)), (2, .int (i2 x2)), (3, .int (i2 x3)), (4, .int (i2 x4)), (5, .int (i2 (I32 237 6)))]) rfl ?_
                refine r_sub [1, 2, 3, 4, 5, 6, 0] rfl ?_
                obtain ⟨f37, v⟩ := v
                refine r_sub [0, 1, 2, 3, 4, 5, 6] rfl ?_
                exact wL_M_series_112 B hr hk h1 h2 h3 h4 ((hI32 _ _)) f37 0 I32 hI32 ((rg_lit (by decide) (by decide))) v
              · have v := v.2 h
                refine r_bipush B dX11_series_93 (by decide) ?_
                exact r_iret B hr hk rfl ((rg_lit (by decide) (by decide))) hI28 v dX11_series_95
          · have v := v.2 h
            refine r_bipush B dX11_series_57 (by decide) ?_
            exact r_iret B hr hk rfl ((rg_lit (by decide) (by decide))) hI28 v dX11_series_59
        · have v := v.2 h
          refine r_iconst B dX11_series_45 ?_
          exact r_iret B hr hk rfl ((rg_lit (by decide) (by decide))) hI28 v dX11_series_46
set_option maxHeartbeats 4000000 in
set_option maxRecDepth 100000 in
theorem wL_M_shift_27 {p : Program} {l : Launch} {e : Env} {s : State} {m : MethodId} {args : Array Value} {below : List Frame} {meth : Method} {c0 : Code} {E : En} {A : Nat → Prop} {x1 : Int} {x2 : Int} {Q : Int → Mm → Prop} {K99 : Int → Mm → Prop} (B : Bd p (rmm 5 117) s m args c0 cX11_shift 5 RX11 E A 0 0) (hr : meth.sig.returnType = some .int) (hk : meth.locks = false) (h1 : r32 x1) (h2 : r32 x2)  (k99 : ∀ (x3 : Int) (I : Mm), rgM I → r32 x3 → K99 x3 I → WI p l e (rmm 5 117) s m args below meth c0 E A 5 0 0 (qI below E A args s Q) I 99 [(0, .ref (eA E 236)), (2, .int (i2 x2)), (3, .int (i2 x3))] []) : ∀ (n : Nat) (x3 : Int) (x4 : Int) (I : Mm), rgM I → r32 x3 → r32 x4 → L_M_shift_27 x1 x2 Q K99 n x3 x4 I → WI p l e (rmm 5 117) s m args below meth c0 E A 5 0 0 (qI below E A args s Q) I 27 [(0, .ref (eA E 236)), (1, .int (i2 x1)), (2, .int (i2 x2)), (3, .int (i2 x3)), (4, .int (i2 x4))] [] := by
  intro n
  induction n with
  | zero => intro x3 x4 I _ _ _ v; exact absurd v id
  | succ n ih =>
    intro x3 x4 I hI h3 h4 v
    unfold L_M_shift_27 at v
    refine r_iload B dX11_shift_27 rfl ?_
    refine r_aload_n B dX11_shift_29 rfl rfl ?_
    refine r_getR B (C := RX11) (T := TX11) (N := 25) o_236 0 rfl win_X11 (by decide) rfl wf_X11_7 dX11_shift_30 ?_
    refine r_iconst B dX11_shift_33 ?_
    refine r_ald B a_237 (by decide) (by decide) dX11_shift_34 ?_
    refine r_icmp_ge B (tgt := 99) dX11_shift_35 (by decide) h4 ((hI _ _)) (fun h => ?_) (fun h => ?_)
    · have v := v.1 h
      refine r_sub [0, 2, 3] rfl ?_
      exact k99 x3 _ hI h3 v
    · have v := v.2 h
      refine r_aload_n B dX11_shift_38 rfl rfl ?_
      refine r_getR B (C := RX11) (T := TX11) (N := 25) o_236 0 rfl win_X11 (by decide) rfl wf_X11_7 dX11_shift_39 ?_
      refine r_sipush B dX11_shift_42 (by decide) ?_
      refine r_iload B dX11_shift_45 rfl ?_
      refine r_iadd B dX11_shift_47 ?_
      obtain ⟨h25, v⟩ := v
      refine r_ald B a_237 (by decide) h25 dX11_shift_48 ?_
      refine r_iload_n B dX11_shift_49 rfl rfl ?_
      refine r_icmp_eq B (tgt := 56) dX11_shift_50 (by decide) ((hI _ _)) h1 (fun h => ?_) (fun h => ?_)
      · have v := v.1 h
        refine r_aload_n B dX11_shift_56 rfl rfl ?_
        refine r_getR B (C := RX11) (T := TX11) (N := 25) o_236 8 rfl win_X11 (by decide) rfl wf_X11_26 dX11_shift_57 ?_
        refine r_iload_n B dX11_shift_60 rfl rfl ?_
        refine r_aload_n B dX11_shift_61 rfl rfl ?_
        refine r_getR B (C := RX11) (T := TX11) (N := 25) o_236 0 rfl win_X11 (by decide) rfl wf_X11_7 dX11_shift_62 ?_
        refine r_sipush B dX11_shift_65 (by decide) ?_
        refine r_iload B dX11_shift_68 rfl ?_
        refine r_iadd B dX11_shift_70 ?_
        obtain ⟨h26, v⟩ := v
        refine r_ald B a_237 (by decide) h26 dX11_shift_71 ?_
        obtain ⟨h27, v⟩ := v
        refine r_ast B a_242 (by decide) h27 dX11_shift_72 ?_
        have hI28 : rgM (wrM I 242 x3 (I 237 (380 + x4))) := rg_wr hI ((hI _ _))
        refine r_aload_n B dX11_shift_73 rfl rfl ?_
        refine r_getR B (C := RX11) (T := TX11) (N := 25) o_236 9 rfl win_X11 (by decide) rfl wf_X11_29 dX11_shift_74 ?_
        refine r_iload_n B dX11_shift_77 rfl rfl ?_
        refine r_aload_n B dX11_shift_78 rfl rfl ?_
        refine r_getR B (C := RX11) (T := TX11) (N := 25) o_236 0 rfl win_X11 (by decide) rfl wf_X11_7 dX11_shift_79 ?_
        refine r_sipush B dX11_shift_82 (by decide) ?_
        refine r_iload B dX11_shift_85 rfl ?_
        refine r_iadd B dX11_shift_87 ?_
        obtain ⟨h29, v⟩ := v
        refine r_ald B a_237 (by decide) h29 dX11_shift_88 ?_
        obtain ⟨h30, v⟩ := v
        refine r_ast B a_243 (by decide) h30 dX11_shift_89 ?_
        have hI31 : rgM (wrM ((wrM I 242 x3 (I 237 (380 + x4)))) 243 x3 ((wrM I 242 x3 (I 237 (380 + x4))) 237 (780 + x4))) := rg_wr hI28 ((hI28 _ _))
        refine r_iinc B (q := 3) dX11_shift_90 (by decide) rfl (lv' := [(3, .int (i2 (x3 + 1))), (0, .ref (eA E 236)), (1, .int (i2 x1)), (2, .int (i2 x2)), (4, .int (i2 x4))]) rfl ?_
        refine r_sub [1, 2, 3, 0, 4] rfl ?_
        refine r_iinc B (q := 4) dX11_shift_93 (by decide) rfl (lv' := [(4, .int (i2 (x4 + 1))), (0, .ref (eA E 236)), (1, .int (i2 x1)), (2, .int (i2 x2)), (3, .int (i2 (x3 + 1)))]) rfl ?_
        refine r_sub [1, 2, 3, 4, 0] rfl ?_
        refine r_goto B (tgt := 27) dX11_shift_96 (by decide) ?_
        obtain ⟨h32, v⟩ := v
        obtain ⟨h33, v⟩ := v
        refine r_sub [0, 1, 2, 3, 4] rfl ?_
        exact ih (x3 + 1) (x4 + 1) _ hI31 h32 h33 v
      · have v := v.2 h
        refine r_goto B (tgt := 93) dX11_shift_53 (by decide) ?_
        refine r_iinc B (q := 4) dX11_shift_93 (by decide) rfl (lv' := [(4, .int (i2 (x4 + 1))), (0, .ref (eA E 236)), (1, .int (i2 x1)), (2, .int (i2 x2)), (3, .int (i2 x3))]) rfl ?_
        refine r_sub [1, 2, 3, 4, 0] rfl ?_
        refine r_goto B (tgt := 27) dX11_shift_96 (by decide) ?_
        obtain ⟨h34, v⟩ := v
        refine r_sub [0, 1, 2, 3, 4] rfl ?_
        exact ih x3 (x4 + 1) _ hI h3 h34 v
set_option maxHeartbeats 4000000 in
set_option maxRecDepth 100000 in
theorem wL_M_shift_131 {p : Program} {l : Launch} {e : Env} {s : State} {m : MethodId} {args : Array Value} {below : List Frame} {meth : Method} {c0 : Code} {E : En} {A : Nat → Prop} {x1 : Int} {x2 : Int} {x3 : Int} {Q : Int → Mm → Prop}  (B : Bd p (rmm 5 117) s m args c0 cX11_shift 5 RX11 E A 0 0) (hr : meth.sig.returnType = some .int) (hk : meth.locks = false) (h1 : r32 x1) (h2 : r32 x2) (h3 : r32 x3)  : ∀ (n : Nat) (x4 : Int) (I : Mm), rgM I → r32 x4 → L_M_shift_131 x1 x2 x3 Q n x4 I → WI p l e (rmm 5 117) s m args below meth c0 E A 5 0 0 (qI below E A args s Q) I 131 [(0, .ref (eA E 236)), (2, .int (i2 x2)), (3, .int (i2 x3)), (4, .int (i2 x4))] [] := by
  intro n
  induction n with
  | zero => intro x4 I _ _ v; exact absurd v id
  | succ n ih =>
    intro x4 I hI h4 v
    unfold L_M_shift_131 at v
    refine r_iload B dX11_shift_131 rfl ?_
    refine r_iload_n B dX11_shift_133 rfl rfl ?_
    refine r_icmp_ge B (tgt := 163) dX11_shift_134 (by decide) h4 h3 (fun h => ?_) (fun h => ?_)
    · have v := v.1 h
      refine r_iload_n B dX11_shift_163 rfl rfl ?_
      exact r_iret B hr hk rfl h3 hI v dX11_shift_164
    · have v := v.2 h
      refine r_aload_n B dX11_shift_137 rfl rfl ?_
      refine r_aload_n B dX11_shift_138 rfl rfl ?_
      refine r_getR B (C := RX11) (T := TX11) (N := 25) o_236 8 rfl win_X11 (by decide) rfl wf_X11_26 dX11_shift_139 ?_
      refine r_iload B dX11_shift_142 rfl ?_
      obtain ⟨h40, v⟩ := v
      refine r_ald B a_242 (by decide) h40 dX11_shift_144 ?_
      refine r_aload_n B dX11_shift_145 rfl rfl ?_
      refine r_getR B (C := RX11) (T := TX11) (N := 25) o_236 9 rfl win_X11 (by decide) rfl wf_X11_29 dX11_shift_146 ?_
      refine r_iload B dX11_shift_149 rfl ?_
      obtain ⟨h41, v⟩ := v
      refine r_ald B a_243 (by decide) h41 dX11_shift_151 ?_
      refine r_iload_n B dX11_shift_152 rfl rfl ?_
      refine r_iadd B dX11_shift_153 ?_
      obtain ⟨h42, v⟩ := v
      refine r_cV B (st := []) (as := [.int (i2 (I 242 x4)), .int (i2 (I 243 x4 + x2))]) (T := TX11) (N := 25) (c_M_putsOff (I 242 x4) (I 243 x4 + x2) _ hI ((hI _ _)) h42) v o_236 rfl mw_M_putsOff wl_X11_135 ⟨Nat.le_of_ble_eq_true rfl, Nat.le_of_ble_eq_true rfl⟩ rfl rfl (Nat.le_of_ble_eq_true rfl) dX11_shift_154 (fun I43 hI43 v => ?_)
      refine r_iinc B (q := 3) dX11_shift_157 (by decide) rfl (lv' := [(4, .int (i2 (x4 + 1))), (0, .ref (eA E 236)), (2, .int (i2 x2)), (3, .int (i2 x3))]) rfl ?_
      refine r_sub [1, 2, 3, 0] rfl ?_
      refine r_goto B (tgt := 131) dX11_shift_160 (by decide) ?_
      obtain ⟨h44, v⟩ := v
      refine r_sub [0, 1, 2, 3] rfl ?_
      exact ih (x4 + 1) _ hI43 h44 v
set_option maxHeartbeats 4000000 in
set_option maxRecDepth 100000 in
theorem c_M_shift {l : Launch} {E : En} {A : Nat → Prop} (x1 : Int) (x2 : Int) (I : Mm)  (hI : rgM I) (h1 : r32 x1) (h2 : r32 x2) : CI l E A yX11_shift cX11_shift 5 .int 5 117 [.ref (eA E 236), .int (i2 x1), .int (i2 x2)] I (V_M_shift x1 x2 I) := by
  intro Q v
  refine mk_met (own := RX11) (lv0 := [(0, .ref (eA E 236)), (1, .int (i2 x1)), (2, .int (i2 x2))]) (by decide) rfl (Nat.le_of_ble_eq_true rfl) rfl (fun p e s m args below meth c0 B hr hk => ?_)
  unfold V_M_shift at v
  refine r_aload_n B dX11_shift_0 rfl rfl ?_
  refine r_iload_n B dX11_shift_1 rfl rfl ?_
  refine r_cI B (st := []) (as := [.int (i2 x1)]) (T := TX11) (N := 25) (c_M_isName x1 _ hI h1) v o_236 rfl mw_M_isName wl_X11_111 ⟨Nat.le_of_ble_eq_true rfl, Nat.le_of_ble_eq_true rfl⟩ rfl rfl (Nat.le_of_ble_eq_true rfl) dX11_shift_2 (fun z21 I22 hz21 hI22 v => ?_)
  refine r_if_eq B (tgt := 20) dX11_shift_5 (by decide) hz21 (fun h => ?_) (fun h => ?_)
  · have v := v.1 h
    refine r_iconst B dX11_shift_20 ?_
    exact r_iret B hr hk rfl ((rg_lit (by decide) (by decide))) hI22 v dX11_shift_21
  · have v := v.2 h
    refine r_iload_n B dX11_shift_8 rfl rfl ?_
    refine r_i2l B dX11_shift_9 h2 ?_
    refine r_lconst B 1 dX11_shift_10 (by decide) ?_
    refine r_ldc2 B (999999) dX11_shift_11 wc_X11_139 (by decide) ?_
    refine r_sI B (st := []) (as := [.long (l2 x2), .long (l2 1), .long (l2 999999)]) (c_M_in x2 1 999999 _ hI22 ((rg_64 h2)) ((show r64 (1) by exact ⟨by decide, by decide⟩)) ((show r64 (999999) by exact ⟨by decide, by decide⟩))) v mw_M_in wl_X11_55 ⟨Nat.le_of_ble_eq_true rfl, Nat.le_of_ble_eq_true rfl⟩ rfl rfl (Nat.le_of_ble_eq_true rfl) dX11_shift_14 (fun z23 I24 hz23 hI24 v => ?_)
    refine r_if_ne B (tgt := 22) dX11_shift_17 (by decide) hz23 (fun h => ?_) (fun h => ?_)
    · have v := v.1 h
      refine r_iconst B dX11_shift_22 ?_
      refine r_istore_n B dX11_shift_23 rfl (by decide) (lv' := [(3, .int (i2 0)), (0, .ref (eA E 236)), (1, .int (i2 x1)), (2, .int (i2 x2))]) rfl ?_
      refine r_sub [1, 2, 3, 0] rfl ?_
      refine r_iconst B dX11_shift_24 ?_
      refine r_istore B dX11_shift_25 (by decide) (lv' := [(4, .int (i2 0)), (0, .ref (eA E 236)), (1, .int (i2 x1)), (2, .int (i2 x2)), (3, .int (i2 0))]) rfl ?_
      refine r_sub [1, 2, 3, 4, 0] rfl ?_
      obtain ⟨f46, v⟩ := v
      refine r_sub [0, 1, 2, 3, 4] rfl ?_
      refine wL_M_shift_27 B hr hk h1 h2 (fun y35 I36 hI36 hy35 v => ?_) f46 0 0 I24 hI24 ((rg_lit (by decide) (by decide))) ((rg_lit (by decide) (by decide))) v
      · refine r_iload_n B dX11_shift_99 rfl rfl ?_
        refine r_if_ne B (tgt := 106) dX11_shift_100 (by decide) hy35 (fun h => ?_) (fun h => ?_)
        · have v := v.1 h
          refine r_aload_n B dX11_shift_106 rfl rfl ?_
          refine r_getR B (C := RX11) (T := TX11) (N := 25) o_236 9 rfl win_X11 (by decide) rfl wf_X11_29 dX11_shift_107 ?_
          refine r_iload_n B dX11_shift_110 rfl rfl ?_
          refine r_iconst B dX11_shift_111 ?_
          refine r_isub B dX11_shift_112 ?_
          obtain ⟨h37, v⟩ := v
          refine r_ald B a_243 (by decide) h37 dX11_shift_113 ?_
          refine r_iload_n B dX11_shift_114 rfl rfl ?_
          refine r_iadd B dX11_shift_115 ?_
          refine r_ldc B (999999999) dX11_shift_116 wc_X11_103 (by decide) ?_
          obtain ⟨h38, v⟩ := v
          refine r_icmp_le B (tgt := 124) dX11_shift_118 (by decide) h38 ((rg_lit (by decide) (by decide))) (fun h => ?_) (fun h => ?_)
          · have v := v.1 h
            refine r_aload_n B dX11_shift_124 rfl rfl ?_
            refine r_cV B (st := []) (as := []) (T := TX11) (N := 25) (c_M_keepsAct _ hI36 ) v o_236 rfl mw_M_keepsAct wl_X11_117 ⟨Nat.le_of_ble_eq_true rfl, Nat.le_of_ble_eq_true rfl⟩ rfl rfl (Nat.le_of_ble_eq_true rfl) dX11_shift_125 (fun I39 hI39 v => ?_)
            refine r_iconst B dX11_shift_128 ?_
            refine r_istore B dX11_shift_129 (by decide) (lv' := [(4, .int (i2 0)), (0, .ref (eA E 236)), (2, .int (i2 x2)), (3, .int (i2 y35))]) rfl ?_
            refine r_sub [1, 2, 3, 0] rfl ?_
            obtain ⟨f45, v⟩ := v
            refine r_sub [0, 1, 2, 3] rfl ?_
            exact wL_M_shift_131 B hr hk h1 h2 hy35 f45 0 I39 hI39 ((rg_lit (by decide) (by decide))) v
          · have v := v.2 h
            refine r_bipush B dX11_shift_121 (by decide) ?_
            exact r_iret B hr hk rfl ((rg_lit (by decide) (by decide))) hI36 v dX11_shift_123
        · have v := v.2 h
          refine r_bipush B dX11_shift_103 (by decide) ?_
          exact r_iret B hr hk rfl ((rg_lit (by decide) (by decide))) hI36 v dX11_shift_105
    · have v := v.2 h
      refine r_iconst B dX11_shift_20 ?_
      exact r_iret B hr hk rfl ((rg_lit (by decide) (by decide))) hI24 v dX11_shift_21
set_option maxHeartbeats 4000000 in
set_option maxRecDepth 100000 in
theorem c_M_adds {l : Launch} {E : En} {A : Nat → Prop} (x1 : Int) (x2 : Int) (x3 : Int) (I : Mm)  (hI : rgM I) (h1 : r32 x1) (h2 : r32 x2) (h3 : r32 x3) : CV l E A yX11_adds cX11_adds 5 0 0 [.ref (eA E 236), .int (i2 x1), .int (i2 x2), .int (i2 x3)] I (V_M_adds x1 x2 x3 I) := by
  intro Q v
  refine mk_met (own := RX11) (lv0 := [(0, .ref (eA E 236)), (1, .int (i2 x1)), (2, .int (i2 x2)), (3, .int (i2 x3))]) (by decide) rfl (Nat.le_of_ble_eq_true rfl) rfl (fun p e s m args below meth c0 B hr hk => ?_)
  unfold V_M_adds at v
  refine r_sipush B dX11_adds_0 (by decide) ?_
  refine r_iconst B dX11_adds_3 ?_
  refine r_aload_n B dX11_adds_4 rfl rfl ?_
  refine r_getR B (C := RX11) (T := TX11) (N := 25) o_236 0 rfl win_X11 (by decide) rfl wf_X11_7 dX11_adds_5 ?_
  refine r_iconst B dX11_adds_8 ?_
  refine r_ald B a_237 (by decide) (by decide) dX11_adds_9 ?_
  refine r_imul B dX11_adds_10 ?_
  refine r_iadd B dX11_adds_11 ?_
  refine r_istore B dX11_adds_12 (by decide) (lv' := [(4, .int (i2 (144 + (3 * I 237 5)))), (0, .ref (eA E 236)), (1, .int (i2 x1)), (2, .int (i2 x2)), (3, .int (i2 x3))]) rfl ?_
  refine r_sub [1, 2, 3, 4, 0] rfl ?_
  refine r_aload_n B dX11_adds_14 rfl rfl ?_
  refine r_getR B (C := RX11) (T := TX11) (N := 25) o_236 0 rfl win_X11 (by decide) rfl wf_X11_7 dX11_adds_15 ?_
  refine r_iload B dX11_adds_18 rfl ?_
  refine r_iload_n B dX11_adds_20 rfl rfl ?_
  obtain ⟨h21, v⟩ := v
  refine r_ast B a_237 (by decide) h21 dX11_adds_21 ?_
  have hI22 : rgM (wrM I 237 (144 + (3 * I 237 5)) x1) := rg_wr hI h1
  refine r_aload_n B dX11_adds_22 rfl rfl ?_
  refine r_getR B (C := RX11) (T := TX11) (N := 25) o_236 0 rfl win_X11 (by decide) rfl wf_X11_7 dX11_adds_23 ?_
  refine r_iload B dX11_adds_26 rfl ?_
  refine r_iconst B dX11_adds_28 ?_
  refine r_iadd B dX11_adds_29 ?_
  refine r_iload_n B dX11_adds_30 rfl rfl ?_
  obtain ⟨h23, v⟩ := v
  refine r_ast B a_237 (by decide) h23 dX11_adds_31 ?_
  have hI24 : rgM (wrM ((wrM I 237 (144 + (3 * I 237 5)) x1)) 237 ((144 + (3 * I 237 5)) + 1) x2) := rg_wr hI22 h2
  refine r_aload_n B dX11_adds_32 rfl rfl ?_
  refine r_getR B (C := RX11) (T := TX11) (N := 25) o_236 0 rfl win_X11 (by decide) rfl wf_X11_7 dX11_adds_33 ?_
  refine r_iload B dX11_adds_36 rfl ?_
  refine r_iconst B dX11_adds_38 ?_
  refine r_iadd B dX11_adds_39 ?_
  refine r_iload_n B dX11_adds_40 rfl rfl ?_
  obtain ⟨h25, v⟩ := v
  refine r_ast B a_237 (by decide) h25 dX11_adds_41 ?_
  have hI26 : rgM (wrM ((wrM ((wrM I 237 (144 + (3 * I 237 5)) x1)) 237 ((144 + (3 * I 237 5)) + 1) x2)) 237 ((144 + (3 * I 237 5)) + 2) x3) := rg_wr hI24 h3
  refine r_aload_n B dX11_adds_42 rfl rfl ?_
  refine r_getR B (C := RX11) (T := TX11) (N := 25) o_236 0 rfl win_X11 (by decide) rfl wf_X11_7 dX11_adds_43 ?_
  refine r_iconst B dX11_adds_46 ?_
  refine r_dup2 B dX11_adds_47 rfl rfl ?_
  refine r_ald B a_237 (by decide) (by decide) dX11_adds_48 ?_
  refine r_iconst B dX11_adds_49 ?_
  refine r_iadd B dX11_adds_50 ?_
  obtain ⟨h27, v⟩ := v
  refine r_ast B a_237 (by decide) (by decide) dX11_adds_51 ?_
  have hI28 : rgM (wrM ((wrM ((wrM ((wrM I 237 (144 + (3 * I 237 5)) x1)) 237 ((144 + (3 * I 237 5)) + 1) x2)) 237 ((144 + (3 * I 237 5)) + 2) x3)) 237 5 ((wrM ((wrM ((wrM I 237 (144 + (3 * I 237 5)) x1)) 237 ((144 + (3 * I 237 5)) + 1) x2)) 237 ((144 + (3 * I 237 5)) + 2) x3) 237 5 + 1)) := rg_wr hI26 h27
  exact r_vret B hr hk hI28 v dX11_adds_52
set_option maxHeartbeats 4000000 in
set_option maxRecDepth 100000 in
theorem c_M_rule {l : Launch} {E : En} {A : Nat → Prop} (x1 : Int) (x2 : Int) (x3 : Int) (I : Mm)  (hI : rgM I) (h1 : r32 x1) (h2 : r32 x2) (h3 : r32 x3) : CI l E A yX11_rule cX11_rule 4 .int 2 46 [.ref (eA E 236), .int (i2 x1), .int (i2 x2), .int (i2 x3)] I (V_M_rule x1 x2 x3 I) := by
  intro Q v
  refine mk_met (own := RX11) (lv0 := [(0, .ref (eA E 236)), (1, .int (i2 x1)), (2, .int (i2 x2)), (3, .int (i2 x3))]) (by decide) rfl (Nat.le_of_ble_eq_true rfl) rfl (fun p e s m args below meth c0 B hr hk => ?_)
  unfold V_M_rule at v
  refine r_aload_n B dX11_rule_0 rfl rfl ?_
  refine r_iload_n B dX11_rule_1 rfl rfl ?_
  refine r_cI B (st := []) (as := [.int (i2 x1)]) (T := TX11) (N := 25) (c_M_isName x1 _ hI h1) v o_236 rfl mw_M_isName wl_X11_111 ⟨Nat.le_of_ble_eq_true rfl, Nat.le_of_ble_eq_true rfl⟩ rfl rfl (Nat.le_of_ble_eq_true rfl) dX11_rule_2 (fun z21 I22 hz21 hI22 v => ?_)
  refine r_if_eq B (tgt := 28) dX11_rule_5 (by decide) hz21 (fun h => ?_) (fun h => ?_)
  · have v := v.1 h
    refine r_iconst B dX11_rule_28 ?_
    exact r_iret B hr hk rfl ((rg_lit (by decide) (by decide))) hI22 v dX11_rule_29
  · have v := v.2 h
    refine r_aload_n B dX11_rule_8 rfl rfl ?_
    refine r_iload_n B dX11_rule_9 rfl rfl ?_
    refine r_cI B (st := []) (as := [.int (i2 x2)]) (T := TX11) (N := 25) (c_M_isName x2 _ hI22 h2) v o_236 rfl mw_M_isName wl_X11_111 ⟨Nat.le_of_ble_eq_true rfl, Nat.le_of_ble_eq_true rfl⟩ rfl rfl (Nat.le_of_ble_eq_true rfl) dX11_rule_10 (fun z23 I24 hz23 hI24 v => ?_)
    refine r_if_eq B (tgt := 28) dX11_rule_13 (by decide) hz23 (fun h => ?_) (fun h => ?_)
    · have v := v.1 h
      refine r_iconst B dX11_rule_28 ?_
      exact r_iret B hr hk rfl ((rg_lit (by decide) (by decide))) hI24 v dX11_rule_29
    · have v := v.2 h
      refine r_iload_n B dX11_rule_16 rfl rfl ?_
      refine r_i2l B dX11_rule_17 h3 ?_
      refine r_lconst B 1 dX11_rule_18 (by decide) ?_
      refine r_ldc2 B (999999) dX11_rule_19 wc_X11_139 (by decide) ?_
      refine r_sI B (st := []) (as := [.long (l2 x3), .long (l2 1), .long (l2 999999)]) (c_M_in x3 1 999999 _ hI24 ((rg_64 h3)) ((show r64 (1) by exact ⟨by decide, by decide⟩)) ((show r64 (999999) by exact ⟨by decide, by decide⟩))) v mw_M_in wl_X11_55 ⟨Nat.le_of_ble_eq_true rfl, Nat.le_of_ble_eq_true rfl⟩ rfl rfl (Nat.le_of_ble_eq_true rfl) dX11_rule_22 (fun z25 I26 hz25 hI26 v => ?_)
      refine r_if_ne B (tgt := 30) dX11_rule_25 (by decide) hz25 (fun h => ?_) (fun h => ?_)
      · have v := v.1 h
        refine r_aload_n B dX11_rule_30 rfl rfl ?_
        refine r_getR B (C := RX11) (T := TX11) (N := 25) o_236 0 rfl win_X11 (by decide) rfl wf_X11_7 dX11_rule_31 ?_
        refine r_iconst B dX11_rule_34 ?_
        refine r_ald B a_237 (by decide) (by decide) dX11_rule_35 ?_
        refine r_bipush B dX11_rule_36 (by decide) ?_
        refine r_icmp_ne B (tgt := 44) dX11_rule_38 (by decide) ((hI26 _ _)) ((rg_lit (by decide) (by decide))) (fun h => ?_) (fun h => ?_)
        · have v := v.1 h
          refine r_aload_n B dX11_rule_44 rfl rfl ?_
          refine r_cV B (st := []) (as := []) (T := TX11) (N := 25) (c_M_keepsAct _ hI26 ) v o_236 rfl mw_M_keepsAct wl_X11_117 ⟨Nat.le_of_ble_eq_true rfl, Nat.le_of_ble_eq_true rfl⟩ rfl rfl (Nat.le_of_ble_eq_true rfl) dX11_rule_45 (fun I27 hI27 v => ?_)
          refine r_aload_n B dX11_rule_48 rfl rfl ?_
          refine r_iload_n B dX11_rule_49 rfl rfl ?_
          refine r_iload_n B dX11_rule_50 rfl rfl ?_
          refine r_iload_n B dX11_rule_51 rfl rfl ?_
          refine r_cV B (st := []) (as := [.int (i2 x1), .int (i2 x2), .int (i2 x3)]) (T := TX11) (N := 25) (c_M_adds x1 x2 x3 _ hI27 h1 h2 h3) v o_236 rfl mw_M_adds wl_X11_143 ⟨Nat.le_of_ble_eq_true rfl, Nat.le_of_ble_eq_true rfl⟩ rfl rfl (Nat.le_of_ble_eq_true rfl) dX11_rule_52 (fun I28 hI28 v => ?_)
          refine r_aload_n B dX11_rule_55 rfl rfl ?_
          refine r_getR B (C := RX11) (T := TX11) (N := 25) o_236 0 rfl win_X11 (by decide) rfl wf_X11_7 dX11_rule_56 ?_
          refine r_iconst B dX11_rule_59 ?_
          refine r_ald B a_237 (by decide) (by decide) dX11_rule_60 ?_
          refine r_iconst B dX11_rule_61 ?_
          refine r_isub B dX11_rule_62 ?_
          obtain ⟨h29, v⟩ := v
          exact r_iret B hr hk rfl h29 hI28 v dX11_rule_63
        · have v := v.2 h
          refine r_bipush B dX11_rule_41 (by decide) ?_
          exact r_iret B hr hk rfl ((rg_lit (by decide) (by decide))) hI26 v dX11_rule_43
      · have v := v.2 h
        refine r_iconst B dX11_rule_28 ?_
        exact r_iret B hr hk rfl ((rg_lit (by decide) (by decide))) hI26 v dX11_rule_29
set_option maxHeartbeats 4000000 in
set_option maxRecDepth 100000 in
theorem c_M_isRule {l : Launch} {E : En} {A : Nat → Prop} (x1 : Int) (I : Mm)  (hI : rgM I) (h1 : r32 x1) : CI l E A yX11_isRule cX11_isRule 2 .boolean 1 25 [.ref (eA E 236), .int (i2 x1)] I (V_M_isRule x1 I) := by
  intro Q v
  refine mk_met (own := RX11) (lv0 := [(0, .ref (eA E 236)), (1, .int (i2 x1))]) (by decide) rfl (Nat.le_of_ble_eq_true rfl) rfl (fun p e s m args below meth c0 B hr hk => ?_)
  unfold V_M_isRule at v
  refine r_iload_n B dX11_isRule_0 rfl rfl ?_
  refine r_i2l B dX11_isRule_1 h1 ?_
  refine r_lconst B 0 dX11_isRule_2 (by decide) ?_
  refine r_aload_n B dX11_isRule_3 rfl rfl ?_
  refine r_getR B (C := RX11) (T := TX11) (N := 25) o_236 0 rfl win_X11 (by decide) rfl wf_X11_7 dX11_isRule_4 ?_
  refine r_iconst B dX11_isRule_7 ?_
  refine r_ald B a_237 (by decide) (by decide) dX11_isRule_8 ?_
  refine r_iconst B dX11_isRule_9 ?_
  refine r_isub B dX11_isRule_10 ?_
  obtain ⟨h21, v⟩ := v
  refine r_i2l B dX11_isRule_11 h21 ?_
  refine r_sI B (st := []) (as := [.long (l2 x1), .long (l2 0), .long (l2 (I 237 5 - 1))]) (c_M_in x1 0 (I 237 5 - 1) _ hI ((rg_64 h1)) ((show r64 (0) by exact ⟨by decide, by decide⟩)) ((rg_64 h21))) v mw_M_in wl_X11_55 ⟨Nat.le_of_ble_eq_true rfl, Nat.le_of_ble_eq_true rfl⟩ rfl rfl (Nat.le_of_ble_eq_true rfl) dX11_isRule_12 (fun z22 I23 hz22 hI23 v => ?_)
  obtain ⟨h24, v⟩ := v
  exact r_iret B hr hk (nar_z h24) ((bl01 h24)) hI23 v dX11_isRule_15
set_option maxHeartbeats 4000000 in
set_option maxRecDepth 100000 in
theorem wL_M_unrule_32 {p : Program} {l : Launch} {e : Env} {s : State} {m : MethodId} {args : Array Value} {below : List Frame} {meth : Method} {c0 : Code} {E : En} {A : Nat → Prop} {x1 : Int} {Q : Int → Mm → Prop}  (B : Bd p (rmm 2 46) s m args c0 cX11_unrule 3 RX11 E A 0 0) (hr : meth.sig.returnType = some .int) (hk : meth.locks = false) (h1 : r32 x1)   : ∀ (n : Nat) (x2 : Int) (I : Mm), rgM I → r32 x2 → L_M_unrule_32 x1 Q n x2 I → WI p l e (rmm 2 46) s m args below meth c0 E A 3 0 0 (qI below E A args s Q) I 32 [(0, .ref (eA E 236)), (2, .int (i2 x2))] [] := by
  intro n
  induction n with
  | zero => intro x2 I _ _ v; exact absurd v id
  | succ n ih =>
    intro x2 I hI h2 v
    unfold L_M_unrule_32 at v
    refine r_iload_n B dX11_unrule_32 rfl rfl ?_
    refine r_sipush B dX11_unrule_33 (by decide) ?_
    refine r_iconst B dX11_unrule_36 ?_
    refine r_aload_n B dX11_unrule_37 rfl rfl ?_
    refine r_getR B (C := RX11) (T := TX11) (N := 25) o_236 0 rfl win_X11 (by decide) rfl wf_X11_7 dX11_unrule_38 ?_
    refine r_iconst B dX11_unrule_41 ?_
    refine r_ald B a_237 (by decide) (by decide) dX11_unrule_42 ?_
    refine r_imul B dX11_unrule_43 ?_
    refine r_iadd B dX11_unrule_44 ?_
    obtain ⟨h26, v⟩ := v
    refine r_icmp_ge B (tgt := 68) dX11_unrule_45 (by decide) h2 h26 (fun h => ?_) (fun h => ?_)
    · have v := v.1 h
      refine r_aload_n B dX11_unrule_68 rfl rfl ?_
      refine r_getR B (C := RX11) (T := TX11) (N := 25) o_236 0 rfl win_X11 (by decide) rfl wf_X11_7 dX11_unrule_69 ?_
      refine r_iconst B dX11_unrule_72 ?_
      refine r_ald B a_237 (by decide) (by decide) dX11_unrule_73 ?_
      exact r_iret B hr hk rfl ((hI _ _)) hI v dX11_unrule_74
    · have v := v.2 h
      refine r_aload_n B dX11_unrule_48 rfl rfl ?_
      refine r_getR B (C := RX11) (T := TX11) (N := 25) o_236 0 rfl win_X11 (by decide) rfl wf_X11_7 dX11_unrule_49 ?_
      refine r_iload_n B dX11_unrule_52 rfl rfl ?_
      refine r_aload_n B dX11_unrule_53 rfl rfl ?_
      refine r_getR B (C := RX11) (T := TX11) (N := 25) o_236 0 rfl win_X11 (by decide) rfl wf_X11_7 dX11_unrule_54 ?_
      refine r_iload_n B dX11_unrule_57 rfl rfl ?_
      refine r_iconst B dX11_unrule_58 ?_
      refine r_iadd B dX11_unrule_59 ?_
      obtain ⟨h27, v⟩ := v
      refine r_ald B a_237 (by decide) h27 dX11_unrule_60 ?_
      obtain ⟨h28, v⟩ := v
      refine r_ast B a_237 (by decide) h28 dX11_unrule_61 ?_
      have hI29 : rgM (wrM I 237 x2 (I 237 (x2 + 3))) := rg_wr hI ((hI _ _))
      refine r_iinc B (q := 1) dX11_unrule_62 (by decide) rfl (lv' := [(2, .int (i2 (x2 + 1))), (0, .ref (eA E 236))]) rfl ?_
      refine r_sub [1, 0] rfl ?_
      refine r_goto B (tgt := 32) dX11_unrule_65 (by decide) ?_
      obtain ⟨h30, v⟩ := v
      refine r_sub [0, 1] rfl ?_
      exact ih (x2 + 1) _ hI29 h30 v
set_option maxHeartbeats 4000000 in
set_option maxRecDepth 100000 in
theorem c_M_unrule {l : Launch} {E : En} {A : Nat → Prop} (x1 : Int) (I : Mm)  (hI : rgM I) (h1 : r32 x1) : CI l E A yX11_unrule cX11_unrule 3 .int 2 46 [.ref (eA E 236), .int (i2 x1)] I (V_M_unrule x1 I) := by
  intro Q v
  refine mk_met (own := RX11) (lv0 := [(0, .ref (eA E 236)), (1, .int (i2 x1))]) (by decide) rfl (Nat.le_of_ble_eq_true rfl) rfl (fun p e s m args below meth c0 B hr hk => ?_)
  unfold V_M_unrule at v
  refine r_aload_n B dX11_unrule_0 rfl rfl ?_
  refine r_iload_n B dX11_unrule_1 rfl rfl ?_
  refine r_cI B (st := []) (as := [.int (i2 x1)]) (T := TX11) (N := 25) (c_M_isRule x1 _ hI h1) v o_236 rfl mw_M_isRule wl_X11_146 ⟨Nat.le_of_ble_eq_true rfl, Nat.le_of_ble_eq_true rfl⟩ rfl rfl (Nat.le_of_ble_eq_true rfl) dX11_unrule_2 (fun z21 I22 hz21 hI22 v => ?_)
  refine r_if_ne B (tgt := 10) dX11_unrule_5 (by decide) hz21 (fun h => ?_) (fun h => ?_)
  · have v := v.1 h
    refine r_aload_n B dX11_unrule_10 rfl rfl ?_
    refine r_cV B (st := []) (as := []) (T := TX11) (N := 25) (c_M_keepsAct _ hI22 ) v o_236 rfl mw_M_keepsAct wl_X11_117 ⟨Nat.le_of_ble_eq_true rfl, Nat.le_of_ble_eq_true rfl⟩ rfl rfl (Nat.le_of_ble_eq_true rfl) dX11_unrule_11 (fun I23 hI23 v => ?_)
    refine r_aload_n B dX11_unrule_14 rfl rfl ?_
    refine r_getR B (C := RX11) (T := TX11) (N := 25) o_236 0 rfl win_X11 (by decide) rfl wf_X11_7 dX11_unrule_15 ?_
    refine r_iconst B dX11_unrule_18 ?_
    refine r_dup2 B dX11_unrule_19 rfl rfl ?_
    refine r_ald B a_237 (by decide) (by decide) dX11_unrule_20 ?_
    refine r_iconst B dX11_unrule_21 ?_
    refine r_isub B dX11_unrule_22 ?_
    obtain ⟨h24, v⟩ := v
    refine r_ast B a_237 (by decide) (by decide) dX11_unrule_23 ?_
    have hI25 : rgM (wrM I23 237 5 (I23 237 5 - 1)) := rg_wr hI23 h24
    refine r_sipush B dX11_unrule_24 (by decide) ?_
    refine r_iconst B dX11_unrule_27 ?_
    refine r_iload_n B dX11_unrule_28 rfl rfl ?_
    refine r_imul B dX11_unrule_29 ?_
    refine r_iadd B dX11_unrule_30 ?_
    refine r_istore_n B dX11_unrule_31 rfl (by decide) (lv' := [(2, .int (i2 (144 + (3 * x1)))), (0, .ref (eA E 236)), (1, .int (i2 x1))]) rfl ?_
    refine r_sub [1, 2, 0] rfl ?_
    obtain ⟨h31, v⟩ := v
    obtain ⟨f32, v⟩ := v
    refine r_sub [0, 2] rfl ?_
    exact wL_M_unrule_32 B hr hk h1 f32 (144 + (3 * x1)) _ hI25 h31 v
  · have v := v.2 h
    refine r_iconst B dX11_unrule_8 ?_
    exact r_iret B hr hk rfl ((rg_lit (by decide) (by decide))) hI22 v dX11_unrule_9
set_option maxHeartbeats 4000000 in
set_option maxRecDepth 100000 in
theorem c_M_areRows {l : Launch} {E : En} {A : Nat → Prop} (x0 : Int) (I : Mm)  (hI : rgM I) (h0 : r32 x0) : CI l E A yX11_areRows cX11_areRows 1 .boolean 0 0 [.int (i2 x0)] I (V_M_areRows x0 I) := by
  intro Q v
  refine mk_met (own := RX11) (lv0 := [(0, .int (i2 x0))]) (by decide) rfl (Nat.le_of_ble_eq_true rfl) rfl (fun p e s m args below meth c0 B hr hk => ?_)
  unfold V_M_areRows at v
  refine r_iload_n B dX11_areRows_0 rfl rfl ?_
  refine r_iconst B dX11_areRows_1 ?_
  refine r_icmp_eq B (tgt := 34) dX11_areRows_2 (by decide) h0 ((rg_lit (by decide) (by decide))) (fun h => ?_) (fun h => ?_)
  · have v := v.1 h
    refine r_iconst B dX11_areRows_34 ?_
    refine r_goto B (tgt := 39) dX11_areRows_35 (by decide) ?_
    exact r_iret B hr hk rfl ((rg_lit (by decide) (by decide))) hI v dX11_areRows_39
  · have v := v.2 h
    refine r_iload_n B dX11_areRows_5 rfl rfl ?_
    refine r_iconst B dX11_areRows_6 ?_
    refine r_icmp_eq B (tgt := 34) dX11_areRows_7 (by decide) h0 ((rg_lit (by decide) (by decide))) (fun h => ?_) (fun h => ?_)
    · have v := v.1 h
      refine r_iconst B dX11_areRows_34 ?_
      refine r_goto B (tgt := 39) dX11_areRows_35 (by decide) ?_
      exact r_iret B hr hk rfl ((rg_lit (by decide) (by decide))) hI v dX11_areRows_39
    · have v := v.2 h
      refine r_iload_n B dX11_areRows_10 rfl rfl ?_
      refine r_bipush B dX11_areRows_11 (by decide) ?_
      refine r_icmp_eq B (tgt := 34) dX11_areRows_13 (by decide) h0 ((rg_lit (by decide) (by decide))) (fun h => ?_) (fun h => ?_)
      · have v := v.1 h
        refine r_iconst B dX11_areRows_34 ?_
        refine r_goto B (tgt := 39) dX11_areRows_35 (by decide) ?_
        exact r_iret B hr hk rfl ((rg_lit (by decide) (by decide))) hI v dX11_areRows_39
      · have v := v.2 h
        refine r_iload_n B dX11_areRows_16 rfl rfl ?_
        refine r_bipush B dX11_areRows_17 (by decide) ?_
        refine r_icmp_eq B (tgt := 34) dX11_areRows_19 (by decide) h0 ((rg_lit (by decide) (by decide))) (fun h => ?_) (fun h => ?_)
        · have v := v.1 h
          refine r_iconst B dX11_areRows_34 ?_
          refine r_goto B (tgt := 39) dX11_areRows_35 (by decide) ?_
          exact r_iret B hr hk rfl ((rg_lit (by decide) (by decide))) hI v dX11_areRows_39
        · have v := v.2 h
          refine r_iload_n B dX11_areRows_22 rfl rfl ?_
          refine r_bipush B dX11_areRows_23 (by decide) ?_
          refine r_icmp_eq B (tgt := 34) dX11_areRows_25 (by decide) h0 ((rg_lit (by decide) (by decide))) (fun h => ?_) (fun h => ?_)
          · have v := v.1 h
            refine r_iconst B dX11_areRows_34 ?_
            refine r_goto B (tgt := 39) dX11_areRows_35 (by decide) ?_
            exact r_iret B hr hk rfl ((rg_lit (by decide) (by decide))) hI v dX11_areRows_39
          · have v := v.2 h
            refine r_iload_n B dX11_areRows_28 rfl rfl ?_
            refine r_bipush B dX11_areRows_29 (by decide) ?_
            refine r_icmp_ne B (tgt := 38) dX11_areRows_31 (by decide) h0 ((rg_lit (by decide) (by decide))) (fun h => ?_) (fun h => ?_)
            · have v := v.1 h
              refine r_iconst B dX11_areRows_38 ?_
              exact r_iret B hr hk rfl ((rg_lit (by decide) (by decide))) hI v dX11_areRows_39
            · have v := v.2 h
              refine r_iconst B dX11_areRows_34 ?_
              refine r_goto B (tgt := 39) dX11_areRows_35 (by decide) ?_
              exact r_iret B hr hk rfl ((rg_lit (by decide) (by decide))) hI v dX11_areRows_39
set_option maxHeartbeats 4000000 in
set_option maxRecDepth 100000 in
theorem wJ_M_resizes_21 {p : Program} {l : Launch} {e : Env} {s : State} {m : MethodId} {args : Array Value} {below : List Frame} {meth : Method} {c0 : Code} {E : En} {A : Nat → Prop} {x1 : Int} {x2 : Int} {Q : Mm → Prop}  (B : Bd p (rmm 0 0) s m args c0 cX11_resizes 3 RX11 E A 0 0) (hr : meth.sig.returnType = none) (hk : meth.locks = false) (h1 : r32 x1) (h2 : r32 x2)   : ∀ (I : Mm), rgM I → J_M_resizes_21 x1 x2 Q I → WI p l e (rmm 0 0) s m args below meth c0 E A 3 0 0 (qV below E A args s Q) I 21 [(0, .ref (eA E 236)), (1, .int (i2 x1)), (2, .int (i2 x2))] [] := by
  intro  I hI  v
  unfold J_M_resizes_21 at v
  refine r_aload_n B dX11_resizes_21 rfl rfl ?_
  refine r_getR B (C := RX11) (T := TX11) (N := 25) o_236 0 rfl win_X11 (by decide) rfl wf_X11_7 dX11_resizes_22 ?_
  refine r_iconst B dX11_resizes_25 ?_
  refine r_iload_n B dX11_resizes_26 rfl rfl ?_
  refine r_ast B a_237 (by decide) (by decide) dX11_resizes_27 ?_
  have hI21 : rgM (wrM I 237 1 x1) := rg_wr hI h1
  refine r_aload_n B dX11_resizes_28 rfl rfl ?_
  refine r_getR B (C := RX11) (T := TX11) (N := 25) o_236 0 rfl win_X11 (by decide) rfl wf_X11_7 dX11_resizes_29 ?_
  refine r_iconst B dX11_resizes_32 ?_
  refine r_iload_n B dX11_resizes_33 rfl rfl ?_
  refine r_ast B a_237 (by decide) (by decide) dX11_resizes_34 ?_
  have hI22 : rgM (wrM ((wrM I 237 1 x1)) 237 2 x2) := rg_wr hI21 h2
  refine r_aload_n B dX11_resizes_35 rfl rfl ?_
  refine r_getR B (C := RX11) (T := TX11) (N := 25) o_236 0 rfl win_X11 (by decide) rfl wf_X11_7 dX11_resizes_36 ?_
  refine r_bipush B dX11_resizes_39 (by decide) ?_
  refine r_dup2 B dX11_resizes_41 rfl rfl ?_
  refine r_ald B a_237 (by decide) (by decide) dX11_resizes_42 ?_
  refine r_aload_n B dX11_resizes_43 rfl rfl ?_
  refine r_getR B (C := RX11) (T := TX11) (N := 25) o_236 0 rfl win_X11 (by decide) rfl wf_X11_7 dX11_resizes_44 ?_
  refine r_iconst B dX11_resizes_47 ?_
  refine r_ald B a_237 (by decide) (by decide) dX11_resizes_48 ?_
  refine r_iadd B dX11_resizes_49 ?_
  obtain ⟨h23, v⟩ := v
  refine r_ast B a_237 (by decide) (by decide) dX11_resizes_50 ?_
  have hI24 : rgM (wrM ((wrM ((wrM I 237 1 x1)) 237 2 x2)) 237 9 ((wrM ((wrM I 237 1 x1)) 237 2 x2) 237 9 + (wrM ((wrM I 237 1 x1)) 237 2 x2) 237 0)) := rg_wr hI22 h23
  exact r_vret B hr hk hI24 v dX11_resizes_51
set_option maxHeartbeats 4000000 in
set_option maxRecDepth 100000 in
theorem c_M_resizes {l : Launch} {E : En} {A : Nat → Prop} (x1 : Int) (x2 : Int) (I : Mm)  (hI : rgM I) (h1 : r32 x1) (h2 : r32 x2) : CV l E A yX11_resizes cX11_resizes 3 0 0 [.ref (eA E 236), .int (i2 x1), .int (i2 x2)] I (V_M_resizes x1 x2 I) := by
  intro Q v
  refine mk_met (own := RX11) (lv0 := [(0, .ref (eA E 236)), (1, .int (i2 x1)), (2, .int (i2 x2))]) (by decide) rfl (Nat.le_of_ble_eq_true rfl) rfl (fun p e s m args below meth c0 B hr hk => ?_)
  unfold V_M_resizes at v
  refine r_aload_n B dX11_resizes_0 rfl rfl ?_
  refine r_getR B (C := RX11) (T := TX11) (N := 25) o_236 0 rfl win_X11 (by decide) rfl wf_X11_7 dX11_resizes_1 ?_
  refine r_iconst B dX11_resizes_4 ?_
  refine r_ald B a_237 (by decide) (by decide) dX11_resizes_5 ?_
  refine r_iload_n B dX11_resizes_6 rfl rfl ?_
  refine r_icmp_ne B (tgt := 21) dX11_resizes_7 (by decide) ((hI _ _)) h1 (fun h => ?_) (fun h => ?_)
  · have v := v.1 h
    refine r_sub [0, 1, 2] rfl ?_
    exact wJ_M_resizes_21 B hr hk h1 h2 I hI v
  · have v := v.2 h
    refine r_aload_n B dX11_resizes_10 rfl rfl ?_
    refine r_getR B (C := RX11) (T := TX11) (N := 25) o_236 0 rfl win_X11 (by decide) rfl wf_X11_7 dX11_resizes_11 ?_
    refine r_iconst B dX11_resizes_14 ?_
    refine r_ald B a_237 (by decide) (by decide) dX11_resizes_15 ?_
    refine r_iload_n B dX11_resizes_16 rfl rfl ?_
    refine r_icmp_ne B (tgt := 21) dX11_resizes_17 (by decide) ((hI _ _)) h2 (fun h => ?_) (fun h => ?_)
    · have v := v.1 h
      refine r_sub [0, 1, 2] rfl ?_
      exact wJ_M_resizes_21 B hr hk h1 h2 I hI v
    · have v := v.2 h
      exact r_vret B hr hk hI v dX11_resizes_20
set_option maxHeartbeats 4000000 in
set_option maxRecDepth 100000 in
theorem wJ_M_resize_46 {p : Program} {l : Launch} {e : Env} {s : State} {m : MethodId} {args : Array Value} {below : List Frame} {meth : Method} {c0 : Code} {E : En} {A : Nat → Prop} {x1 : Int} {x2 : Int} {Q : Int → Mm → Prop}  (B : Bd p (rmm 1 25) s m args c0 cX11_resize 4 RX11 E A 0 0) (hr : meth.sig.returnType = some .int) (hk : meth.locks = false) (h1 : r32 x1) (h2 : r32 x2)   : ∀ (x3 : Int) (I : Mm), rgM I → r32 x3 → J_M_resize_46 x1 x2 Q x3 I → WI p l e (rmm 1 25) s m args below meth c0 E A 4 0 0 (qI below E A args s Q) I 46 [(0, .ref (eA E 236)), (1, .int (i2 x1)), (2, .int (i2 x2)), (3, .int (i2 x3))] [] := by
  intro x3 I hI h3 v
  unfold J_M_resize_46 at v
  refine r_aload_n B dX11_resize_46 rfl rfl ?_
  refine r_cV B (st := []) (as := []) (T := TX11) (N := 25) (c_M_keepsAct _ hI ) v o_236 rfl mw_M_keepsAct wl_X11_117 ⟨Nat.le_of_ble_eq_true rfl, Nat.le_of_ble_eq_true rfl⟩ rfl rfl (Nat.le_of_ble_eq_true rfl) dX11_resize_47 (fun I25 hI25 v => ?_)
  refine r_aload_n B dX11_resize_50 rfl rfl ?_
  refine r_iload_n B dX11_resize_51 rfl rfl ?_
  refine r_iload_n B dX11_resize_52 rfl rfl ?_
  refine r_cV B (st := []) (as := [.int (i2 x1), .int (i2 x2)]) (T := TX11) (N := 25) (c_M_resizes x1 x2 _ hI25 h1 h2) v o_236 rfl mw_M_resizes wl_X11_152 ⟨Nat.le_of_ble_eq_true rfl, Nat.le_of_ble_eq_true rfl⟩ rfl rfl (Nat.le_of_ble_eq_true rfl) dX11_resize_53 (fun I26 hI26 v => ?_)
  refine r_iload_n B dX11_resize_56 rfl rfl ?_
  exact r_iret B hr hk rfl h3 hI26 v dX11_resize_57
set_option maxHeartbeats 4000000 in
set_option maxRecDepth 100000 in
theorem c_M_resize {l : Launch} {E : En} {A : Nat → Prop} (x1 : Int) (x2 : Int) (I : Mm)  (hI : rgM I) (h1 : r32 x1) (h2 : r32 x2) : CI l E A yX11_resize cX11_resize 4 .int 1 25 [.ref (eA E 236), .int (i2 x1), .int (i2 x2)] I (V_M_resize x1 x2 I) := by
  intro Q v
  refine mk_met (own := RX11) (lv0 := [(0, .ref (eA E 236)), (1, .int (i2 x1)), (2, .int (i2 x2))]) (by decide) rfl (Nat.le_of_ble_eq_true rfl) rfl (fun p e s m args below meth c0 B hr hk => ?_)
  unfold V_M_resize at v
  refine r_iload_n B dX11_resize_0 rfl rfl ?_
  refine r_sI B (st := []) (as := [.int (i2 x1)]) (c_M_areRows x1 _ hI h1) v mw_M_areRows wl_X11_149 ⟨Nat.le_of_ble_eq_true rfl, Nat.le_of_ble_eq_true rfl⟩ rfl rfl (Nat.le_of_ble_eq_true rfl) dX11_resize_1 (fun z21 I22 hz21 hI22 v => ?_)
  refine r_if_eq B (tgt := 19) dX11_resize_4 (by decide) hz21 (fun h => ?_) (fun h => ?_)
  · have v := v.1 h
    refine r_iconst B dX11_resize_19 ?_
    exact r_iret B hr hk rfl ((rg_lit (by decide) (by decide))) hI22 v dX11_resize_20
  · have v := v.2 h
    refine r_iload_n B dX11_resize_7 rfl rfl ?_
    refine r_i2l B dX11_resize_8 h2 ?_
    refine r_lconst B 1 dX11_resize_9 (by decide) ?_
    refine r_ldc2 B (99999999) dX11_resize_10 wc_X11_63 (by decide) ?_
    refine r_sI B (st := []) (as := [.long (l2 x2), .long (l2 1), .long (l2 99999999)]) (c_M_in x2 1 99999999 _ hI22 ((rg_64 h2)) ((show r64 (1) by exact ⟨by decide, by decide⟩)) ((show r64 (99999999) by exact ⟨by decide, by decide⟩))) v mw_M_in wl_X11_55 ⟨Nat.le_of_ble_eq_true rfl, Nat.le_of_ble_eq_true rfl⟩ rfl rfl (Nat.le_of_ble_eq_true rfl) dX11_resize_13 (fun z23 I24 hz23 hI24 v => ?_)
    refine r_if_ne B (tgt := 21) dX11_resize_16 (by decide) hz23 (fun h => ?_) (fun h => ?_)
    · have v := v.1 h
      refine r_aload_n B dX11_resize_21 rfl rfl ?_
      refine r_getR B (C := RX11) (T := TX11) (N := 25) o_236 0 rfl win_X11 (by decide) rfl wf_X11_7 dX11_resize_22 ?_
      refine r_iconst B dX11_resize_25 ?_
      refine r_ald B a_237 (by decide) (by decide) dX11_resize_26 ?_
      refine r_istore_n B dX11_resize_27 rfl (by decide) (lv' := [(3, .int (i2 (I24 237 1))), (0, .ref (eA E 236)), (1, .int (i2 x1)), (2, .int (i2 x2))]) rfl ?_
      refine r_sub [1, 2, 3, 0] rfl ?_
      refine r_iload_n B dX11_resize_28 rfl rfl ?_
      refine r_iload_n B dX11_resize_29 rfl rfl ?_
      refine r_icmp_ne B (tgt := 46) dX11_resize_30 (by decide) ((hI24 _ _)) h1 (fun h => ?_) (fun h => ?_)
      · have v := v.1 h
        refine r_sub [0, 1, 2, 3] rfl ?_
        exact wJ_M_resize_46 B hr hk h1 h2 (I24 237 1) I24 hI24 ((hI24 _ _)) v
      · have v := v.2 h
        refine r_aload_n B dX11_resize_33 rfl rfl ?_
        refine r_getR B (C := RX11) (T := TX11) (N := 25) o_236 0 rfl win_X11 (by decide) rfl wf_X11_7 dX11_resize_34 ?_
        refine r_iconst B dX11_resize_37 ?_
        refine r_ald B a_237 (by decide) (by decide) dX11_resize_38 ?_
        refine r_iload_n B dX11_resize_39 rfl rfl ?_
        refine r_icmp_ne B (tgt := 46) dX11_resize_40 (by decide) ((hI24 _ _)) h2 (fun h => ?_) (fun h => ?_)
        · have v := v.1 h
          refine r_sub [0, 1, 2, 3] rfl ?_
          exact wJ_M_resize_46 B hr hk h1 h2 (I24 237 1) I24 hI24 ((hI24 _ _)) v
        · have v := v.2 h
          refine r_bipush B dX11_resize_43 (by decide) ?_
          exact r_iret B hr hk rfl ((rg_lit (by decide) (by decide))) hI24 v dX11_resize_45
    · have v := v.2 h
      refine r_iconst B dX11_resize_19 ?_
      exact r_iret B hr hk rfl ((rg_lit (by decide) (by decide))) hI24 v dX11_resize_20
set_option maxHeartbeats 4000000 in
set_option maxRecDepth 100000 in
theorem wL_M_undo_21 {p : Program} {l : Launch} {e : Env} {s : State} {m : MethodId} {args : Array Value} {below : List Frame} {meth : Method} {c0 : Code} {E : En} {A : Nat → Prop}  {Q : Int → Mm → Prop}  (B : Bd p (rmm 0 0) s m args c0 cX11_undo 2 RX11 E A 0 0) (hr : meth.sig.returnType = some .int) (hk : meth.locks = false)    : ∀ (n : Nat) (x1 : Int) (I : Mm), rgM I → r32 x1 → L_M_undo_21 Q n x1 I → WI p l e (rmm 0 0) s m args below meth c0 E A 2 0 0 (qI below E A args s Q) I 21 [(0, .ref (eA E 236)), (1, .int (i2 x1))] [] := by
  intro n
  induction n with
  | zero => intro x1 I _ _ v; exact absurd v id
  | succ n ih =>
    intro x1 I hI h1 v
    unfold L_M_undo_21 at v
    refine r_iload_n B dX11_undo_21 rfl rfl ?_
    refine r_sipush B dX11_undo_22 (by decide) ?_
    refine r_icmp_ge B (tgt := 55) dX11_undo_25 (by decide) h1 ((rg_lit (by decide) (by decide))) (fun h => ?_) (fun h => ?_)
    · have v := v.1 h
      refine r_aload_n B dX11_undo_55 rfl rfl ?_
      refine r_getI B (C := RX11) (T := TX11) (N := 25) o_236 3 rfl win_X11 (by decide) rfl wf_X11_108 dX11_undo_56 (jj := 3) rfl ?_
      exact r_iret B hr hk rfl ((hI _ _)) hI v dX11_undo_59
    · have v := v.2 h
      refine r_aload_n B dX11_undo_28 rfl rfl ?_
      refine r_getR B (C := RX11) (T := TX11) (N := 25) o_236 0 rfl win_X11 (by decide) rfl wf_X11_7 dX11_undo_29 ?_
      refine r_iload_n B dX11_undo_32 rfl rfl ?_
      refine r_aload_n B dX11_undo_33 rfl rfl ?_
      refine r_getR B (C := RX11) (T := TX11) (N := 25) o_236 2 rfl win_X11 (by decide) rfl wf_X11_16 dX11_undo_34 ?_
      refine r_sipush B dX11_undo_37 (by decide) ?_
      refine r_aload_n B dX11_undo_40 rfl rfl ?_
      refine r_getI B (C := RX11) (T := TX11) (N := 25) o_236 3 rfl win_X11 (by decide) rfl wf_X11_108 dX11_undo_41 (jj := 3) rfl ?_
      refine r_imul B dX11_undo_44 ?_
      refine r_iload_n B dX11_undo_45 rfl rfl ?_
      refine r_iadd B dX11_undo_46 ?_
      obtain ⟨h23, v⟩ := v
      refine r_ald B a_239 (by decide) h23 dX11_undo_47 ?_
      obtain ⟨h24, v⟩ := v
      refine r_ast B a_237 (by decide) h24 dX11_undo_48 ?_
      have hI25 : rgM (wrM I 237 x1 (I 239 ((980 * I 236 3) + x1))) := rg_wr hI ((hI _ _))
      refine r_iinc B (q := 1) dX11_undo_49 (by decide) rfl (lv' := [(1, .int (i2 (x1 + 1))), (0, .ref (eA E 236))]) rfl ?_
      refine r_sub [1, 0] rfl ?_
      refine r_goto B (tgt := 21) dX11_undo_52 (by decide) ?_
      obtain ⟨h26, v⟩ := v
      refine r_sub [0, 1] rfl ?_
      exact ih (x1 + 1) _ hI25 h26 v
set_option maxHeartbeats 4000000 in
set_option maxRecDepth 100000 in
theorem c_M_undo {l : Launch} {E : En} {A : Nat → Prop}  (I : Mm)  (hI : rgM I)  : CI l E A yX11_undo cX11_undo 2 .int 0 0 [.ref (eA E 236)] I (V_M_undo  I) := by
  intro Q v
  refine mk_met (own := RX11) (lv0 := [(0, .ref (eA E 236))]) (by decide) rfl (Nat.le_of_ble_eq_true rfl) rfl (fun p e s m args below meth c0 B hr hk => ?_)
  unfold V_M_undo at v
  refine r_aload_n B dX11_undo_0 rfl rfl ?_
  refine r_getI B (C := RX11) (T := TX11) (N := 25) o_236 3 rfl win_X11 (by decide) rfl wf_X11_108 dX11_undo_1 (jj := 3) rfl ?_
  refine r_if_ne B (tgt := 9) dX11_undo_4 (by decide) ((hI _ _)) (fun h => ?_) (fun h => ?_)
  · have v := v.1 h
    refine r_aload_n B dX11_undo_9 rfl rfl ?_
    refine r_dup B dX11_undo_10 rfl ?_
    refine r_getI B (C := RX11) (T := TX11) (N := 25) o_236 3 rfl win_X11 (by decide) rfl wf_X11_108 dX11_undo_11 (jj := 3) rfl ?_
    refine r_iconst B dX11_undo_14 ?_
    refine r_isub B dX11_undo_15 ?_
    obtain ⟨h21, v⟩ := v
    refine r_putI B (C := RX11) (T := TX11) (N := 25) o_236 3 rfl win_X11 tyX11 tyX11_ok nmX11 (by decide) rfl rfl rfl wf_X11_108 dX11_undo_16 (jj := 3) rfl ?_
    have hI22 : rgM (wrM I 236 3 (I 236 3 - 1)) := rg_wr hI h21
    refine r_iconst B dX11_undo_19 ?_
    refine r_istore_n B dX11_undo_20 rfl (by decide) (lv' := [(1, .int (i2 0)), (0, .ref (eA E 236))]) rfl ?_
    refine r_sub [1, 0] rfl ?_
    obtain ⟨f27, v⟩ := v
    refine r_sub [0, 1] rfl ?_
    exact wL_M_undo_21 B hr hk f27 0 _ hI22 ((rg_lit (by decide) (by decide))) v
  · have v := v.2 h
    refine r_iconst B dX11_undo_7 ?_
    exact r_iret B hr hk rfl ((rg_lit (by decide) (by decide))) hI v dX11_undo_8
set_option maxHeartbeats 4000000 in
set_option maxRecDepth 100000 in
theorem wL_M_keep_14 {p : Program} {l : Launch} {e : Env} {s : State} {m : MethodId} {args : Array Value} {below : List Frame} {meth : Method} {c0 : Code} {E : En} {A : Nat → Prop} {x1 : Int} {Q : Int → Mm → Prop}  (B : Bd p (rmm 1 25) s m args c0 cX11_keep 3 RX11 E A 0 0) (hr : meth.sig.returnType = some .int) (hk : meth.locks = false) (h1 : r32 x1)   : ∀ (n : Nat) (x2 : Int) (I : Mm), rgM I → r32 x2 → L_M_keep_14 x1 Q n x2 I → WI p l e (rmm 1 25) s m args below meth c0 E A 3 0 0 (qI below E A args s Q) I 14 [(0, .ref (eA E 236)), (1, .int (i2 x1)), (2, .int (i2 x2))] [] := by
  intro n
  induction n with
  | zero => intro x2 I _ _ v; exact absurd v id
  | succ n ih =>
    intro x2 I hI h2 v
    unfold L_M_keep_14 at v
    refine r_iload_n B dX11_keep_14 rfl rfl ?_
    refine r_sipush B dX11_keep_15 (by decide) ?_
    refine r_icmp_ge B (tgt := 45) dX11_keep_18 (by decide) h2 ((rg_lit (by decide) (by decide))) (fun h => ?_) (fun h => ?_)
    · have v := v.1 h
      refine r_aload_n B dX11_keep_45 rfl rfl ?_
      refine r_getR B (C := RX11) (T := TX11) (N := 25) o_236 5 rfl win_X11 (by decide) rfl wf_X11_22 dX11_keep_46 ?_
      refine r_iload_n B dX11_keep_49 rfl rfl ?_
      refine r_iconst B dX11_keep_50 ?_
      obtain ⟨h23, v⟩ := v
      refine r_zst B a_241 (by decide) h23 (by decide) dX11_keep_51 ?_
      have hI24 : rgM (wrM I 241 x1 1) := rg_wr hI ((rg_lit (by decide) (by decide)))
      refine r_aload_n B dX11_keep_52 rfl rfl ?_
      refine r_getR B (C := RX11) (T := TX11) (N := 25) o_236 0 rfl win_X11 (by decide) rfl wf_X11_7 dX11_keep_53 ?_
      refine r_iconst B dX11_keep_56 ?_
      refine r_ald B a_237 (by decide) (by decide) dX11_keep_57 ?_
      exact r_iret B hr hk rfl ((hI24 _ _)) hI24 v dX11_keep_58
    · have v := v.2 h
      refine r_aload_n B dX11_keep_21 rfl rfl ?_
      refine r_getR B (C := RX11) (T := TX11) (N := 25) o_236 4 rfl win_X11 (by decide) rfl wf_X11_19 dX11_keep_22 ?_
      refine r_sipush B dX11_keep_25 (by decide) ?_
      refine r_iload_n B dX11_keep_28 rfl rfl ?_
      refine r_imul B dX11_keep_29 ?_
      refine r_iload_n B dX11_keep_30 rfl rfl ?_
      refine r_iadd B dX11_keep_31 ?_
      refine r_aload_n B dX11_keep_32 rfl rfl ?_
      refine r_getR B (C := RX11) (T := TX11) (N := 25) o_236 0 rfl win_X11 (by decide) rfl wf_X11_7 dX11_keep_33 ?_
      refine r_iload_n B dX11_keep_36 rfl rfl ?_
      obtain ⟨h25, v⟩ := v
      refine r_ald B a_237 (by decide) h25 dX11_keep_37 ?_
      obtain ⟨h26, v⟩ := v
      refine r_ast B a_240 (by decide) h26 dX11_keep_38 ?_
      have hI27 : rgM (wrM I 240 ((980 * x1) + x2) (I 237 x2)) := rg_wr hI ((hI _ _))
      refine r_iinc B (q := 2) dX11_keep_39 (by decide) rfl (lv' := [(2, .int (i2 (x2 + 1))), (0, .ref (eA E 236)), (1, .int (i2 x1))]) rfl ?_
      refine r_sub [1, 2, 0] rfl ?_
      refine r_goto B (tgt := 14) dX11_keep_42 (by decide) ?_
      obtain ⟨h28, v⟩ := v
      refine r_sub [0, 1, 2] rfl ?_
      exact ih (x2 + 1) _ hI27 h28 v
set_option maxHeartbeats 4000000 in
set_option maxRecDepth 100000 in
theorem c_M_keep {l : Launch} {E : En} {A : Nat → Prop} (x1 : Int) (I : Mm)  (hI : rgM I) (h1 : r32 x1) : CI l E A yX11_keep cX11_keep 3 .int 1 25 [.ref (eA E 236), .int (i2 x1)] I (V_M_keep x1 I) := by
  intro Q v
  refine mk_met (own := RX11) (lv0 := [(0, .ref (eA E 236)), (1, .int (i2 x1))]) (by decide) rfl (Nat.le_of_ble_eq_true rfl) rfl (fun p e s m args below meth c0 B hr hk => ?_)
  unfold V_M_keep at v
  refine r_iload_n B dX11_keep_0 rfl rfl ?_
  refine r_i2l B dX11_keep_1 h1 ?_
  refine r_lconst B 0 dX11_keep_2 (by decide) ?_
  refine r_lconst B 1 dX11_keep_3 (by decide) ?_
  refine r_sI B (st := []) (as := [.long (l2 x1), .long (l2 0), .long (l2 1)]) (c_M_in x1 0 1 _ hI ((rg_64 h1)) ((show r64 (0) by exact ⟨by decide, by decide⟩)) ((show r64 (1) by exact ⟨by decide, by decide⟩))) v mw_M_in wl_X11_55 ⟨Nat.le_of_ble_eq_true rfl, Nat.le_of_ble_eq_true rfl⟩ rfl rfl (Nat.le_of_ble_eq_true rfl) dX11_keep_4 (fun z21 I22 hz21 hI22 v => ?_)
  refine r_if_ne B (tgt := 12) dX11_keep_7 (by decide) hz21 (fun h => ?_) (fun h => ?_)
  · have v := v.1 h
    refine r_iconst B dX11_keep_12 ?_
    refine r_istore_n B dX11_keep_13 rfl (by decide) (lv' := [(2, .int (i2 0)), (0, .ref (eA E 236)), (1, .int (i2 x1))]) rfl ?_
    refine r_sub [1, 2, 0] rfl ?_
    obtain ⟨f29, v⟩ := v
    refine r_sub [0, 1, 2] rfl ?_
    exact wL_M_keep_14 B hr hk h1 f29 0 I22 hI22 ((rg_lit (by decide) (by decide))) v
  · have v := v.2 h
    refine r_iconst B dX11_keep_10 ?_
    exact r_iret B hr hk rfl ((rg_lit (by decide) (by decide))) hI22 v dX11_keep_11
set_option maxHeartbeats 4000000 in
set_option maxRecDepth 100000 in
theorem wL_M_back_26 {p : Program} {l : Launch} {e : Env} {s : State} {m : MethodId} {args : Array Value} {below : List Frame} {meth : Method} {c0 : Code} {E : En} {A : Nat → Prop} {x1 : Int} {Q : Int → Mm → Prop}  (B : Bd p (rmm 1 25) s m args c0 cX11_back 3 RX11 E A 0 0) (hr : meth.sig.returnType = some .int) (hk : meth.locks = false) (h1 : r32 x1)   : ∀ (n : Nat) (x2 : Int) (I : Mm), rgM I → r32 x2 → L_M_back_26 x1 Q n x2 I → WI p l e (rmm 1 25) s m args below meth c0 E A 3 0 0 (qI below E A args s Q) I 26 [(0, .ref (eA E 236)), (1, .int (i2 x1)), (2, .int (i2 x2))] [] := by
  intro n
  induction n with
  | zero => intro x2 I _ _ v; exact absurd v id
  | succ n ih =>
    intro x2 I hI h2 v
    unfold L_M_back_26 at v
    refine r_iload_n B dX11_back_26 rfl rfl ?_
    refine r_sipush B dX11_back_27 (by decide) ?_
    refine r_icmp_ge B (tgt := 57) dX11_back_30 (by decide) h2 ((rg_lit (by decide) (by decide))) (fun h => ?_) (fun h => ?_)
    · have v := v.1 h
      refine r_aload_n B dX11_back_57 rfl rfl ?_
      refine r_iconst B dX11_back_58 ?_
      refine r_putI B (C := RX11) (T := TX11) (N := 25) o_236 3 rfl win_X11 tyX11 tyX11_ok nmX11 (by decide) rfl rfl rfl wf_X11_108 dX11_back_59 (jj := 3) rfl ?_
      have hI24 : rgM (wrM I 236 3 0) := rg_wr hI ((rg_lit (by decide) (by decide)))
      refine r_aload_n B dX11_back_62 rfl rfl ?_
      refine r_getR B (C := RX11) (T := TX11) (N := 25) o_236 0 rfl win_X11 (by decide) rfl wf_X11_7 dX11_back_63 ?_
      refine r_iconst B dX11_back_66 ?_
      refine r_ald B a_237 (by decide) (by decide) dX11_back_67 ?_
      exact r_iret B hr hk rfl ((hI24 _ _)) hI24 v dX11_back_68
    · have v := v.2 h
      refine r_aload_n B dX11_back_33 rfl rfl ?_
      refine r_getR B (C := RX11) (T := TX11) (N := 25) o_236 0 rfl win_X11 (by decide) rfl wf_X11_7 dX11_back_34 ?_
      refine r_iload_n B dX11_back_37 rfl rfl ?_
      refine r_aload_n B dX11_back_38 rfl rfl ?_
      refine r_getR B (C := RX11) (T := TX11) (N := 25) o_236 4 rfl win_X11 (by decide) rfl wf_X11_19 dX11_back_39 ?_
      refine r_sipush B dX11_back_42 (by decide) ?_
      refine r_iload_n B dX11_back_45 rfl rfl ?_
      refine r_imul B dX11_back_46 ?_
      refine r_iload_n B dX11_back_47 rfl rfl ?_
      refine r_iadd B dX11_back_48 ?_
      obtain ⟨h25, v⟩ := v
      refine r_ald B a_240 (by decide) h25 dX11_back_49 ?_
      obtain ⟨h26, v⟩ := v
      refine r_ast B a_237 (by decide) h26 dX11_back_50 ?_
      have hI27 : rgM (wrM I 237 x2 (I 240 ((980 * x1) + x2))) := rg_wr hI ((hI _ _))
      refine r_iinc B (q := 2) dX11_back_51 (by decide) rfl (lv' := [(2, .int (i2 (x2 + 1))), (0, .ref (eA E 236)), (1, .int (i2 x1))]) rfl ?_
      refine r_sub [1, 2, 0] rfl ?_
      refine r_goto B (tgt := 26) dX11_back_54 (by decide) ?_
      obtain ⟨h28, v⟩ := v
      refine r_sub [0, 1, 2] rfl ?_
      exact ih (x2 + 1) _ hI27 h28 v
set_option maxHeartbeats 4000000 in
set_option maxRecDepth 100000 in
theorem c_M_back {l : Launch} {E : En} {A : Nat → Prop} (x1 : Int) (I : Mm)  (hI : rgM I) (h1 : r32 x1) : CI l E A yX11_back cX11_back 3 .int 1 25 [.ref (eA E 236), .int (i2 x1)] I (V_M_back x1 I) := by
  intro Q v
  refine mk_met (own := RX11) (lv0 := [(0, .ref (eA E 236)), (1, .int (i2 x1))]) (by decide) rfl (Nat.le_of_ble_eq_true rfl) rfl (fun p e s m args below meth c0 B hr hk => ?_)
  unfold V_M_back at v
  refine r_iload_n B dX11_back_0 rfl rfl ?_
  refine r_i2l B dX11_back_1 h1 ?_
  refine r_lconst B 0 dX11_back_2 (by decide) ?_
  refine r_lconst B 1 dX11_back_3 (by decide) ?_
  refine r_sI B (st := []) (as := [.long (l2 x1), .long (l2 0), .long (l2 1)]) (c_M_in x1 0 1 _ hI ((rg_64 h1)) ((show r64 (0) by exact ⟨by decide, by decide⟩)) ((show r64 (1) by exact ⟨by decide, by decide⟩))) v mw_M_in wl_X11_55 ⟨Nat.le_of_ble_eq_true rfl, Nat.le_of_ble_eq_true rfl⟩ rfl rfl (Nat.le_of_ble_eq_true rfl) dX11_back_4 (fun z21 I22 hz21 hI22 v => ?_)
  refine r_if_ne B (tgt := 12) dX11_back_7 (by decide) hz21 (fun h => ?_) (fun h => ?_)
  · have v := v.1 h
    refine r_aload_n B dX11_back_12 rfl rfl ?_
    refine r_getR B (C := RX11) (T := TX11) (N := 25) o_236 5 rfl win_X11 (by decide) rfl wf_X11_22 dX11_back_13 ?_
    refine r_iload_n B dX11_back_16 rfl rfl ?_
    obtain ⟨h23, v⟩ := v
    refine r_zld B a_241 (by decide) h23 dX11_back_17 ?_
    refine r_if_ne B (tgt := 24) dX11_back_18 (by decide) ((hI22 _ _)) (fun h => ?_) (fun h => ?_)
    · have v := v.1 h
      refine r_iconst B dX11_back_24 ?_
      refine r_istore_n B dX11_back_25 rfl (by decide) (lv' := [(2, .int (i2 0)), (0, .ref (eA E 236)), (1, .int (i2 x1))]) rfl ?_
      refine r_sub [1, 2, 0] rfl ?_
      obtain ⟨f29, v⟩ := v
      refine r_sub [0, 1, 2] rfl ?_
      exact wL_M_back_26 B hr hk h1 f29 0 I22 hI22 ((rg_lit (by decide) (by decide))) v
    · have v := v.2 h
      refine r_bipush B dX11_back_21 (by decide) ?_
      exact r_iret B hr hk rfl ((rg_lit (by decide) (by decide))) hI22 v dX11_back_23
  · have v := v.2 h
    refine r_iconst B dX11_back_10 ?_
    exact r_iret B hr hk rfl ((rg_lit (by decide) (by decide))) hI22 v dX11_back_11
set_option maxHeartbeats 4000000 in
set_option maxRecDepth 100000 in
theorem c_M_rowOf {l : Launch} {E : En} {A : Nat → Prop} (x1 : Int) (I : Mm)  (hI : rgM I) (h1 : r32 x1) : CI l E A yX11_rowOf cX11_rowOf 2 .int 0 0 [.ref (eA E 236), .int (i2 x1)] I (V_M_rowOf x1 I) := by
  intro Q v
  refine mk_met (own := RX11) (lv0 := [(0, .ref (eA E 236)), (1, .int (i2 x1))]) (by decide) rfl (Nat.le_of_ble_eq_true rfl) rfl (fun p e s m args below meth c0 B hr hk => ?_)
  unfold V_M_rowOf at v
  refine r_aload_n B dX11_rowOf_0 rfl rfl ?_
  refine r_getR B (C := RX11) (T := TX11) (N := 25) o_236 0 rfl win_X11 (by decide) rfl wf_X11_7 dX11_rowOf_1 ?_
  refine r_sipush B dX11_rowOf_4 (by decide) ?_
  refine r_iload_n B dX11_rowOf_7 rfl rfl ?_
  refine r_iadd B dX11_rowOf_8 ?_
  obtain ⟨h21, v⟩ := v
  refine r_ald B a_237 (by decide) h21 dX11_rowOf_9 ?_
  refine r_aload_n B dX11_rowOf_10 rfl rfl ?_
  refine r_getR B (C := RX11) (T := TX11) (N := 25) o_236 0 rfl win_X11 (by decide) rfl wf_X11_7 dX11_rowOf_11 ?_
  refine r_iconst B dX11_rowOf_14 ?_
  refine r_ald B a_237 (by decide) (by decide) dX11_rowOf_15 ?_
  obtain ⟨h22, v⟩ := v
  refine r_idiv B dX11_rowOf_16 ((hI _ _)) ((hI _ _)) h22 ?_
  refine r_aload_n B dX11_rowOf_17 rfl rfl ?_
  refine r_getR B (C := RX11) (T := TX11) (N := 25) o_236 0 rfl win_X11 (by decide) rfl wf_X11_7 dX11_rowOf_18 ?_
  refine r_iconst B dX11_rowOf_21 ?_
  refine r_ald B a_237 (by decide) (by decide) dX11_rowOf_22 ?_
  obtain ⟨h23, v⟩ := v
  refine r_irem B dX11_rowOf_23 ((rg_div ((hI _ _)) h22.1 h22.2)) ((hI _ _)) h23 ?_
  exact r_iret B hr hk rfl ((rg_rem ((hI _ _)) h23.2)) hI v dX11_rowOf_24
set_option maxHeartbeats 4000000 in
set_option maxRecDepth 100000 in
theorem c_M_next {l : Launch} {E : En} {A : Nat → Prop} (x1 : Int) (x2 : Int) (I : Mm)  (hI : rgM I) (h1 : r32 x1) (h2 : r32 x2) : CI l E A yX11_next cX11_next 3 .int 1 25 [.ref (eA E 236), .int (i2 x1), .int (i2 x2)] I (V_M_next x1 x2 I) := by
  intro Q v
  refine mk_met (own := RX11) (lv0 := [(0, .ref (eA E 236)), (1, .int (i2 x1)), (2, .int (i2 x2))]) (by decide) rfl (Nat.le_of_ble_eq_true rfl) rfl (fun p e s m args below meth c0 B hr hk => ?_)
  unfold V_M_next at v
  refine r_iload_n B dX11_next_0 rfl rfl ?_
  refine r_i2l B dX11_next_1 h1 ?_
  refine r_lconst B 0 dX11_next_2 (by decide) ?_
  refine r_aload_n B dX11_next_3 rfl rfl ?_
  refine r_getR B (C := RX11) (T := TX11) (N := 25) o_236 0 rfl win_X11 (by decide) rfl wf_X11_7 dX11_next_4 ?_
  refine r_iconst B dX11_next_7 ?_
  refine r_ald B a_237 (by decide) (by decide) dX11_next_8 ?_
  refine r_iconst B dX11_next_9 ?_
  refine r_isub B dX11_next_10 ?_
  obtain ⟨h21, v⟩ := v
  refine r_i2l B dX11_next_11 h21 ?_
  refine r_sI B (st := []) (as := [.long (l2 x1), .long (l2 0), .long (l2 (I 237 0 - 1))]) (c_M_in x1 0 (I 237 0 - 1) _ hI ((rg_64 h1)) ((show r64 (0) by exact ⟨by decide, by decide⟩)) ((rg_64 h21))) v mw_M_in wl_X11_55 ⟨Nat.le_of_ble_eq_true rfl, Nat.le_of_ble_eq_true rfl⟩ rfl rfl (Nat.le_of_ble_eq_true rfl) dX11_next_12 (fun z22 I23 hz22 hI23 v => ?_)
  refine r_if_ne B (tgt := 20) dX11_next_15 (by decide) hz22 (fun h => ?_) (fun h => ?_)
  · have v := v.1 h
    refine r_iload_n B dX11_next_20 rfl rfl ?_
    have hsw : x2 = 0 ∨ x2 = 1 ∨ x2 = 2 ∨ x2 = 3 ∨ (x2 < 0 ∨ 3 < x2) := by omega
    rcases hsw with hcs | hcs | hcs | hcs | hcs
    · have v := v.1 hcs
      refine r_tabIn B (tgt := 52) dX11_next_21 h2 0 hcs (by decide) (by decide) rfl (by decide) ?_
      refine r_aload_n B dX11_next_52 rfl rfl ?_
      refine r_getR B (C := RX11) (T := TX11) (N := 25) o_236 0 rfl win_X11 (by decide) rfl wf_X11_7 dX11_next_53 ?_
      refine r_sipush B dX11_next_56 (by decide) ?_
      refine r_iload_n B dX11_next_59 rfl rfl ?_
      refine r_iadd B dX11_next_60 ?_
      obtain ⟨h24, v⟩ := v
      refine r_ald B a_237 (by decide) h24 dX11_next_61 ?_
      exact r_iret B hr hk rfl ((hI23 _ _)) hI23 v dX11_next_62
    · have v := v.2.1 hcs
      refine r_tabIn B (tgt := 63) dX11_next_21 h2 1 hcs (by decide) (by decide) rfl (by decide) ?_
      refine r_aload_n B dX11_next_63 rfl rfl ?_
      refine r_getR B (C := RX11) (T := TX11) (N := 25) o_236 0 rfl win_X11 (by decide) rfl wf_X11_7 dX11_next_64 ?_
      refine r_sipush B dX11_next_67 (by decide) ?_
      refine r_iload_n B dX11_next_70 rfl rfl ?_
      refine r_iadd B dX11_next_71 ?_
      obtain ⟨h25, v⟩ := v
      refine r_ald B a_237 (by decide) h25 dX11_next_72 ?_
      exact r_iret B hr hk rfl ((hI23 _ _)) hI23 v dX11_next_73
    · have v := v.2.2.1 hcs
      refine r_tabIn B (tgt := 74) dX11_next_21 h2 2 hcs (by decide) (by decide) rfl (by decide) ?_
      refine r_aload_n B dX11_next_74 rfl rfl ?_
      refine r_getR B (C := RX11) (T := TX11) (N := 25) o_236 0 rfl win_X11 (by decide) rfl wf_X11_7 dX11_next_75 ?_
      refine r_sipush B dX11_next_78 (by decide) ?_
      refine r_iload_n B dX11_next_81 rfl rfl ?_
      refine r_iadd B dX11_next_82 ?_
      obtain ⟨h26, v⟩ := v
      refine r_ald B a_237 (by decide) h26 dX11_next_83 ?_
      exact r_iret B hr hk rfl ((hI23 _ _)) hI23 v dX11_next_84
    · have v := v.2.2.2.1 hcs
      refine r_tabIn B (tgt := 85) dX11_next_21 h2 3 hcs (by decide) (by decide) rfl (by decide) ?_
      refine r_aload_n B dX11_next_85 rfl rfl ?_
      refine r_iload_n B dX11_next_86 rfl rfl ?_
      refine r_cI B (st := []) (as := [.int (i2 x1)]) (T := TX11) (N := 25) (c_M_rowOf x1 _ hI23 h1) v o_236 rfl mw_M_rowOf wl_X11_155 ⟨Nat.le_of_ble_eq_true rfl, Nat.le_of_ble_eq_true rfl⟩ rfl rfl (Nat.le_of_ble_eq_true rfl) dX11_next_87 (fun z27 I28 hz27 hI28 v => ?_)
      exact r_iret B hr hk rfl hz27 hI28 v dX11_next_90
    · have v := v.2.2.2.2 hcs
      refine r_tabOut B (tgt := 91) dX11_next_21 h2 hcs (by decide) ?_
      refine r_iconst B dX11_next_91 ?_
      exact r_iret B hr hk rfl ((rg_lit (by decide) (by decide))) hI23 v dX11_next_92
  · have v := v.2 h
    refine r_iconst B dX11_next_18 ?_
    exact r_iret B hr hk rfl ((rg_lit (by decide) (by decide))) hI23 v dX11_next_19
set_option maxHeartbeats 4000000 in
set_option maxRecDepth 100000 in
theorem wL_M_aheadInRow_4 {p : Program} {l : Launch} {e : Env} {s : State} {m : MethodId} {args : Array Value} {below : List Frame} {meth : Method} {c0 : Code} {E : En} {A : Nat → Prop} {x1 : Int} {Q : Int → Mm → Prop}  (B : Bd p (rmm 1 21) s m args c0 cX11_aheadInRow 4 RX11 E A 0 0) (hr : meth.sig.returnType = some .int) (hk : meth.locks = false) (h1 : r32 x1)   : ∀ (n : Nat) (x2 : Int) (x3 : Int) (I : Mm), rgM I → r32 x2 → r32 x3 → L_M_aheadInRow_4 x1 Q n x2 x3 I → WI p l e (rmm 1 21) s m args below meth c0 E A 4 0 0 (qI below E A args s Q) I 4 [(0, .ref (eA E 236)), (1, .int (i2 x1)), (2, .int (i2 x2)), (3, .int (i2 x3))] [] := by
  intro n
  induction n with
  | zero => intro x2 x3 I _ _ _ v; exact absurd v id
  | succ n ih =>
    intro x2 x3 I hI h2 h3 v
    unfold L_M_aheadInRow_4 at v
    refine r_iload_n B dX11_aheadInRow_4 rfl rfl ?_
    refine r_iload_n B dX11_aheadInRow_5 rfl rfl ?_
    refine r_icmp_ge B (tgt := 36) dX11_aheadInRow_6 (by decide) h3 h1 (fun h => ?_) (fun h => ?_)
    · have v := v.1 h
      refine r_iload_n B dX11_aheadInRow_36 rfl rfl ?_
      exact r_iret B hr hk rfl h2 hI v dX11_aheadInRow_37
    · have v := v.2 h
      refine r_iload_n B dX11_aheadInRow_9 rfl rfl ?_
      refine r_aload_n B dX11_aheadInRow_10 rfl rfl ?_
      refine r_iload_n B dX11_aheadInRow_11 rfl rfl ?_
      refine r_cI B (st := [.int (i2 x2)]) (as := [.int (i2 x3)]) (T := TX11) (N := 25) (c_M_rowOf x3 _ hI h3) v o_236 rfl mw_M_rowOf wl_X11_155 ⟨Nat.le_of_ble_eq_true rfl, Nat.le_of_ble_eq_true rfl⟩ rfl rfl (Nat.le_of_ble_eq_true rfl) dX11_aheadInRow_12 (fun z21 I22 hz21 hI22 v => ?_)
      refine r_aload_n B dX11_aheadInRow_15 rfl rfl ?_
      refine r_iload_n B dX11_aheadInRow_16 rfl rfl ?_
      refine r_cI B (st := [.int (i2 z21), .int (i2 x2)]) (as := [.int (i2 x1)]) (T := TX11) (N := 25) (c_M_rowOf x1 _ hI22 h1) v o_236 rfl mw_M_rowOf wl_X11_155 ⟨Nat.le_of_ble_eq_true rfl, Nat.le_of_ble_eq_true rfl⟩ rfl rfl (Nat.le_of_ble_eq_true rfl) dX11_aheadInRow_17 (fun z23 I24 hz23 hI24 v => ?_)
      refine r_icmp_ne B (tgt := 27) dX11_aheadInRow_20 (by decide) hz21 hz23 (fun h => ?_) (fun h => ?_)
      · have v := v.1 h
        refine r_iconst B dX11_aheadInRow_27 ?_
        refine r_iadd B dX11_aheadInRow_28 ?_
        refine r_istore_n B dX11_aheadInRow_29 rfl (by decide) (lv' := [(2, .int (i2 (x2 + 0))), (0, .ref (eA E 236)), (1, .int (i2 x1)), (3, .int (i2 x3))]) rfl ?_
        refine r_sub [1, 2, 0, 3] rfl ?_
        refine r_iinc B (q := 3) dX11_aheadInRow_30 (by decide) rfl (lv' := [(3, .int (i2 (x3 + 1))), (0, .ref (eA E 236)), (1, .int (i2 x1)), (2, .int (i2 (x2 + 0)))]) rfl ?_
        refine r_sub [1, 2, 3, 0] rfl ?_
        refine r_goto B (tgt := 4) dX11_aheadInRow_33 (by decide) ?_
        obtain ⟨h25, v⟩ := v
        obtain ⟨h26, v⟩ := v
        refine r_sub [0, 1, 2, 3] rfl ?_
        exact ih (x2 + 0) (x3 + 1) _ hI24 h25 h26 v
      · have v := v.2 h
        refine r_iconst B dX11_aheadInRow_23 ?_
        refine r_goto B (tgt := 28) dX11_aheadInRow_24 (by decide) ?_
        refine r_iadd B dX11_aheadInRow_28 ?_
        refine r_istore_n B dX11_aheadInRow_29 rfl (by decide) (lv' := [(2, .int (i2 (x2 + 1))), (0, .ref (eA E 236)), (1, .int (i2 x1)), (3, .int (i2 x3))]) rfl ?_
        refine r_sub [1, 2, 0, 3] rfl ?_
        refine r_iinc B (q := 3) dX11_aheadInRow_30 (by decide) rfl (lv' := [(3, .int (i2 (x3 + 1))), (0, .ref (eA E 236)), (1, .int (i2 x1)), (2, .int (i2 (x2 + 1)))]) rfl ?_
        refine r_sub [1, 2, 3, 0] rfl ?_
        refine r_goto B (tgt := 4) dX11_aheadInRow_33 (by decide) ?_
        obtain ⟨h27, v⟩ := v
        obtain ⟨h28, v⟩ := v
        refine r_sub [0, 1, 2, 3] rfl ?_
        exact ih (x2 + 1) (x3 + 1) _ hI24 h27 h28 v
set_option maxHeartbeats 4000000 in
set_option maxRecDepth 100000 in
theorem c_M_aheadInRow {l : Launch} {E : En} {A : Nat → Prop} (x1 : Int) (I : Mm)  (hI : rgM I) (h1 : r32 x1) : CI l E A yX11_aheadInRow cX11_aheadInRow 4 .int 1 21 [.ref (eA E 236), .int (i2 x1)] I (V_M_aheadInRow x1 I) := by
  intro Q v
  refine mk_met (own := RX11) (lv0 := [(0, .ref (eA E 236)), (1, .int (i2 x1))]) (by decide) rfl (Nat.le_of_ble_eq_true rfl) rfl (fun p e s m args below meth c0 B hr hk => ?_)
  unfold V_M_aheadInRow at v
  refine r_iconst B dX11_aheadInRow_0 ?_
  refine r_istore_n B dX11_aheadInRow_1 rfl (by decide) (lv' := [(2, .int (i2 0)), (0, .ref (eA E 236)), (1, .int (i2 x1))]) rfl ?_
  refine r_sub [1, 2, 0] rfl ?_
  refine r_iconst B dX11_aheadInRow_2 ?_
  refine r_istore_n B dX11_aheadInRow_3 rfl (by decide) (lv' := [(3, .int (i2 0)), (0, .ref (eA E 236)), (1, .int (i2 x1)), (2, .int (i2 0))]) rfl ?_
  refine r_sub [1, 2, 3, 0] rfl ?_
  obtain ⟨f29, v⟩ := v
  refine r_sub [0, 1, 2, 3] rfl ?_
  exact wL_M_aheadInRow_4 B hr hk h1 f29 0 0 I hI ((rg_lit (by decide) (by decide))) ((rg_lit (by decide) (by decide))) v
set_option maxHeartbeats 4000000 in
set_option maxRecDepth 100000 in
theorem c_M_of {l : Launch} {E : En} {A : Nat → Prop} (x1 : Int) (x2 : Int) (I : Mm)  (hI : rgM I) (h1 : r32 x1) (h2 : r32 x2) : CI l E A yX11_of cX11_of 4 .int 2 47 [.ref (eA E 236), .int (i2 x1), .int (i2 x2)] I (V_M_of x1 x2 I) := by
  intro Q v
  refine mk_met (own := RX11) (lv0 := [(0, .ref (eA E 236)), (1, .int (i2 x1)), (2, .int (i2 x2))]) (by decide) rfl (Nat.le_of_ble_eq_true rfl) rfl (fun p e s m args below meth c0 B hr hk => ?_)
  unfold V_M_of at v
  refine r_aload_n B dX11_of_0 rfl rfl ?_
  refine r_iload_n B dX11_of_1 rfl rfl ?_
  refine r_cI B (st := []) (as := [.int (i2 x1)]) (T := TX11) (N := 25) (c_M_placeOf x1 _ hI h1) v o_236 rfl mw_M_placeOf wl_X11_125 ⟨Nat.le_of_ble_eq_true rfl, Nat.le_of_ble_eq_true rfl⟩ rfl rfl (Nat.le_of_ble_eq_true rfl) dX11_of_2 (fun z21 I22 hz21 hI22 v => ?_)
  refine r_istore_n B dX11_of_5 rfl (by decide) (lv' := [(3, .int (i2 z21)), (0, .ref (eA E 236)), (1, .int (i2 x1)), (2, .int (i2 x2))]) rfl ?_
  refine r_sub [1, 2, 3, 0] rfl ?_
  refine r_iload_n B dX11_of_6 rfl rfl ?_
  refine r_if_ge B (tgt := 12) dX11_of_7 (by decide) hz21 (fun h => ?_) (fun h => ?_)
  · have v := v.1 h
    refine r_iload_n B dX11_of_12 rfl rfl ?_
    refine r_if_ne B (tgt := 20) dX11_of_13 (by decide) h2 (fun h => ?_) (fun h => ?_)
    · have v := v.1 h
      refine r_iload_n B dX11_of_20 rfl rfl ?_
      refine r_iconst B dX11_of_21 ?_
      refine r_icmp_ne B (tgt := 33) dX11_of_22 (by decide) h2 ((rg_lit (by decide) (by decide))) (fun h => ?_) (fun h => ?_)
      · have v := v.1 h
        refine r_iload_n B dX11_of_33 rfl rfl ?_
        refine r_i2l B dX11_of_34 h2 ?_
        refine r_lconst B 1 dX11_of_35 (by decide) ?_
        refine r_ldc2 B (3) dX11_of_36 wc_X11_61 (by decide) ?_
        refine r_sI B (st := []) (as := [.long (l2 x2), .long (l2 1), .long (l2 3)]) (c_M_in x2 1 3 _ hI22 ((rg_64 h2)) ((show r64 (1) by exact ⟨by decide, by decide⟩)) ((show r64 (3) by exact ⟨by decide, by decide⟩))) v mw_M_in wl_X11_55 ⟨Nat.le_of_ble_eq_true rfl, Nat.le_of_ble_eq_true rfl⟩ rfl rfl (Nat.le_of_ble_eq_true rfl) dX11_of_39 (fun z23 I24 hz23 hI24 v => ?_)
        refine r_if_eq B (tgt := 54) dX11_of_42 (by decide) hz23 (fun h => ?_) (fun h => ?_)
        · have v := v.1 h
          refine r_iconst B dX11_of_54 ?_
          exact r_iret B hr hk rfl ((rg_lit (by decide) (by decide))) hI24 v dX11_of_55
        · have v := v.2 h
          refine r_aload_n B dX11_of_45 rfl rfl ?_
          refine r_iload_n B dX11_of_46 rfl rfl ?_
          refine r_iload_n B dX11_of_47 rfl rfl ?_
          refine r_cI B (st := []) (as := [.int (i2 z21), .int (i2 x2)]) (T := TX11) (N := 25) (c_M_next z21 x2 _ hI24 hz21 h2) v o_236 rfl mw_M_next wl_X11_161 ⟨Nat.le_of_ble_eq_true rfl, Nat.le_of_ble_eq_true rfl⟩ rfl rfl (Nat.le_of_ble_eq_true rfl) dX11_of_48 (fun z25 I26 hz25 hI26 v => ?_)
          refine r_goto B (tgt := 55) dX11_of_51 (by decide) ?_
          exact r_iret B hr hk rfl hz25 hI26 v dX11_of_55
      · have v := v.2 h
        refine r_aload_n B dX11_of_25 rfl rfl ?_
        refine r_iload_n B dX11_of_26 rfl rfl ?_
        refine r_cI B (st := []) (as := [.int (i2 z21)]) (T := TX11) (N := 25) (c_M_aheadInRow z21 _ hI22 hz21) v o_236 rfl mw_M_aheadInRow wl_X11_158 ⟨Nat.le_of_ble_eq_true rfl, Nat.le_of_ble_eq_true rfl⟩ rfl rfl (Nat.le_of_ble_eq_true rfl) dX11_of_27 (fun z27 I28 hz27 hI28 v => ?_)
        refine r_goto B (tgt := 55) dX11_of_30 (by decide) ?_
        exact r_iret B hr hk rfl hz27 hI28 v dX11_of_55
    · have v := v.2 h
      refine r_iload_n B dX11_of_16 rfl rfl ?_
      refine r_goto B (tgt := 55) dX11_of_17 (by decide) ?_
      exact r_iret B hr hk rfl hz21 hI22 v dX11_of_55
  · have v := v.2 h
    refine r_iconst B dX11_of_10 ?_
    exact r_iret B hr hk rfl ((rg_lit (by decide) (by decide))) hI22 v dX11_of_11
set_option maxHeartbeats 4000000 in
set_option maxRecDepth 100000 in
theorem wL_M_row_30 {p : Program} {l : Launch} {e : Env} {s : State} {m : MethodId} {args : Array Value} {below : List Frame} {meth : Method} {c0 : Code} {E : En} {A : Nat → Prop} {x1 : Int} {x2 : Int} {Q : Int → Mm → Prop}  (B : Bd p (rmm 1 25) s m args c0 cX11_row 5 RX11 E A 0 0) (hr : meth.sig.returnType = some .int) (hk : meth.locks = false) (h1 : r32 x1) (h2 : r32 x2)   : ∀ (n : Nat) (x3 : Int) (x4 : Int) (I : Mm), rgM I → r32 x3 → r32 x4 → L_M_row_30 x1 x2 Q n x3 x4 I → WI p l e (rmm 1 25) s m args below meth c0 E A 5 0 0 (qI below E A args s Q) I 30 [(0, .ref (eA E 236)), (1, .int (i2 x1)), (2, .int (i2 x2)), (3, .int (i2 x3)), (4, .int (i2 x4))] [] := by
  intro n
  induction n with
  | zero => intro x3 x4 I _ _ _ v; exact absurd v id
  | succ n ih =>
    intro x3 x4 I hI h3 h4 v
    unfold L_M_row_30 at v
    refine r_iload B dX11_row_30 rfl ?_
    refine r_aload_n B dX11_row_32 rfl rfl ?_
    refine r_getR B (C := RX11) (T := TX11) (N := 25) o_236 0 rfl win_X11 (by decide) rfl wf_X11_7 dX11_row_33 ?_
    refine r_iconst B dX11_row_36 ?_
    refine r_ald B a_237 (by decide) (by decide) dX11_row_37 ?_
    refine r_icmp_ge B (tgt := 80) dX11_row_38 (by decide) h4 ((hI _ _)) (fun h => ?_) (fun h => ?_)
    · have v := v.1 h
      refine r_iload_n B dX11_row_80 rfl rfl ?_
      refine r_iconst B dX11_row_81 ?_
      refine r_icmp_ne B (tgt := 89) dX11_row_82 (by decide) h2 ((rg_lit (by decide) (by decide))) (fun h => ?_) (fun h => ?_)
      · have v := v.1 h
        refine r_bipush B dX11_row_89 (by decide) ?_
        exact r_iret B hr hk rfl ((rg_lit (by decide) (by decide))) hI v dX11_row_91
      · have v := v.2 h
        refine r_iload_n B dX11_row_85 rfl rfl ?_
        refine r_goto B (tgt := 91) dX11_row_86 (by decide) ?_
        exact r_iret B hr hk rfl h3 hI v dX11_row_91
    · have v := v.2 h
      refine r_aload_n B dX11_row_41 rfl rfl ?_
      refine r_iload B dX11_row_42 rfl ?_
      refine r_cI B (st := []) (as := [.int (i2 x4)]) (T := TX11) (N := 25) (c_M_rowOf x4 _ hI h4) v o_236 rfl mw_M_rowOf wl_X11_155 ⟨Nat.le_of_ble_eq_true rfl, Nat.le_of_ble_eq_true rfl⟩ rfl rfl (Nat.le_of_ble_eq_true rfl) dX11_row_44 (fun z24 I25 hz24 hI25 v => ?_)
      refine r_iload_n B dX11_row_47 rfl rfl ?_
      refine r_icmp_eq B (tgt := 54) dX11_row_48 (by decide) hz24 h1 (fun h => ?_) (fun h => ?_)
      · have v := v.1 h
        refine r_iload_n B dX11_row_54 rfl rfl ?_
        refine r_iload_n B dX11_row_55 rfl rfl ?_
        refine r_icmp_ne B (tgt := 71) dX11_row_56 (by decide) h3 h2 (fun h => ?_) (fun h => ?_)
        · have v := v.1 h
          refine r_iinc B (q := 3) dX11_row_71 (by decide) rfl (lv' := [(3, .int (i2 (x3 + 1))), (0, .ref (eA E 236)), (1, .int (i2 x1)), (2, .int (i2 x2)), (4, .int (i2 x4))]) rfl ?_
          refine r_sub [1, 2, 3, 0, 4] rfl ?_
          refine r_iinc B (q := 4) dX11_row_74 (by decide) rfl (lv' := [(4, .int (i2 (x4 + 1))), (0, .ref (eA E 236)), (1, .int (i2 x1)), (2, .int (i2 x2)), (3, .int (i2 (x3 + 1)))]) rfl ?_
          refine r_sub [1, 2, 3, 4, 0] rfl ?_
          refine r_goto B (tgt := 30) dX11_row_77 (by decide) ?_
          obtain ⟨h26, v⟩ := v
          obtain ⟨h27, v⟩ := v
          refine r_sub [0, 1, 2, 3, 4] rfl ?_
          exact ih (x3 + 1) (x4 + 1) _ hI25 h26 h27 v
        · have v := v.2 h
          refine r_aload_n B dX11_row_59 rfl rfl ?_
          refine r_getR B (C := RX11) (T := TX11) (N := 25) o_236 0 rfl win_X11 (by decide) rfl wf_X11_7 dX11_row_60 ?_
          refine r_sipush B dX11_row_63 (by decide) ?_
          refine r_iload B dX11_row_66 rfl ?_
          refine r_iadd B dX11_row_68 ?_
          obtain ⟨h28, v⟩ := v
          refine r_ald B a_237 (by decide) h28 dX11_row_69 ?_
          exact r_iret B hr hk rfl ((hI25 _ _)) hI25 v dX11_row_70
      · have v := v.2 h
        refine r_goto B (tgt := 74) dX11_row_51 (by decide) ?_
        refine r_iinc B (q := 4) dX11_row_74 (by decide) rfl (lv' := [(4, .int (i2 (x4 + 1))), (0, .ref (eA E 236)), (1, .int (i2 x1)), (2, .int (i2 x2)), (3, .int (i2 x3))]) rfl ?_
        refine r_sub [1, 2, 3, 4, 0] rfl ?_
        refine r_goto B (tgt := 30) dX11_row_77 (by decide) ?_
        obtain ⟨h29, v⟩ := v
        refine r_sub [0, 1, 2, 3, 4] rfl ?_
        exact ih x3 (x4 + 1) _ hI25 h3 h29 v
set_option maxHeartbeats 4000000 in
set_option maxRecDepth 100000 in
theorem c_M_row {l : Launch} {E : En} {A : Nat → Prop} (x1 : Int) (x2 : Int) (I : Mm)  (hI : rgM I) (h1 : r32 x1) (h2 : r32 x2) : CI l E A yX11_row cX11_row 5 .int 1 25 [.ref (eA E 236), .int (i2 x1), .int (i2 x2)] I (V_M_row x1 x2 I) := by
  intro Q v
  refine mk_met (own := RX11) (lv0 := [(0, .ref (eA E 236)), (1, .int (i2 x1)), (2, .int (i2 x2))]) (by decide) rfl (Nat.le_of_ble_eq_true rfl) rfl (fun p e s m args below meth c0 B hr hk => ?_)
  unfold V_M_row at v
  refine r_iload_n B dX11_row_0 rfl rfl ?_
  refine r_i2l B dX11_row_1 h1 ?_
  refine r_lconst B 0 dX11_row_2 (by decide) ?_
  refine r_aload_n B dX11_row_3 rfl rfl ?_
  refine r_getR B (C := RX11) (T := TX11) (N := 25) o_236 0 rfl win_X11 (by decide) rfl wf_X11_7 dX11_row_4 ?_
  refine r_iconst B dX11_row_7 ?_
  refine r_ald B a_237 (by decide) (by decide) dX11_row_8 ?_
  refine r_iconst B dX11_row_9 ?_
  refine r_isub B dX11_row_10 ?_
  obtain ⟨h21, v⟩ := v
  refine r_i2l B dX11_row_11 h21 ?_
  refine r_sI B (st := []) (as := [.long (l2 x1), .long (l2 0), .long (l2 (I 237 1 - 1))]) (c_M_in x1 0 (I 237 1 - 1) _ hI ((rg_64 h1)) ((show r64 (0) by exact ⟨by decide, by decide⟩)) ((rg_64 h21))) v mw_M_in wl_X11_55 ⟨Nat.le_of_ble_eq_true rfl, Nat.le_of_ble_eq_true rfl⟩ rfl rfl (Nat.le_of_ble_eq_true rfl) dX11_row_12 (fun z22 I23 hz22 hI23 v => ?_)
  refine r_if_eq B (tgt := 23) dX11_row_15 (by decide) hz22 (fun h => ?_) (fun h => ?_)
  · have v := v.1 h
    refine r_iconst B dX11_row_23 ?_
    exact r_iret B hr hk rfl ((rg_lit (by decide) (by decide))) hI23 v dX11_row_24
  · have v := v.2 h
    refine r_iload_n B dX11_row_18 rfl rfl ?_
    refine r_iconst B dX11_row_19 ?_
    refine r_icmp_ge B (tgt := 25) dX11_row_20 (by decide) h2 ((rg_lit (by decide) (by decide))) (fun h => ?_) (fun h => ?_)
    · have v := v.1 h
      refine r_iconst B dX11_row_25 ?_
      refine r_istore_n B dX11_row_26 rfl (by decide) (lv' := [(3, .int (i2 0)), (0, .ref (eA E 236)), (1, .int (i2 x1)), (2, .int (i2 x2))]) rfl ?_
      refine r_sub [1, 2, 3, 0] rfl ?_
      refine r_iconst B dX11_row_27 ?_
      refine r_istore B dX11_row_28 (by decide) (lv' := [(4, .int (i2 0)), (0, .ref (eA E 236)), (1, .int (i2 x1)), (2, .int (i2 x2)), (3, .int (i2 0))]) rfl ?_
      refine r_sub [1, 2, 3, 4, 0] rfl ?_
      obtain ⟨f30, v⟩ := v
      refine r_sub [0, 1, 2, 3, 4] rfl ?_
      exact wL_M_row_30 B hr hk h1 h2 f30 0 0 I23 hI23 ((rg_lit (by decide) (by decide))) ((rg_lit (by decide) (by decide))) v
    · have v := v.2 h
      refine r_iconst B dX11_row_23 ?_
      exact r_iret B hr hk rfl ((rg_lit (by decide) (by decide))) hI23 v dX11_row_24
set_option maxHeartbeats 4000000 in
set_option maxRecDepth 100000 in
theorem wL_M_letters_2 {p : Program} {l : Launch} {e : Env} {s : State} {m : MethodId} {args : Array Value} {below : List Frame} {meth : Method} {c0 : Code} {E : En} {A : Nat → Prop} {x1 : Int} {Q : Int → Mm → Prop}  (B : Bd p (rmm 0 0) s m args c0 cX11_letters 3 RX11 E A 0 0) (hr : meth.sig.returnType = some .int) (hk : meth.locks = false) (h1 : r32 x1)   : ∀ (n : Nat) (x2 : Int) (I : Mm), rgM I → r32 x2 → L_M_letters_2 x1 Q n x2 I → WI p l e (rmm 0 0) s m args below meth c0 E A 3 0 0 (qI below E A args s Q) I 2 [(0, .ref (eA E 236)), (1, .int (i2 x1)), (2, .int (i2 x2))] [] := by
  intro n
  induction n with
  | zero => intro x2 I _ _ v; exact absurd v id
  | succ n ih =>
    intro x2 I hI h2 v
    unfold L_M_letters_2 at v
    refine r_iload_n B dX11_letters_2 rfl rfl ?_
    refine r_bipush B dX11_letters_3 (by decide) ?_
    refine r_icmp_ge B (tgt := 31) dX11_letters_5 (by decide) h2 ((rg_lit (by decide) (by decide))) (fun h => ?_) (fun h => ?_)
    · have v := v.1 h
      refine r_iload_n B dX11_letters_31 rfl rfl ?_
      exact r_iret B hr hk rfl h2 hI v dX11_letters_32
    · have v := v.2 h
      refine r_aload_n B dX11_letters_8 rfl rfl ?_
      refine r_getR B (C := RX11) (T := TX11) (N := 25) o_236 0 rfl win_X11 (by decide) rfl wf_X11_7 dX11_letters_9 ?_
      refine r_bipush B dX11_letters_12 (by decide) ?_
      refine r_bipush B dX11_letters_14 (by decide) ?_
      refine r_iload_n B dX11_letters_16 rfl rfl ?_
      refine r_imul B dX11_letters_17 ?_
      refine r_iadd B dX11_letters_18 ?_
      refine r_iload_n B dX11_letters_19 rfl rfl ?_
      refine r_iadd B dX11_letters_20 ?_
      obtain ⟨h21, v⟩ := v
      refine r_ald B a_237 (by decide) h21 dX11_letters_21 ?_
      refine r_if_le B (tgt := 31) dX11_letters_22 (by decide) ((hI _ _)) (fun h => ?_) (fun h => ?_)
      · have v := v.1 h
        refine r_iload_n B dX11_letters_31 rfl rfl ?_
        exact r_iret B hr hk rfl h2 hI v dX11_letters_32
      · have v := v.2 h
        refine r_iinc B (q := 2) dX11_letters_25 (by decide) rfl (lv' := [(2, .int (i2 (x2 + 1))), (0, .ref (eA E 236)), (1, .int (i2 x1))]) rfl ?_
        refine r_sub [1, 2, 0] rfl ?_
        refine r_goto B (tgt := 2) dX11_letters_28 (by decide) ?_
        obtain ⟨h22, v⟩ := v
        refine r_sub [0, 1, 2] rfl ?_
        exact ih (x2 + 1) _ hI h22 v
set_option maxHeartbeats 4000000 in
set_option maxRecDepth 100000 in
theorem c_M_letters {l : Launch} {E : En} {A : Nat → Prop} (x1 : Int) (I : Mm)  (hI : rgM I) (h1 : r32 x1) : CI l E A yX11_letters cX11_letters 3 .int 0 0 [.ref (eA E 236), .int (i2 x1)] I (V_M_letters x1 I) := by
  intro Q v
  refine mk_met (own := RX11) (lv0 := [(0, .ref (eA E 236)), (1, .int (i2 x1))]) (by decide) rfl (Nat.le_of_ble_eq_true rfl) rfl (fun p e s m args below meth c0 B hr hk => ?_)
  unfold V_M_letters at v
  refine r_iconst B dX11_letters_0 ?_
  refine r_istore_n B dX11_letters_1 rfl (by decide) (lv' := [(2, .int (i2 0)), (0, .ref (eA E 236)), (1, .int (i2 x1))]) rfl ?_
  refine r_sub [1, 2, 0] rfl ?_
  obtain ⟨f23, v⟩ := v
  refine r_sub [0, 1, 2] rfl ?_
  exact wL_M_letters_2 B hr hk h1 f23 0 I hI ((rg_lit (by decide) (by decide))) v
set_option maxHeartbeats 4000000 in
set_option maxRecDepth 100000 in
theorem c_M_letter {l : Launch} {E : En} {A : Nat → Prop} (x1 : Int) (x2 : Int) (I : Mm)  (hI : rgM I) (h1 : r32 x1) (h2 : r32 x2) : CI l E A yX11_letter cX11_letter 3 .int 2 46 [.ref (eA E 236), .int (i2 x1), .int (i2 x2)] I (V_M_letter x1 x2 I) := by
  intro Q v
  refine mk_met (own := RX11) (lv0 := [(0, .ref (eA E 236)), (1, .int (i2 x1)), (2, .int (i2 x2))]) (by decide) rfl (Nat.le_of_ble_eq_true rfl) rfl (fun p e s m args below meth c0 B hr hk => ?_)
  unfold V_M_letter at v
  refine r_aload_n B dX11_letter_0 rfl rfl ?_
  refine r_iload_n B dX11_letter_1 rfl rfl ?_
  refine r_cI B (st := []) (as := [.int (i2 x1)]) (T := TX11) (N := 25) (c_M_isName x1 _ hI h1) v o_236 rfl mw_M_isName wl_X11_111 ⟨Nat.le_of_ble_eq_true rfl, Nat.le_of_ble_eq_true rfl⟩ rfl rfl (Nat.le_of_ble_eq_true rfl) dX11_letter_2 (fun z21 I22 hz21 hI22 v => ?_)
  refine r_if_eq B (tgt := 42) dX11_letter_5 (by decide) hz21 (fun h => ?_) (fun h => ?_)
  · have v := v.1 h
    refine r_iconst B dX11_letter_42 ?_
    exact r_iret B hr hk rfl ((rg_lit (by decide) (by decide))) hI22 v dX11_letter_43
  · have v := v.2 h
    refine r_iload_n B dX11_letter_8 rfl rfl ?_
    refine r_i2l B dX11_letter_9 h2 ?_
    refine r_lconst B 0 dX11_letter_10 (by decide) ?_
    refine r_aload_n B dX11_letter_11 rfl rfl ?_
    refine r_iload_n B dX11_letter_12 rfl rfl ?_
    refine r_cI B (st := [.long (l2 0), .long (l2 x2)]) (as := [.int (i2 x1)]) (T := TX11) (N := 25) (c_M_letters x1 _ hI22 h1) v o_236 rfl mw_M_letters wl_X11_164 ⟨Nat.le_of_ble_eq_true rfl, Nat.le_of_ble_eq_true rfl⟩ rfl rfl (Nat.le_of_ble_eq_true rfl) dX11_letter_13 (fun z23 I24 hz23 hI24 v => ?_)
    refine r_iconst B dX11_letter_16 ?_
    refine r_isub B dX11_letter_17 ?_
    obtain ⟨h25, v⟩ := v
    refine r_i2l B dX11_letter_18 h25 ?_
    refine r_sI B (st := []) (as := [.long (l2 x2), .long (l2 0), .long (l2 (z23 - 1))]) (c_M_in x2 0 (z23 - 1) _ hI24 ((rg_64 h2)) ((show r64 (0) by exact ⟨by decide, by decide⟩)) ((rg_64 h25))) v mw_M_in wl_X11_55 ⟨Nat.le_of_ble_eq_true rfl, Nat.le_of_ble_eq_true rfl⟩ rfl rfl (Nat.le_of_ble_eq_true rfl) dX11_letter_19 (fun z26 I27 hz26 hI27 v => ?_)
    refine r_if_eq B (tgt := 42) dX11_letter_22 (by decide) hz26 (fun h => ?_) (fun h => ?_)
    · have v := v.1 h
      refine r_iconst B dX11_letter_42 ?_
      exact r_iret B hr hk rfl ((rg_lit (by decide) (by decide))) hI27 v dX11_letter_43
    · have v := v.2 h
      refine r_aload_n B dX11_letter_25 rfl rfl ?_
      refine r_getR B (C := RX11) (T := TX11) (N := 25) o_236 0 rfl win_X11 (by decide) rfl wf_X11_7 dX11_letter_26 ?_
      refine r_bipush B dX11_letter_29 (by decide) ?_
      refine r_bipush B dX11_letter_31 (by decide) ?_
      refine r_iload_n B dX11_letter_33 rfl rfl ?_
      refine r_imul B dX11_letter_34 ?_
      refine r_iadd B dX11_letter_35 ?_
      refine r_iload_n B dX11_letter_36 rfl rfl ?_
      refine r_iadd B dX11_letter_37 ?_
      obtain ⟨h28, v⟩ := v
      refine r_ald B a_237 (by decide) h28 dX11_letter_38 ?_
      refine r_goto B (tgt := 43) dX11_letter_39 (by decide) ?_
      exact r_iret B hr hk rfl ((hI27 _ _)) hI27 v dX11_letter_43
set_option maxHeartbeats 4000000 in
set_option maxRecDepth 100000 in
theorem wL_M_rulesOf_4 {p : Program} {l : Launch} {e : Env} {s : State} {m : MethodId} {args : Array Value} {below : List Frame} {meth : Method} {c0 : Code} {E : En} {A : Nat → Prop} {x1 : Int} {Q : Int → Mm → Prop}  (B : Bd p (rmm 0 0) s m args c0 cX11_rulesOf 4 RX11 E A 0 0) (hr : meth.sig.returnType = some .int) (hk : meth.locks = false) (h1 : r32 x1)   : ∀ (n : Nat) (x2 : Int) (x3 : Int) (I : Mm), rgM I → r32 x2 → r32 x3 → L_M_rulesOf_4 x1 Q n x2 x3 I → WI p l e (rmm 0 0) s m args below meth c0 E A 4 0 0 (qI below E A args s Q) I 4 [(0, .ref (eA E 236)), (1, .int (i2 x1)), (2, .int (i2 x2)), (3, .int (i2 x3))] [] := by
  intro n
  induction n with
  | zero => intro x2 x3 I _ _ _ v; exact absurd v id
  | succ n ih =>
    intro x2 x3 I hI h2 h3 v
    unfold L_M_rulesOf_4 at v
    refine r_iload_n B dX11_rulesOf_4 rfl rfl ?_
    refine r_aload_n B dX11_rulesOf_5 rfl rfl ?_
    refine r_getR B (C := RX11) (T := TX11) (N := 25) o_236 0 rfl win_X11 (by decide) rfl wf_X11_7 dX11_rulesOf_6 ?_
    refine r_iconst B dX11_rulesOf_9 ?_
    refine r_ald B a_237 (by decide) (by decide) dX11_rulesOf_10 ?_
    refine r_icmp_ge B (tgt := 44) dX11_rulesOf_11 (by decide) h3 ((hI _ _)) (fun h => ?_) (fun h => ?_)
    · have v := v.1 h
      refine r_iload_n B dX11_rulesOf_44 rfl rfl ?_
      exact r_iret B hr hk rfl h2 hI v dX11_rulesOf_45
    · have v := v.2 h
      refine r_iload_n B dX11_rulesOf_14 rfl rfl ?_
      refine r_aload_n B dX11_rulesOf_15 rfl rfl ?_
      refine r_getR B (C := RX11) (T := TX11) (N := 25) o_236 0 rfl win_X11 (by decide) rfl wf_X11_7 dX11_rulesOf_16 ?_
      refine r_sipush B dX11_rulesOf_19 (by decide) ?_
      refine r_iconst B dX11_rulesOf_22 ?_
      refine r_iload_n B dX11_rulesOf_23 rfl rfl ?_
      refine r_imul B dX11_rulesOf_24 ?_
      refine r_iadd B dX11_rulesOf_25 ?_
      obtain ⟨h21, v⟩ := v
      refine r_ald B a_237 (by decide) h21 dX11_rulesOf_26 ?_
      refine r_iload_n B dX11_rulesOf_27 rfl rfl ?_
      refine r_icmp_ne B (tgt := 35) dX11_rulesOf_28 (by decide) ((hI _ _)) h1 (fun h => ?_) (fun h => ?_)
      · have v := v.1 h
        refine r_iconst B dX11_rulesOf_35 ?_
        refine r_iadd B dX11_rulesOf_36 ?_
        refine r_istore_n B dX11_rulesOf_37 rfl (by decide) (lv' := [(2, .int (i2 (x2 + 0))), (0, .ref (eA E 236)), (1, .int (i2 x1)), (3, .int (i2 x3))]) rfl ?_
        refine r_sub [1, 2, 0, 3] rfl ?_
        refine r_iinc B (q := 3) dX11_rulesOf_38 (by decide) rfl (lv' := [(3, .int (i2 (x3 + 1))), (0, .ref (eA E 236)), (1, .int (i2 x1)), (2, .int (i2 (x2 + 0)))]) rfl ?_
        refine r_sub [1, 2, 3, 0] rfl ?_
        refine r_goto B (tgt := 4) dX11_rulesOf_41 (by decide) ?_
        obtain ⟨h22, v⟩ := v
        obtain ⟨h23, v⟩ := v
        refine r_sub [0, 1, 2, 3] rfl ?_
        exact ih (x2 + 0) (x3 + 1) _ hI h22 h23 v
      · have v := v.2 h
        refine r_iconst B dX11_rulesOf_31 ?_
        refine r_goto B (tgt := 36) dX11_rulesOf_32 (by decide) ?_
        refine r_iadd B dX11_rulesOf_36 ?_
        refine r_istore_n B dX11_rulesOf_37 rfl (by decide) (lv' := [(2, .int (i2 (x2 + 1))), (0, .ref (eA E 236)), (1, .int (i2 x1)), (3, .int (i2 x3))]) rfl ?_
        refine r_sub [1, 2, 0, 3] rfl ?_
        refine r_iinc B (q := 3) dX11_rulesOf_38 (by decide) rfl (lv' := [(3, .int (i2 (x3 + 1))), (0, .ref (eA E 236)), (1, .int (i2 x1)), (2, .int (i2 (x2 + 1)))]) rfl ?_
        refine r_sub [1, 2, 3, 0] rfl ?_
        refine r_goto B (tgt := 4) dX11_rulesOf_41 (by decide) ?_
        obtain ⟨h24, v⟩ := v
        obtain ⟨h25, v⟩ := v
        refine r_sub [0, 1, 2, 3] rfl ?_
        exact ih (x2 + 1) (x3 + 1) _ hI h24 h25 v
set_option maxHeartbeats 4000000 in
set_option maxRecDepth 100000 in
theorem c_M_rulesOf {l : Launch} {E : En} {A : Nat → Prop} (x1 : Int) (I : Mm)  (hI : rgM I) (h1 : r32 x1) : CI l E A yX11_rulesOf cX11_rulesOf 4 .int 0 0 [.ref (eA E 236), .int (i2 x1)] I (V_M_rulesOf x1 I) := by
  intro Q v
  refine mk_met (own := RX11) (lv0 := [(0, .ref (eA E 236)), (1, .int (i2 x1))]) (by decide) rfl (Nat.le_of_ble_eq_true rfl) rfl (fun p e s m args below meth c0 B hr hk => ?_)
  unfold V_M_rulesOf at v
  refine r_iconst B dX11_rulesOf_0 ?_
  refine r_istore_n B dX11_rulesOf_1 rfl (by decide) (lv' := [(2, .int (i2 0)), (0, .ref (eA E 236)), (1, .int (i2 x1))]) rfl ?_
  refine r_sub [1, 2, 0] rfl ?_
  refine r_iconst B dX11_rulesOf_2 ?_
  refine r_istore_n B dX11_rulesOf_3 rfl (by decide) (lv' := [(3, .int (i2 0)), (0, .ref (eA E 236)), (1, .int (i2 x1)), (2, .int (i2 0))]) rfl ?_
  refine r_sub [1, 2, 3, 0] rfl ?_
  obtain ⟨f26, v⟩ := v
  refine r_sub [0, 1, 2, 3] rfl ?_
  exact wL_M_rulesOf_4 B hr hk h1 f26 0 0 I hI ((rg_lit (by decide) (by decide))) ((rg_lit (by decide) (by decide))) v
set_option maxHeartbeats 4000000 in
set_option maxRecDepth 100000 in
theorem c_M_named {l : Launch} {E : En} {A : Nat → Prop} (x1 : Int) (x2 : Int) (I : Mm)  (hI : rgM I) (h1 : r32 x1) (h2 : r32 x2) : CI l E A yX11_named cX11_named 3 .int 2 46 [.ref (eA E 236), .int (i2 x1), .int (i2 x2)] I (V_M_named x1 x2 I) := by
  intro Q v
  refine mk_met (own := RX11) (lv0 := [(0, .ref (eA E 236)), (1, .int (i2 x1)), (2, .int (i2 x2))]) (by decide) rfl (Nat.le_of_ble_eq_true rfl) rfl (fun p e s m args below meth c0 B hr hk => ?_)
  unfold V_M_named at v
  refine r_aload_n B dX11_named_0 rfl rfl ?_
  refine r_iload_n B dX11_named_1 rfl rfl ?_
  refine r_cI B (st := []) (as := [.int (i2 x1)]) (T := TX11) (N := 25) (c_M_isName x1 _ hI h1) v o_236 rfl mw_M_isName wl_X11_111 ⟨Nat.le_of_ble_eq_true rfl, Nat.le_of_ble_eq_true rfl⟩ rfl rfl (Nat.le_of_ble_eq_true rfl) dX11_named_2 (fun z21 I22 hz21 hI22 v => ?_)
  refine r_if_ne B (tgt := 10) dX11_named_5 (by decide) hz21 (fun h => ?_) (fun h => ?_)
  · have v := v.1 h
    refine r_iload_n B dX11_named_10 rfl rfl ?_
    have hsw : x2 = 0 ∨ x2 = 1 ∨ x2 = 2 ∨ x2 = 3 ∨ x2 = 4 ∨ (x2 < 0 ∨ 4 < x2) := by omega
    rcases hsw with hcs | hcs | hcs | hcs | hcs | hcs
    · have v := v.1 hcs
      refine r_tabIn B (tgt := 44) dX11_named_11 h2 0 hcs (by decide) (by decide) rfl (by decide) ?_
      refine r_aload_n B dX11_named_44 rfl rfl ?_
      refine r_iload_n B dX11_named_45 rfl rfl ?_
      refine r_cI B (st := []) (as := [.int (i2 x1)]) (T := TX11) (N := 25) (c_M_waiting x1 _ hI22 h1) v o_236 rfl mw_M_waiting wl_X11_129 ⟨Nat.le_of_ble_eq_true rfl, Nat.le_of_ble_eq_true rfl⟩ rfl rfl (Nat.le_of_ble_eq_true rfl) dX11_named_46 (fun z23 I24 hz23 hI24 v => ?_)
      exact r_iret B hr hk rfl hz23 hI24 v dX11_named_49
    · have v := v.2.1 hcs
      refine r_tabIn B (tgt := 50) dX11_named_11 h2 1 hcs (by decide) (by decide) rfl (by decide) ?_
      refine r_aload_n B dX11_named_50 rfl rfl ?_
      refine r_iload_n B dX11_named_51 rfl rfl ?_
      refine r_cI B (st := []) (as := [.int (i2 x1)]) (T := TX11) (N := 25) (c_M_firstOf x1 _ hI22 h1) v o_236 rfl mw_M_firstOf wl_X11_132 ⟨Nat.le_of_ble_eq_true rfl, Nat.le_of_ble_eq_true rfl⟩ rfl rfl (Nat.le_of_ble_eq_true rfl) dX11_named_52 (fun z25 I26 hz25 hI26 v => ?_)
      refine r_if_ge B (tgt := 63) dX11_named_55 (by decide) hz25 (fun h => ?_) (fun h => ?_)
      · have v := v.1 h
        refine r_aload_n B dX11_named_63 rfl rfl ?_
        refine r_getR B (C := RX11) (T := TX11) (N := 25) o_236 0 rfl win_X11 (by decide) rfl wf_X11_7 dX11_named_64 ?_
        refine r_sipush B dX11_named_67 (by decide) ?_
        refine r_aload_n B dX11_named_70 rfl rfl ?_
        refine r_iload_n B dX11_named_71 rfl rfl ?_
        refine r_cI B (st := [.int (i2 780), .ref (eA E 237)]) (as := [.int (i2 x1)]) (T := TX11) (N := 25) (c_M_firstOf x1 _ hI26 h1) v o_236 rfl mw_M_firstOf wl_X11_132 ⟨Nat.le_of_ble_eq_true rfl, Nat.le_of_ble_eq_true rfl⟩ rfl rfl (Nat.le_of_ble_eq_true rfl) dX11_named_72 (fun z27 I28 hz27 hI28 v => ?_)
        refine r_iadd B dX11_named_75 ?_
        obtain ⟨h29, v⟩ := v
        refine r_ald B a_237 (by decide) h29 dX11_named_76 ?_
        exact r_iret B hr hk rfl ((hI28 _ _)) hI28 v dX11_named_77
      · have v := v.2 h
        refine r_bipush B dX11_named_58 (by decide) ?_
        refine r_goto B (tgt := 77) dX11_named_60 (by decide) ?_
        exact r_iret B hr hk rfl ((rg_lit (by decide) (by decide))) hI26 v dX11_named_77
    · have v := v.2.2.1 hcs
      refine r_tabIn B (tgt := 78) dX11_named_11 h2 2 hcs (by decide) (by decide) rfl (by decide) ?_
      refine r_aload_n B dX11_named_78 rfl rfl ?_
      refine r_getR B (C := RX11) (T := TX11) (N := 25) o_236 0 rfl win_X11 (by decide) rfl wf_X11_7 dX11_named_79 ?_
      refine r_bipush B dX11_named_82 (by decide) ?_
      refine r_iload_n B dX11_named_84 rfl rfl ?_
      refine r_iadd B dX11_named_85 ?_
      obtain ⟨h30, v⟩ := v
      refine r_ald B a_237 (by decide) h30 dX11_named_86 ?_
      exact r_iret B hr hk rfl ((hI22 _ _)) hI22 v dX11_named_87
    · have v := v.2.2.2.1 hcs
      refine r_tabIn B (tgt := 88) dX11_named_11 h2 3 hcs (by decide) (by decide) rfl (by decide) ?_
      refine r_aload_n B dX11_named_88 rfl rfl ?_
      refine r_iload_n B dX11_named_89 rfl rfl ?_
      refine r_cI B (st := []) (as := [.int (i2 x1)]) (T := TX11) (N := 25) (c_M_rulesOf x1 _ hI22 h1) v o_236 rfl mw_M_rulesOf wl_X11_167 ⟨Nat.le_of_ble_eq_true rfl, Nat.le_of_ble_eq_true rfl⟩ rfl rfl (Nat.le_of_ble_eq_true rfl) dX11_named_90 (fun z31 I32 hz31 hI32 v => ?_)
      exact r_iret B hr hk rfl hz31 hI32 v dX11_named_93
    · have v := v.2.2.2.2.1 hcs
      refine r_tabIn B (tgt := 94) dX11_named_11 h2 4 hcs (by decide) (by decide) rfl (by decide) ?_
      refine r_aload_n B dX11_named_94 rfl rfl ?_
      refine r_getR B (C := RX11) (T := TX11) (N := 25) o_236 0 rfl win_X11 (by decide) rfl wf_X11_7 dX11_named_95 ?_
      refine r_bipush B dX11_named_98 (by decide) ?_
      refine r_iload_n B dX11_named_100 rfl rfl ?_
      refine r_iadd B dX11_named_101 ?_
      obtain ⟨h33, v⟩ := v
      refine r_ald B a_237 (by decide) h33 dX11_named_102 ?_
      exact r_iret B hr hk rfl ((hI22 _ _)) hI22 v dX11_named_103
    · have v := v.2.2.2.2.2 hcs
      refine r_tabOut B (tgt := 104) dX11_named_11 h2 hcs (by decide) ?_
      refine r_iconst B dX11_named_104 ?_
      exact r_iret B hr hk rfl ((rg_lit (by decide) (by decide))) hI22 v dX11_named_105
  · have v := v.2 h
    refine r_iconst B dX11_named_8 ?_
    exact r_iret B hr hk rfl ((rg_lit (by decide) (by decide))) hI22 v dX11_named_9
set_option maxHeartbeats 4000000 in
set_option maxRecDepth 100000 in
theorem c_M_ruled {l : Launch} {E : En} {A : Nat → Prop} (x1 : Int) (x2 : Int) (I : Mm)  (hI : rgM I) (h1 : r32 x1) (h2 : r32 x2) : CI l E A yX11_ruled cX11_ruled 3 .int 2 46 [.ref (eA E 236), .int (i2 x1), .int (i2 x2)] I (V_M_ruled x1 x2 I) := by
  intro Q v
  refine mk_met (own := RX11) (lv0 := [(0, .ref (eA E 236)), (1, .int (i2 x1)), (2, .int (i2 x2))]) (by decide) rfl (Nat.le_of_ble_eq_true rfl) rfl (fun p e s m args below meth c0 B hr hk => ?_)
  unfold V_M_ruled at v
  refine r_aload_n B dX11_ruled_0 rfl rfl ?_
  refine r_iload_n B dX11_ruled_1 rfl rfl ?_
  refine r_cI B (st := []) (as := [.int (i2 x1)]) (T := TX11) (N := 25) (c_M_isRule x1 _ hI h1) v o_236 rfl mw_M_isRule wl_X11_146 ⟨Nat.le_of_ble_eq_true rfl, Nat.le_of_ble_eq_true rfl⟩ rfl rfl (Nat.le_of_ble_eq_true rfl) dX11_ruled_2 (fun z21 I22 hz21 hI22 v => ?_)
  refine r_if_eq B (tgt := 37) dX11_ruled_5 (by decide) hz21 (fun h => ?_) (fun h => ?_)
  · have v := v.1 h
    refine r_iconst B dX11_ruled_37 ?_
    exact r_iret B hr hk rfl ((rg_lit (by decide) (by decide))) hI22 v dX11_ruled_38
  · have v := v.2 h
    refine r_iload_n B dX11_ruled_8 rfl rfl ?_
    refine r_i2l B dX11_ruled_9 h2 ?_
    refine r_lconst B 0 dX11_ruled_10 (by decide) ?_
    refine r_ldc2 B (2) dX11_ruled_11 wc_X11_59 (by decide) ?_
    refine r_sI B (st := []) (as := [.long (l2 x2), .long (l2 0), .long (l2 2)]) (c_M_in x2 0 2 _ hI22 ((rg_64 h2)) ((show r64 (0) by exact ⟨by decide, by decide⟩)) ((show r64 (2) by exact ⟨by decide, by decide⟩))) v mw_M_in wl_X11_55 ⟨Nat.le_of_ble_eq_true rfl, Nat.le_of_ble_eq_true rfl⟩ rfl rfl (Nat.le_of_ble_eq_true rfl) dX11_ruled_14 (fun z23 I24 hz23 hI24 v => ?_)
    refine r_if_eq B (tgt := 37) dX11_ruled_17 (by decide) hz23 (fun h => ?_) (fun h => ?_)
    · have v := v.1 h
      refine r_iconst B dX11_ruled_37 ?_
      exact r_iret B hr hk rfl ((rg_lit (by decide) (by decide))) hI24 v dX11_ruled_38
    · have v := v.2 h
      refine r_aload_n B dX11_ruled_20 rfl rfl ?_
      refine r_getR B (C := RX11) (T := TX11) (N := 25) o_236 0 rfl win_X11 (by decide) rfl wf_X11_7 dX11_ruled_21 ?_
      refine r_sipush B dX11_ruled_24 (by decide) ?_
      refine r_iconst B dX11_ruled_27 ?_
      refine r_iload_n B dX11_ruled_28 rfl rfl ?_
      refine r_imul B dX11_ruled_29 ?_
      refine r_iadd B dX11_ruled_30 ?_
      refine r_iload_n B dX11_ruled_31 rfl rfl ?_
      refine r_iadd B dX11_ruled_32 ?_
      obtain ⟨h25, v⟩ := v
      refine r_ald B a_237 (by decide) h25 dX11_ruled_33 ?_
      refine r_goto B (tgt := 38) dX11_ruled_34 (by decide) ?_
      exact r_iret B hr hk rfl ((hI24 _ _)) hI24 v dX11_ruled_38
set_option maxHeartbeats 4000000 in
set_option maxRecDepth 100000 in
theorem c_M_log {l : Launch} {E : En} {A : Nat → Prop} (x1 : Int) (x2 : Int) (I : Mm)  (hI : rgM I) (h1 : r32 x1) (h2 : r32 x2) : CI l E A yX11_log cX11_log 3 .int 1 25 [.ref (eA E 236), .int (i2 x1), .int (i2 x2)] I (V_M_log x1 x2 I) := by
  intro Q v
  refine mk_met (own := RX11) (lv0 := [(0, .ref (eA E 236)), (1, .int (i2 x1)), (2, .int (i2 x2))]) (by decide) rfl (Nat.le_of_ble_eq_true rfl) rfl (fun p e s m args below meth c0 B hr hk => ?_)
  unfold V_M_log at v
  refine r_iload_n B dX11_log_0 rfl rfl ?_
  refine r_i2l B dX11_log_1 h1 ?_
  refine r_lconst B 0 dX11_log_2 (by decide) ?_
  refine r_aload_n B dX11_log_3 rfl rfl ?_
  refine r_getR B (C := RX11) (T := TX11) (N := 25) o_236 0 rfl win_X11 (by decide) rfl wf_X11_7 dX11_log_4 ?_
  refine r_bipush B dX11_log_7 (by decide) ?_
  refine r_ald B a_237 (by decide) (by decide) dX11_log_9 ?_
  refine r_iconst B dX11_log_10 ?_
  refine r_isub B dX11_log_11 ?_
  obtain ⟨h21, v⟩ := v
  refine r_i2l B dX11_log_12 h21 ?_
  refine r_sI B (st := []) (as := [.long (l2 x1), .long (l2 0), .long (l2 (I 237 7 - 1))]) (c_M_in x1 0 (I 237 7 - 1) _ hI ((rg_64 h1)) ((show r64 (0) by exact ⟨by decide, by decide⟩)) ((rg_64 h21))) v mw_M_in wl_X11_55 ⟨Nat.le_of_ble_eq_true rfl, Nat.le_of_ble_eq_true rfl⟩ rfl rfl (Nat.le_of_ble_eq_true rfl) dX11_log_13 (fun z22 I23 hz22 hI23 v => ?_)
  refine r_if_eq B (tgt := 48) dX11_log_16 (by decide) hz22 (fun h => ?_) (fun h => ?_)
  · have v := v.1 h
    refine r_iconst B dX11_log_48 ?_
    exact r_iret B hr hk rfl ((rg_lit (by decide) (by decide))) hI23 v dX11_log_49
  · have v := v.2 h
    refine r_iload_n B dX11_log_19 rfl rfl ?_
    refine r_i2l B dX11_log_20 h2 ?_
    refine r_lconst B 0 dX11_log_21 (by decide) ?_
    refine r_ldc2 B (3) dX11_log_22 wc_X11_61 (by decide) ?_
    refine r_sI B (st := []) (as := [.long (l2 x2), .long (l2 0), .long (l2 3)]) (c_M_in x2 0 3 _ hI23 ((rg_64 h2)) ((show r64 (0) by exact ⟨by decide, by decide⟩)) ((show r64 (3) by exact ⟨by decide, by decide⟩))) v mw_M_in wl_X11_55 ⟨Nat.le_of_ble_eq_true rfl, Nat.le_of_ble_eq_true rfl⟩ rfl rfl (Nat.le_of_ble_eq_true rfl) dX11_log_25 (fun z24 I25 hz24 hI25 v => ?_)
    refine r_if_eq B (tgt := 48) dX11_log_28 (by decide) hz24 (fun h => ?_) (fun h => ?_)
    · have v := v.1 h
      refine r_iconst B dX11_log_48 ?_
      exact r_iret B hr hk rfl ((rg_lit (by decide) (by decide))) hI25 v dX11_log_49
    · have v := v.2 h
      refine r_aload_n B dX11_log_31 rfl rfl ?_
      refine r_getR B (C := RX11) (T := TX11) (N := 25) o_236 0 rfl win_X11 (by decide) rfl wf_X11_7 dX11_log_32 ?_
      refine r_sipush B dX11_log_35 (by decide) ?_
      refine r_iconst B dX11_log_38 ?_
      refine r_iload_n B dX11_log_39 rfl rfl ?_
      refine r_imul B dX11_log_40 ?_
      refine r_iadd B dX11_log_41 ?_
      refine r_iload_n B dX11_log_42 rfl rfl ?_
      refine r_iadd B dX11_log_43 ?_
      obtain ⟨h26, v⟩ := v
      refine r_ald B a_237 (by decide) h26 dX11_log_44 ?_
      refine r_goto B (tgt := 49) dX11_log_45 (by decide) ?_
      exact r_iret B hr hk rfl ((hI25 _ _)) hI25 v dX11_log_49
set_option maxHeartbeats 4000000 in
set_option maxRecDepth 100000 in
theorem c_M_total {l : Launch} {E : En} {A : Nat → Prop} (x1 : Int) (I : Mm)  (hI : rgM I) (h1 : r32 x1) : CI l E A yX11_total cX11_total 2 .int 1 25 [.ref (eA E 236), .int (i2 x1)] I (V_M_total x1 I) := by
  intro Q v
  refine mk_met (own := RX11) (lv0 := [(0, .ref (eA E 236)), (1, .int (i2 x1))]) (by decide) rfl (Nat.le_of_ble_eq_true rfl) rfl (fun p e s m args below meth c0 B hr hk => ?_)
  unfold V_M_total at v
  refine r_iload_n B dX11_total_0 rfl rfl ?_
  refine r_i2l B dX11_total_1 h1 ?_
  refine r_lconst B 0 dX11_total_2 (by decide) ?_
  refine r_ldc2 B (7) dX11_total_3 wc_X11_170 (by decide) ?_
  refine r_sI B (st := []) (as := [.long (l2 x1), .long (l2 0), .long (l2 7)]) (c_M_in x1 0 7 _ hI ((rg_64 h1)) ((show r64 (0) by exact ⟨by decide, by decide⟩)) ((show r64 (7) by exact ⟨by decide, by decide⟩))) v mw_M_in wl_X11_55 ⟨Nat.le_of_ble_eq_true rfl, Nat.le_of_ble_eq_true rfl⟩ rfl rfl (Nat.le_of_ble_eq_true rfl) dX11_total_6 (fun z21 I22 hz21 hI22 v => ?_)
  refine r_if_eq B (tgt := 24) dX11_total_9 (by decide) hz21 (fun h => ?_) (fun h => ?_)
  · have v := v.1 h
    refine r_iconst B dX11_total_24 ?_
    exact r_iret B hr hk rfl ((rg_lit (by decide) (by decide))) hI22 v dX11_total_25
  · have v := v.2 h
    refine r_aload_n B dX11_total_12 rfl rfl ?_
    refine r_getR B (C := RX11) (T := TX11) (N := 25) o_236 0 rfl win_X11 (by decide) rfl wf_X11_7 dX11_total_13 ?_
    refine r_bipush B dX11_total_16 (by decide) ?_
    refine r_iload_n B dX11_total_18 rfl rfl ?_
    refine r_iadd B dX11_total_19 ?_
    obtain ⟨h23, v⟩ := v
    refine r_ald B a_237 (by decide) h23 dX11_total_20 ?_
    refine r_goto B (tgt := 25) dX11_total_21 (by decide) ?_
    exact r_iret B hr hk rfl ((hI22 _ _)) hI22 v dX11_total_25
set_option maxHeartbeats 4000000 in
set_option maxRecDepth 100000 in
theorem c_M_count {l : Launch} {E : En} {A : Nat → Prop} (x1 : Int) (I : Mm)  (hI : rgM I) (h1 : r32 x1) : CI l E A yX11_count cX11_count 2 .int 0 0 [.ref (eA E 236), .int (i2 x1)] I (V_M_count x1 I) := by
  intro Q v
  refine mk_met (own := RX11) (lv0 := [(0, .ref (eA E 236)), (1, .int (i2 x1))]) (by decide) rfl (Nat.le_of_ble_eq_true rfl) rfl (fun p e s m args below meth c0 B hr hk => ?_)
  unfold V_M_count at v
  refine r_iload_n B dX11_count_0 rfl rfl ?_
  have hsw : x1 = 0 ∨ x1 = 1 ∨ x1 = 2 ∨ x1 = 3 ∨ x1 = 4 ∨ x1 = 5 ∨ x1 = 6 ∨ x1 = 7 ∨ x1 = 8 ∨ x1 = 9 ∨ (x1 < 0 ∨ 9 < x1) := by omega
  rcases hsw with hcs | hcs | hcs | hcs | hcs | hcs | hcs | hcs | hcs | hcs | hcs
  · have v := v.1 hcs
    refine r_tabIn B (tgt := 56) dX11_count_1 h1 0 hcs (by decide) (by decide) rfl (by decide) ?_
    refine r_aload_n B dX11_count_56 rfl rfl ?_
    refine r_getR B (C := RX11) (T := TX11) (N := 25) o_236 0 rfl win_X11 (by decide) rfl wf_X11_7 dX11_count_57 ?_
    refine r_iconst B dX11_count_60 ?_
    refine r_ald B a_237 (by decide) (by decide) dX11_count_61 ?_
    exact r_iret B hr hk rfl ((hI _ _)) hI v dX11_count_62
  · have v := v.2.1 hcs
    refine r_tabIn B (tgt := 63) dX11_count_1 h1 1 hcs (by decide) (by decide) rfl (by decide) ?_
    refine r_aload_n B dX11_count_63 rfl rfl ?_
    refine r_getR B (C := RX11) (T := TX11) (N := 25) o_236 0 rfl win_X11 (by decide) rfl wf_X11_7 dX11_count_64 ?_
    refine r_iconst B dX11_count_67 ?_
    refine r_ald B a_237 (by decide) (by decide) dX11_count_68 ?_
    exact r_iret B hr hk rfl ((hI _ _)) hI v dX11_count_69
  · have v := v.2.2.1 hcs
    refine r_tabIn B (tgt := 70) dX11_count_1 h1 2 hcs (by decide) (by decide) rfl (by decide) ?_
    refine r_aload_n B dX11_count_70 rfl rfl ?_
    refine r_getR B (C := RX11) (T := TX11) (N := 25) o_236 0 rfl win_X11 (by decide) rfl wf_X11_7 dX11_count_71 ?_
    refine r_iconst B dX11_count_74 ?_
    refine r_ald B a_237 (by decide) (by decide) dX11_count_75 ?_
    exact r_iret B hr hk rfl ((hI _ _)) hI v dX11_count_76
  · have v := v.2.2.2.1 hcs
    refine r_tabIn B (tgt := 77) dX11_count_1 h1 3 hcs (by decide) (by decide) rfl (by decide) ?_
    refine r_aload_n B dX11_count_77 rfl rfl ?_
    refine r_getR B (C := RX11) (T := TX11) (N := 25) o_236 0 rfl win_X11 (by decide) rfl wf_X11_7 dX11_count_78 ?_
    refine r_iconst B dX11_count_81 ?_
    refine r_ald B a_237 (by decide) (by decide) dX11_count_82 ?_
    exact r_iret B hr hk rfl ((hI _ _)) hI v dX11_count_83
  · have v := v.2.2.2.2.1 hcs
    refine r_tabIn B (tgt := 84) dX11_count_1 h1 4 hcs (by decide) (by decide) rfl (by decide) ?_
    refine r_aload_n B dX11_count_84 rfl rfl ?_
    refine r_getR B (C := RX11) (T := TX11) (N := 25) o_236 0 rfl win_X11 (by decide) rfl wf_X11_7 dX11_count_85 ?_
    refine r_iconst B dX11_count_88 ?_
    refine r_ald B a_237 (by decide) (by decide) dX11_count_89 ?_
    exact r_iret B hr hk rfl ((hI _ _)) hI v dX11_count_90
  · have v := v.2.2.2.2.2.1 hcs
    refine r_tabIn B (tgt := 91) dX11_count_1 h1 5 hcs (by decide) (by decide) rfl (by decide) ?_
    refine r_aload_n B dX11_count_91 rfl rfl ?_
    refine r_getR B (C := RX11) (T := TX11) (N := 25) o_236 0 rfl win_X11 (by decide) rfl wf_X11_7 dX11_count_92 ?_
    refine r_iconst B dX11_count_95 ?_
    refine r_ald B a_237 (by decide) (by decide) dX11_count_96 ?_
    exact r_iret B hr hk rfl ((hI _ _)) hI v dX11_count_97
  · have v := v.2.2.2.2.2.2.1 hcs
    refine r_tabIn B (tgt := 98) dX11_count_1 h1 6 hcs (by decide) (by decide) rfl (by decide) ?_
    refine r_aload_n B dX11_count_98 rfl rfl ?_
    refine r_getI B (C := RX11) (T := TX11) (N := 25) o_236 3 rfl win_X11 (by decide) rfl wf_X11_108 dX11_count_99 (jj := 3) rfl ?_
    exact r_iret B hr hk rfl ((hI _ _)) hI v dX11_count_102
  · have v := v.2.2.2.2.2.2.2.1 hcs
    refine r_tabIn B (tgt := 103) dX11_count_1 h1 7 hcs (by decide) (by decide) rfl (by decide) ?_
    refine r_aload_n B dX11_count_103 rfl rfl ?_
    refine r_getI B (C := RX11) (T := TX11) (N := 25) o_236 16 rfl win_X11 (by decide) rfl wf_X11_172 dX11_count_104 (jj := 16) rfl ?_
    exact r_iret B hr hk rfl ((hI _ _)) hI v dX11_count_107
  · have v := v.2.2.2.2.2.2.2.2.1 hcs
    refine r_tabIn B (tgt := 108) dX11_count_1 h1 8 hcs (by decide) (by decide) rfl (by decide) ?_
    refine r_aload_n B dX11_count_108 rfl rfl ?_
    refine r_getR B (C := RX11) (T := TX11) (N := 25) o_236 5 rfl win_X11 (by decide) rfl wf_X11_22 dX11_count_109 ?_
    refine r_iconst B dX11_count_112 ?_
    refine r_zld B a_241 (by decide) (by decide) dX11_count_113 ?_
    refine r_if_eq B (tgt := 121) dX11_count_114 (by decide) ((hI _ _)) (fun h => ?_) (fun h => ?_)
    · have v := v.1 h
      refine r_iconst B dX11_count_121 ?_
      refine r_aload_n B dX11_count_122 rfl rfl ?_
      refine r_getR B (C := RX11) (T := TX11) (N := 25) o_236 5 rfl win_X11 (by decide) rfl wf_X11_22 dX11_count_123 ?_
      refine r_iconst B dX11_count_126 ?_
      refine r_zld B a_241 (by decide) (by decide) dX11_count_127 ?_
      refine r_if_eq B (tgt := 135) dX11_count_128 (by decide) ((hI _ _)) (fun h => ?_) (fun h => ?_)
      · have v := v.1 h
        refine r_iconst B dX11_count_135 ?_
        refine r_iadd B dX11_count_136 ?_
        obtain ⟨h21, v⟩ := v
        exact r_iret B hr hk rfl h21 hI v dX11_count_137
      · have v := v.2 h
        refine r_iconst B dX11_count_131 ?_
        refine r_goto B (tgt := 136) dX11_count_132 (by decide) ?_
        refine r_iadd B dX11_count_136 ?_
        obtain ⟨h22, v⟩ := v
        exact r_iret B hr hk rfl h22 hI v dX11_count_137
    · have v := v.2 h
      refine r_iconst B dX11_count_117 ?_
      refine r_goto B (tgt := 122) dX11_count_118 (by decide) ?_
      refine r_aload_n B dX11_count_122 rfl rfl ?_
      refine r_getR B (C := RX11) (T := TX11) (N := 25) o_236 5 rfl win_X11 (by decide) rfl wf_X11_22 dX11_count_123 ?_
      refine r_iconst B dX11_count_126 ?_
      refine r_zld B a_241 (by decide) (by decide) dX11_count_127 ?_
      refine r_if_eq B (tgt := 135) dX11_count_128 (by decide) ((hI _ _)) (fun h => ?_) (fun h => ?_)
      · have v := v.1 h
        refine r_iconst B dX11_count_135 ?_
        refine r_iadd B dX11_count_136 ?_
        obtain ⟨h23, v⟩ := v
        exact r_iret B hr hk rfl h23 hI v dX11_count_137
      · have v := v.2 h
        refine r_iconst B dX11_count_131 ?_
        refine r_goto B (tgt := 136) dX11_count_132 (by decide) ?_
        refine r_iadd B dX11_count_136 ?_
        obtain ⟨h24, v⟩ := v
        exact r_iret B hr hk rfl h24 hI v dX11_count_137
  · have v := v.2.2.2.2.2.2.2.2.2.1 hcs
    refine r_tabIn B (tgt := 138) dX11_count_1 h1 9 hcs (by decide) (by decide) rfl (by decide) ?_
    refine r_aload_n B dX11_count_138 rfl rfl ?_
    refine r_getR B (C := RX11) (T := TX11) (N := 25) o_236 0 rfl win_X11 (by decide) rfl wf_X11_7 dX11_count_139 ?_
    refine r_bipush B dX11_count_142 (by decide) ?_
    refine r_ald B a_237 (by decide) (by decide) dX11_count_144 ?_
    exact r_iret B hr hk rfl ((hI _ _)) hI v dX11_count_145
  · have v := v.2.2.2.2.2.2.2.2.2.2 hcs
    refine r_tabOut B (tgt := 146) dX11_count_1 h1 hcs (by decide) ?_
    refine r_iconst B dX11_count_146 ?_
    exact r_iret B hr hk rfl ((rg_lit (by decide) (by decide))) hI v dX11_count_147
set_option maxHeartbeats 4000000 in
set_option maxRecDepth 100000 in
theorem wL_M_mostIn_7 {p : Program} {l : Launch} {e : Env} {s : State} {m : MethodId} {args : Array Value} {below : List Frame} {meth : Method} {c0 : Code} {E : En} {A : Nat → Prop} {x1 : Int} {Q : Int → Mm → Prop}  (B : Bd p (rmm 2 49) s m args c0 cX11_mostIn 6 RX11 E A 0 0) (hr : meth.sig.returnType = some .int) (hk : meth.locks = false) (h1 : r32 x1)   : ∀ (n : Nat) (x2 : Int) (x3 : Int) (x4 : Int) (I : Mm), rgM I → r32 x2 → r32 x3 → r32 x4 → L_M_mostIn_7 x1 Q n x2 x3 x4 I → WI p l e (rmm 2 49) s m args below meth c0 E A 6 0 0 (qI below E A args s Q) I 7 [(0, .ref (eA E 236)), (1, .int (i2 x1)), (2, .int (i2 x2)), (3, .int (i2 x3)), (4, .int (i2 x4))] [] := by
  intro n
  induction n with
  | zero => intro x2 x3 x4 I _ _ _ _ v; exact absurd v id
  | succ n ih =>
    intro x2 x3 x4 I hI h2 h3 h4 v
    unfold L_M_mostIn_7 at v
    refine r_iload B dX11_mostIn_7 rfl ?_
    refine r_aload_n B dX11_mostIn_9 rfl rfl ?_
    refine r_getR B (C := RX11) (T := TX11) (N := 25) o_236 0 rfl win_X11 (by decide) rfl wf_X11_7 dX11_mostIn_10 ?_
    refine r_iconst B dX11_mostIn_13 ?_
    refine r_ald B a_237 (by decide) (by decide) dX11_mostIn_14 ?_
    refine r_icmp_ge B (tgt := 48) dX11_mostIn_15 (by decide) h4 ((hI _ _)) (fun h => ?_) (fun h => ?_)
    · have v := v.1 h
      refine r_iload_n B dX11_mostIn_48 rfl rfl ?_
      refine r_if_eq B (tgt := 56) dX11_mostIn_49 (by decide) h1 (fun h => ?_) (fun h => ?_)
      · have v := v.1 h
        refine r_iload_n B dX11_mostIn_56 rfl rfl ?_
        exact r_iret B hr hk rfl h2 hI v dX11_mostIn_57
      · have v := v.2 h
        refine r_iload_n B dX11_mostIn_52 rfl rfl ?_
        refine r_goto B (tgt := 57) dX11_mostIn_53 (by decide) ?_
        exact r_iret B hr hk rfl h3 hI v dX11_mostIn_57
    · have v := v.2 h
      refine r_aload_n B dX11_mostIn_18 rfl rfl ?_
      refine r_iload B dX11_mostIn_19 rfl ?_
      refine r_iconst B dX11_mostIn_21 ?_
      refine r_cI B (st := []) (as := [.int (i2 x4), .int (i2 (-1))]) (T := TX11) (N := 25) (c_M_row x4 (-1) _ hI h4 ((rg_lit (by decide) (by decide)))) v o_236 rfl mw_M_row wl_X11_175 ⟨Nat.le_of_ble_eq_true rfl, Nat.le_of_ble_eq_true rfl⟩ rfl rfl (Nat.le_of_ble_eq_true rfl) dX11_mostIn_22 (fun z21 I22 hz21 hI22 v => ?_)
      refine r_istore B dX11_mostIn_25 (by decide) (lv' := [(5, .int (i2 z21)), (0, .ref (eA E 236)), (1, .int (i2 x1)), (2, .int (i2 x2)), (3, .int (i2 x3)), (4, .int (i2 x4))]) rfl ?_
      refine r_sub [1, 2, 3, 4, 5, 0] rfl ?_
      refine r_iload B dX11_mostIn_27 rfl ?_
      refine r_iload_n B dX11_mostIn_29 rfl rfl ?_
      refine r_icmp_gt B (tgt := 36) dX11_mostIn_30 (by decide) hz21 h2 (fun h => ?_) (fun h => ?_)
      · have v := v.1 h
        refine r_iload B dX11_mostIn_36 rfl ?_
        refine r_istore_n B dX11_mostIn_38 rfl (by decide) (lv' := [(2, .int (i2 z21)), (0, .ref (eA E 236)), (1, .int (i2 x1)), (3, .int (i2 x3)), (4, .int (i2 x4)), (5, .int (i2 z21))]) rfl ?_
        refine r_sub [1, 2, 0, 3, 4, 5] rfl ?_
        refine r_iload B dX11_mostIn_39 rfl ?_
        refine r_istore_n B dX11_mostIn_41 rfl (by decide) (lv' := [(3, .int (i2 x4)), (0, .ref (eA E 236)), (1, .int (i2 x1)), (2, .int (i2 z21)), (4, .int (i2 x4)), (5, .int (i2 z21))]) rfl ?_
        refine r_sub [1, 2, 3, 0, 4, 5] rfl ?_
        refine r_iinc B (q := 4) dX11_mostIn_42 (by decide) rfl (lv' := [(4, .int (i2 (x4 + 1))), (0, .ref (eA E 236)), (1, .int (i2 x1)), (2, .int (i2 z21)), (3, .int (i2 x4)), (5, .int (i2 z21))]) rfl ?_
        refine r_sub [1, 2, 3, 4, 0, 5] rfl ?_
        refine r_goto B (tgt := 7) dX11_mostIn_45 (by decide) ?_
        obtain ⟨h23, v⟩ := v
        refine r_sub [0, 1, 2, 3, 4] rfl ?_
        exact ih z21 x4 (x4 + 1) _ hI22 hz21 h4 h23 v
      · have v := v.2 h
        refine r_goto B (tgt := 42) dX11_mostIn_33 (by decide) ?_
        refine r_iinc B (q := 4) dX11_mostIn_42 (by decide) rfl (lv' := [(4, .int (i2 (x4 + 1))), (0, .ref (eA E 236)), (1, .int (i2 x1)), (2, .int (i2 x2)), (3, .int (i2 x3)), (5, .int (i2 z21))]) rfl ?_
        refine r_sub [1, 2, 3, 4, 0, 5] rfl ?_
        refine r_goto B (tgt := 7) dX11_mostIn_45 (by decide) ?_
        obtain ⟨h24, v⟩ := v
        refine r_sub [0, 1, 2, 3, 4] rfl ?_
        exact ih x2 x3 (x4 + 1) _ hI22 h2 h3 h24 v
set_option maxHeartbeats 4000000 in
set_option maxRecDepth 100000 in
theorem c_M_mostIn {l : Launch} {E : En} {A : Nat → Prop} (x1 : Int) (I : Mm)  (hI : rgM I) (h1 : r32 x1) : CI l E A yX11_mostIn cX11_mostIn 6 .int 2 49 [.ref (eA E 236), .int (i2 x1)] I (V_M_mostIn x1 I) := by
  intro Q v
  refine mk_met (own := RX11) (lv0 := [(0, .ref (eA E 236)), (1, .int (i2 x1))]) (by decide) rfl (Nat.le_of_ble_eq_true rfl) rfl (fun p e s m args below meth c0 B hr hk => ?_)
  unfold V_M_mostIn at v
  refine r_iconst B dX11_mostIn_0 ?_
  refine r_istore_n B dX11_mostIn_1 rfl (by decide) (lv' := [(2, .int (i2 0)), (0, .ref (eA E 236)), (1, .int (i2 x1))]) rfl ?_
  refine r_sub [1, 2, 0] rfl ?_
  refine r_iconst B dX11_mostIn_2 ?_
  refine r_istore_n B dX11_mostIn_3 rfl (by decide) (lv' := [(3, .int (i2 0)), (0, .ref (eA E 236)), (1, .int (i2 x1)), (2, .int (i2 0))]) rfl ?_
  refine r_sub [1, 2, 3, 0] rfl ?_
  refine r_iconst B dX11_mostIn_4 ?_
  refine r_istore B dX11_mostIn_5 (by decide) (lv' := [(4, .int (i2 0)), (0, .ref (eA E 236)), (1, .int (i2 x1)), (2, .int (i2 0)), (3, .int (i2 0))]) rfl ?_
  refine r_sub [1, 2, 3, 4, 0] rfl ?_
  obtain ⟨f25, v⟩ := v
  refine r_sub [0, 1, 2, 3, 4] rfl ?_
  exact wL_M_mostIn_7 B hr hk h1 f25 0 0 0 I hI ((rg_lit (by decide) (by decide))) ((rg_lit (by decide) (by decide))) ((rg_lit (by decide) (by decide))) v
set_option maxHeartbeats 4000000 in
set_option maxRecDepth 100000 in
theorem wL_M_bare_4 {p : Program} {l : Launch} {e : Env} {s : State} {m : MethodId} {args : Array Value} {below : List Frame} {meth : Method} {c0 : Code} {E : En} {A : Nat → Prop}  {Q : Int → Mm → Prop}  (B : Bd p (rmm 2 49) s m args c0 cX11_bare 3 RX11 E A 0 0) (hr : meth.sig.returnType = some .int) (hk : meth.locks = false)    : ∀ (n : Nat) (x1 : Int) (x2 : Int) (I : Mm), rgM I → r32 x1 → r32 x2 → L_M_bare_4 Q n x1 x2 I → WI p l e (rmm 2 49) s m args below meth c0 E A 3 0 0 (qI below E A args s Q) I 4 [(0, .ref (eA E 236)), (1, .int (i2 x1)), (2, .int (i2 x2))] [] := by
  intro n
  induction n with
  | zero => intro x1 x2 I _ _ _ v; exact absurd v id
  | succ n ih =>
    intro x1 x2 I hI h1 h2 v
    unfold L_M_bare_4 at v
    refine r_iload_n B dX11_bare_4 rfl rfl ?_
    refine r_aload_n B dX11_bare_5 rfl rfl ?_
    refine r_getR B (C := RX11) (T := TX11) (N := 25) o_236 0 rfl win_X11 (by decide) rfl wf_X11_7 dX11_bare_6 ?_
    refine r_iconst B dX11_bare_9 ?_
    refine r_ald B a_237 (by decide) (by decide) dX11_bare_10 ?_
    refine r_icmp_ge B (tgt := 37) dX11_bare_11 (by decide) h2 ((hI _ _)) (fun h => ?_) (fun h => ?_)
    · have v := v.1 h
      refine r_iload_n B dX11_bare_37 rfl rfl ?_
      exact r_iret B hr hk rfl h1 hI v dX11_bare_38
    · have v := v.2 h
      refine r_iload_n B dX11_bare_14 rfl rfl ?_
      refine r_aload_n B dX11_bare_15 rfl rfl ?_
      refine r_iload_n B dX11_bare_16 rfl rfl ?_
      refine r_iconst B dX11_bare_17 ?_
      refine r_cI B (st := [.int (i2 x1)]) (as := [.int (i2 x2), .int (i2 (-1))]) (T := TX11) (N := 25) (c_M_row x2 (-1) _ hI h2 ((rg_lit (by decide) (by decide)))) v o_236 rfl mw_M_row wl_X11_175 ⟨Nat.le_of_ble_eq_true rfl, Nat.le_of_ble_eq_true rfl⟩ rfl rfl (Nat.le_of_ble_eq_true rfl) dX11_bare_18 (fun z21 I22 hz21 hI22 v => ?_)
      refine r_if_ne B (tgt := 28) dX11_bare_21 (by decide) hz21 (fun h => ?_) (fun h => ?_)
      · have v := v.1 h
        refine r_iconst B dX11_bare_28 ?_
        refine r_iadd B dX11_bare_29 ?_
        refine r_istore_n B dX11_bare_30 rfl (by decide) (lv' := [(1, .int (i2 (x1 + 0))), (0, .ref (eA E 236)), (2, .int (i2 x2))]) rfl ?_
        refine r_sub [1, 0, 2] rfl ?_
        refine r_iinc B (q := 2) dX11_bare_31 (by decide) rfl (lv' := [(2, .int (i2 (x2 + 1))), (0, .ref (eA E 236)), (1, .int (i2 (x1 + 0)))]) rfl ?_
        refine r_sub [1, 2, 0] rfl ?_
        refine r_goto B (tgt := 4) dX11_bare_34 (by decide) ?_
        obtain ⟨h23, v⟩ := v
        obtain ⟨h24, v⟩ := v
        refine r_sub [0, 1, 2] rfl ?_
        exact ih (x1 + 0) (x2 + 1) _ hI22 h23 h24 v
      · have v := v.2 h
        refine r_iconst B dX11_bare_24 ?_
        refine r_goto B (tgt := 29) dX11_bare_25 (by decide) ?_
        refine r_iadd B dX11_bare_29 ?_
        refine r_istore_n B dX11_bare_30 rfl (by decide) (lv' := [(1, .int (i2 (x1 + 1))), (0, .ref (eA E 236)), (2, .int (i2 x2))]) rfl ?_
        refine r_sub [1, 0, 2] rfl ?_
        refine r_iinc B (q := 2) dX11_bare_31 (by decide) rfl (lv' := [(2, .int (i2 (x2 + 1))), (0, .ref (eA E 236)), (1, .int (i2 (x1 + 1)))]) rfl ?_
        refine r_sub [1, 2, 0] rfl ?_
        refine r_goto B (tgt := 4) dX11_bare_34 (by decide) ?_
        obtain ⟨h25, v⟩ := v
        obtain ⟨h26, v⟩ := v
        refine r_sub [0, 1, 2] rfl ?_
        exact ih (x1 + 1) (x2 + 1) _ hI22 h25 h26 v
set_option maxHeartbeats 4000000 in
set_option maxRecDepth 100000 in
theorem c_M_bare {l : Launch} {E : En} {A : Nat → Prop}  (I : Mm)  (hI : rgM I)  : CI l E A yX11_bare cX11_bare 3 .int 2 49 [.ref (eA E 236)] I (V_M_bare  I) := by
  intro Q v
  refine mk_met (own := RX11) (lv0 := [(0, .ref (eA E 236))]) (by decide) rfl (Nat.le_of_ble_eq_true rfl) rfl (fun p e s m args below meth c0 B hr hk => ?_)
  unfold V_M_bare at v
  refine r_iconst B dX11_bare_0 ?_
  refine r_istore_n B dX11_bare_1 rfl (by decide) (lv' := [(1, .int (i2 0)), (0, .ref (eA E 236))]) rfl ?_
  refine r_sub [1, 0] rfl ?_
  refine r_iconst B dX11_bare_2 ?_
  refine r_istore_n B dX11_bare_3 rfl (by decide) (lv' := [(2, .int (i2 0)), (0, .ref (eA E 236)), (1, .int (i2 0))]) rfl ?_
  refine r_sub [1, 2, 0] rfl ?_
  obtain ⟨f27, v⟩ := v
  refine r_sub [0, 1, 2] rfl ?_
  exact wL_M_bare_4 B hr hk f27 0 0 I hI ((rg_lit (by decide) (by decide))) ((rg_lit (by decide) (by decide))) v
set_option maxHeartbeats 4000000 in
set_option maxRecDepth 100000 in
theorem wJ_M_mostAlike_52 {p : Program} {l : Launch} {e : Env} {s : State} {m : MethodId} {args : Array Value} {below : List Frame} {meth : Method} {c0 : Code} {E : En} {A : Nat → Prop}  {Q : Int → Mm → Prop} {K6 : Int → Int → Int → Mm → Prop} (B : Bd p (rmm 0 0) s m args c0 cX11_mostAlike 4 RX11 E A 0 0) (hr : meth.sig.returnType = some .int) (hk : meth.locks = false)   (k6 : ∀ (x1 : Int) (x2 : Int) (x3 : Int) (I : Mm), rgM I → r32 x1 → r32 x2 → r32 x3 → K6 x1 x2 x3 I → WI p l e (rmm 0 0) s m args below meth c0 E A 4 0 0 (qI below E A args s Q) I 6 [(0, .ref (eA E 236)), (1, .int (i2 x1)), (2, .int (i2 x2)), (3, .int (i2 x3))] []) : ∀ (x1 : Int) (x3 : Int) (t0 : Int) (I : Mm), rgM I → r32 x1 → r32 x3 → r32 t0 → J_M_mostAlike_52 Q K6 x1 x3 t0 I → WI p l e (rmm 0 0) s m args below meth c0 E A 4 0 0 (qI below E A args s Q) I 52 [(0, .ref (eA E 236)), (1, .int (i2 x1)), (3, .int (i2 x3))] [.int (i2 t0)] := by
  intro x1 x3 t0 I hI h1 h3 ht0 v
  unfold J_M_mostAlike_52 at v
  refine r_istore_n B dX11_mostAlike_52 rfl (by decide) (lv' := [(2, .int (i2 t0)), (0, .ref (eA E 236)), (1, .int (i2 x1)), (3, .int (i2 x3))]) rfl ?_
  refine r_sub [1, 2, 0, 3] rfl ?_
  refine r_iload_n B dX11_mostAlike_53 rfl rfl ?_
  refine r_iload_n B dX11_mostAlike_54 rfl rfl ?_
  refine r_icmp_le B (tgt := 62) dX11_mostAlike_55 (by decide) ht0 h1 (fun h => ?_) (fun h => ?_)
  · have v := v.1 h
    refine r_iload_n B dX11_mostAlike_62 rfl rfl ?_
    refine r_istore_n B dX11_mostAlike_63 rfl (by decide) (lv' := [(1, .int (i2 x1)), (0, .ref (eA E 236)), (2, .int (i2 t0)), (3, .int (i2 x3))]) rfl ?_
    refine r_sub [1, 0, 2, 3] rfl ?_
    refine r_iinc B (q := 3) dX11_mostAlike_64 (by decide) rfl (lv' := [(3, .int (i2 (x3 + 1))), (0, .ref (eA E 236)), (1, .int (i2 x1)), (2, .int (i2 t0))]) rfl ?_
    refine r_sub [1, 2, 3, 0] rfl ?_
    refine r_goto B (tgt := 6) dX11_mostAlike_67 (by decide) ?_
    obtain ⟨h21, v⟩ := v
    refine r_sub [0, 1, 2, 3] rfl ?_
    exact k6 x1 t0 (x3 + 1) _ hI h1 ht0 h21 v
  · have v := v.2 h
    refine r_iload_n B dX11_mostAlike_58 rfl rfl ?_
    refine r_goto B (tgt := 63) dX11_mostAlike_59 (by decide) ?_
    refine r_istore_n B dX11_mostAlike_63 rfl (by decide) (lv' := [(1, .int (i2 t0)), (0, .ref (eA E 236)), (2, .int (i2 t0)), (3, .int (i2 x3))]) rfl ?_
    refine r_sub [1, 0, 2, 3] rfl ?_
    refine r_iinc B (q := 3) dX11_mostAlike_64 (by decide) rfl (lv' := [(3, .int (i2 (x3 + 1))), (0, .ref (eA E 236)), (1, .int (i2 t0)), (2, .int (i2 t0))]) rfl ?_
    refine r_sub [1, 2, 3, 0] rfl ?_
    refine r_goto B (tgt := 6) dX11_mostAlike_67 (by decide) ?_
    obtain ⟨h22, v⟩ := v
    refine r_sub [0, 1, 2, 3] rfl ?_
    exact k6 t0 t0 (x3 + 1) _ hI ht0 ht0 h22 v
set_option maxHeartbeats 4000000 in
set_option maxRecDepth 100000 in
theorem wJ_M_mostAlike_51 {p : Program} {l : Launch} {e : Env} {s : State} {m : MethodId} {args : Array Value} {below : List Frame} {meth : Method} {c0 : Code} {E : En} {A : Nat → Prop}  {Q : Int → Mm → Prop} {K6 : Int → Int → Int → Mm → Prop} (B : Bd p (rmm 0 0) s m args c0 cX11_mostAlike 4 RX11 E A 0 0) (hr : meth.sig.returnType = some .int) (hk : meth.locks = false)   (k6 : ∀ (x1 : Int) (x2 : Int) (x3 : Int) (I : Mm), rgM I → r32 x1 → r32 x2 → r32 x3 → K6 x1 x2 x3 I → WI p l e (rmm 0 0) s m args below meth c0 E A 4 0 0 (qI below E A args s Q) I 6 [(0, .ref (eA E 236)), (1, .int (i2 x1)), (2, .int (i2 x2)), (3, .int (i2 x3))] []) : ∀ (x1 : Int) (x3 : Int) (I : Mm), rgM I → r32 x1 → r32 x3 → J_M_mostAlike_51 Q K6 x1 x3 I → WI p l e (rmm 0 0) s m args below meth c0 E A 4 0 0 (qI below E A args s Q) I 51 [(0, .ref (eA E 236)), (1, .int (i2 x1)), (3, .int (i2 x3))] [] := by
  intro x1 x3 I hI h1 h3 v
  unfold J_M_mostAlike_51 at v
  refine r_iconst B dX11_mostAlike_51 ?_
  refine r_sub [0, 1, 2] rfl ?_
  exact wJ_M_mostAlike_52 B hr hk k6 x1 x3 1 I hI h1 h3 ((rg_lit (by decide) (by decide))) v
set_option maxHeartbeats 4000000 in
set_option maxRecDepth 100000 in
theorem wL_M_mostAlike_6 {p : Program} {l : Launch} {e : Env} {s : State} {m : MethodId} {args : Array Value} {below : List Frame} {meth : Method} {c0 : Code} {E : En} {A : Nat → Prop}  {Q : Int → Mm → Prop}  (B : Bd p (rmm 0 0) s m args c0 cX11_mostAlike 4 RX11 E A 0 0) (hr : meth.sig.returnType = some .int) (hk : meth.locks = false)    : ∀ (n : Nat) (x1 : Int) (x2 : Int) (x3 : Int) (I : Mm), rgM I → r32 x1 → r32 x2 → r32 x3 → L_M_mostAlike_6 Q n x1 x2 x3 I → WI p l e (rmm 0 0) s m args below meth c0 E A 4 0 0 (qI below E A args s Q) I 6 [(0, .ref (eA E 236)), (1, .int (i2 x1)), (2, .int (i2 x2)), (3, .int (i2 x3))] [] := by
  intro n
  induction n with
  | zero => intro x1 x2 x3 I _ _ _ _ v; exact absurd v id
  | succ n ih =>
    intro x1 x2 x3 I hI h1 h2 h3 v
    unfold L_M_mostAlike_6 at v
    refine r_iload_n B dX11_mostAlike_6 rfl rfl ?_
    refine r_aload_n B dX11_mostAlike_7 rfl rfl ?_
    refine r_getR B (C := RX11) (T := TX11) (N := 25) o_236 0 rfl win_X11 (by decide) rfl wf_X11_7 dX11_mostAlike_8 ?_
    refine r_iconst B dX11_mostAlike_11 ?_
    refine r_ald B a_237 (by decide) (by decide) dX11_mostAlike_12 ?_
    refine r_icmp_ge B (tgt := 70) dX11_mostAlike_13 (by decide) h3 ((hI _ _)) (fun h => ?_) (fun h => ?_)
    · have v := v.1 h
      refine r_iload_n B dX11_mostAlike_70 rfl rfl ?_
      exact r_iret B hr hk rfl h1 hI v dX11_mostAlike_71
    · have v := v.2 h
      refine r_iload_n B dX11_mostAlike_16 rfl rfl ?_
      refine r_if_le B (tgt := 51) dX11_mostAlike_17 (by decide) h3 (fun h => ?_) (fun h => ?_)
      · have v := v.1 h
        refine r_sub [0, 1, 3] rfl ?_
        exact wJ_M_mostAlike_51 B hr hk ih x1 x3 I hI h1 h3 v
      · have v := v.2 h
        refine r_aload_n B dX11_mostAlike_20 rfl rfl ?_
        refine r_getR B (C := RX11) (T := TX11) (N := 25) o_236 0 rfl win_X11 (by decide) rfl wf_X11_7 dX11_mostAlike_21 ?_
        refine r_sipush B dX11_mostAlike_24 (by decide) ?_
        refine r_iload_n B dX11_mostAlike_27 rfl rfl ?_
        refine r_iadd B dX11_mostAlike_28 ?_
        obtain ⟨h25, v⟩ := v
        refine r_ald B a_237 (by decide) h25 dX11_mostAlike_29 ?_
        refine r_aload_n B dX11_mostAlike_30 rfl rfl ?_
        refine r_getR B (C := RX11) (T := TX11) (N := 25) o_236 0 rfl win_X11 (by decide) rfl wf_X11_7 dX11_mostAlike_31 ?_
        refine r_sipush B dX11_mostAlike_34 (by decide) ?_
        refine r_iload_n B dX11_mostAlike_37 rfl rfl ?_
        refine r_iadd B dX11_mostAlike_38 ?_
        refine r_iconst B dX11_mostAlike_39 ?_
        refine r_isub B dX11_mostAlike_40 ?_
        obtain ⟨h26, v⟩ := v
        refine r_ald B a_237 (by decide) h26 dX11_mostAlike_41 ?_
        refine r_icmp_ne B (tgt := 51) dX11_mostAlike_42 (by decide) ((hI _ _)) ((hI _ _)) (fun h => ?_) (fun h => ?_)
        · have v := v.1 h
          refine r_sub [0, 1, 3] rfl ?_
          exact wJ_M_mostAlike_51 B hr hk ih x1 x3 I hI h1 h3 v
        · have v := v.2 h
          refine r_iload_n B dX11_mostAlike_45 rfl rfl ?_
          refine r_iconst B dX11_mostAlike_46 ?_
          refine r_iadd B dX11_mostAlike_47 ?_
          refine r_goto B (tgt := 52) dX11_mostAlike_48 (by decide) ?_
          obtain ⟨h28, v⟩ := v
          refine r_sub [0, 1, 3] rfl ?_
          exact wJ_M_mostAlike_52 B hr hk ih x1 x3 (x2 + 1) I hI h1 h3 h28 v
set_option maxHeartbeats 4000000 in
set_option maxRecDepth 100000 in
theorem c_M_mostAlike {l : Launch} {E : En} {A : Nat → Prop}  (I : Mm)  (hI : rgM I)  : CI l E A yX11_mostAlike cX11_mostAlike 4 .int 0 0 [.ref (eA E 236)] I (V_M_mostAlike  I) := by
  intro Q v
  refine mk_met (own := RX11) (lv0 := [(0, .ref (eA E 236))]) (by decide) rfl (Nat.le_of_ble_eq_true rfl) rfl (fun p e s m args below meth c0 B hr hk => ?_)
  unfold V_M_mostAlike at v
  refine r_iconst B dX11_mostAlike_0 ?_
  refine r_istore_n B dX11_mostAlike_1 rfl (by decide) (lv' := [(1, .int (i2 0)), (0, .ref (eA E 236))]) rfl ?_
  refine r_sub [1, 0] rfl ?_
  refine r_iconst B dX11_mostAlike_2 ?_
  refine r_istore_n B dX11_mostAlike_3 rfl (by decide) (lv' := [(2, .int (i2 0)), (0, .ref (eA E 236)), (1, .int (i2 0))]) rfl ?_
  refine r_sub [1, 2, 0] rfl ?_
  refine r_iconst B dX11_mostAlike_4 ?_
  refine r_istore_n B dX11_mostAlike_5 rfl (by decide) (lv' := [(3, .int (i2 0)), (0, .ref (eA E 236)), (1, .int (i2 0)), (2, .int (i2 0))]) rfl ?_
  refine r_sub [1, 2, 3, 0] rfl ?_
  obtain ⟨f30, v⟩ := v
  refine r_sub [0, 1, 2, 3] rfl ?_
  exact wL_M_mostAlike_6 B hr hk f30 0 0 0 I hI ((rg_lit (by decide) (by decide))) ((rg_lit (by decide) (by decide))) ((rg_lit (by decide) (by decide))) v
set_option maxHeartbeats 4000000 in
set_option maxRecDepth 100000 in
theorem c_M_gapAt {l : Launch} {E : En} {A : Nat → Prop} (x1 : Int) (I : Mm)  (hI : rgM I) (h1 : r32 x1) : CI l E A yX11_gapAt cX11_gapAt 2 .int 0 0 [.ref (eA E 236), .int (i2 x1)] I (V_M_gapAt x1 I) := by
  intro Q v
  refine mk_met (own := RX11) (lv0 := [(0, .ref (eA E 236)), (1, .int (i2 x1))]) (by decide) rfl (Nat.le_of_ble_eq_true rfl) rfl (fun p e s m args below meth c0 B hr hk => ?_)
  unfold V_M_gapAt at v
  refine r_aload_n B dX11_gapAt_0 rfl rfl ?_
  refine r_getR B (C := RX11) (T := TX11) (N := 25) o_236 0 rfl win_X11 (by decide) rfl wf_X11_7 dX11_gapAt_1 ?_
  refine r_sipush B dX11_gapAt_4 (by decide) ?_
  refine r_iload_n B dX11_gapAt_7 rfl rfl ?_
  refine r_iadd B dX11_gapAt_8 ?_
  refine r_iconst B dX11_gapAt_9 ?_
  refine r_iadd B dX11_gapAt_10 ?_
  obtain ⟨h21, v⟩ := v
  refine r_ald B a_237 (by decide) h21 dX11_gapAt_11 ?_
  refine r_aload_n B dX11_gapAt_12 rfl rfl ?_
  refine r_getR B (C := RX11) (T := TX11) (N := 25) o_236 0 rfl win_X11 (by decide) rfl wf_X11_7 dX11_gapAt_13 ?_
  refine r_sipush B dX11_gapAt_16 (by decide) ?_
  refine r_iload_n B dX11_gapAt_19 rfl rfl ?_
  refine r_iadd B dX11_gapAt_20 ?_
  obtain ⟨h22, v⟩ := v
  refine r_ald B a_237 (by decide) h22 dX11_gapAt_21 ?_
  refine r_isub B dX11_gapAt_22 ?_
  obtain ⟨h23, v⟩ := v
  exact r_iret B hr hk rfl h23 hI v dX11_gapAt_23
set_option maxHeartbeats 4000000 in
set_option maxRecDepth 100000 in
theorem wL_M_greatestGap_4 {p : Program} {l : Launch} {e : Env} {s : State} {m : MethodId} {args : Array Value} {below : List Frame} {meth : Method} {c0 : Code} {E : En} {A : Nat → Prop}  {Q : Int → Mm → Prop}  (B : Bd p (rmm 1 21) s m args c0 cX11_greatestGap 3 RX11 E A 0 0) (hr : meth.sig.returnType = some .int) (hk : meth.locks = false)    : ∀ (n : Nat) (x1 : Int) (x2 : Int) (I : Mm), rgM I → r32 x1 → r32 x2 → L_M_greatestGap_4 Q n x1 x2 I → WI p l e (rmm 1 21) s m args below meth c0 E A 3 0 0 (qI below E A args s Q) I 4 [(0, .ref (eA E 236)), (1, .int (i2 x1)), (2, .int (i2 x2))] [] := by
  intro n
  induction n with
  | zero => intro x1 x2 I _ _ _ v; exact absurd v id
  | succ n ih =>
    intro x1 x2 I hI h1 h2 v
    unfold L_M_greatestGap_4 at v
    refine r_iload_n B dX11_greatestGap_4 rfl rfl ?_
    refine r_iconst B dX11_greatestGap_5 ?_
    refine r_iadd B dX11_greatestGap_6 ?_
    refine r_aload_n B dX11_greatestGap_7 rfl rfl ?_
    refine r_getR B (C := RX11) (T := TX11) (N := 25) o_236 0 rfl win_X11 (by decide) rfl wf_X11_7 dX11_greatestGap_8 ?_
    refine r_iconst B dX11_greatestGap_11 ?_
    refine r_ald B a_237 (by decide) (by decide) dX11_greatestGap_12 ?_
    obtain ⟨h21, v⟩ := v
    refine r_icmp_ge B (tgt := 41) dX11_greatestGap_13 (by decide) h21 ((hI _ _)) (fun h => ?_) (fun h => ?_)
    · have v := v.1 h
      refine r_iload_n B dX11_greatestGap_41 rfl rfl ?_
      exact r_iret B hr hk rfl h1 hI v dX11_greatestGap_42
    · have v := v.2 h
      refine r_aload_n B dX11_greatestGap_16 rfl rfl ?_
      refine r_iload_n B dX11_greatestGap_17 rfl rfl ?_
      refine r_cI B (st := []) (as := [.int (i2 x2)]) (T := TX11) (N := 25) (c_M_gapAt x2 _ hI h2) v o_236 rfl mw_M_gapAt wl_X11_178 ⟨Nat.le_of_ble_eq_true rfl, Nat.le_of_ble_eq_true rfl⟩ rfl rfl (Nat.le_of_ble_eq_true rfl) dX11_greatestGap_18 (fun z22 I23 hz22 hI23 v => ?_)
      refine r_iload_n B dX11_greatestGap_21 rfl rfl ?_
      refine r_icmp_le B (tgt := 33) dX11_greatestGap_22 (by decide) hz22 h1 (fun h => ?_) (fun h => ?_)
      · have v := v.1 h
        refine r_iload_n B dX11_greatestGap_33 rfl rfl ?_
        refine r_istore_n B dX11_greatestGap_34 rfl (by decide) (lv' := [(1, .int (i2 x1)), (0, .ref (eA E 236)), (2, .int (i2 x2))]) rfl ?_
        refine r_sub [1, 0, 2] rfl ?_
        refine r_iinc B (q := 2) dX11_greatestGap_35 (by decide) rfl (lv' := [(2, .int (i2 (x2 + 1))), (0, .ref (eA E 236)), (1, .int (i2 x1))]) rfl ?_
        refine r_sub [1, 2, 0] rfl ?_
        refine r_goto B (tgt := 4) dX11_greatestGap_38 (by decide) ?_
        obtain ⟨h24, v⟩ := v
        refine r_sub [0, 1, 2] rfl ?_
        exact ih x1 (x2 + 1) _ hI23 h1 h24 v
      · have v := v.2 h
        refine r_aload_n B dX11_greatestGap_25 rfl rfl ?_
        refine r_iload_n B dX11_greatestGap_26 rfl rfl ?_
        refine r_cI B (st := []) (as := [.int (i2 x2)]) (T := TX11) (N := 25) (c_M_gapAt x2 _ hI23 h2) v o_236 rfl mw_M_gapAt wl_X11_178 ⟨Nat.le_of_ble_eq_true rfl, Nat.le_of_ble_eq_true rfl⟩ rfl rfl (Nat.le_of_ble_eq_true rfl) dX11_greatestGap_27 (fun z25 I26 hz25 hI26 v => ?_)
        refine r_goto B (tgt := 34) dX11_greatestGap_30 (by decide) ?_
        refine r_istore_n B dX11_greatestGap_34 rfl (by decide) (lv' := [(1, .int (i2 z25)), (0, .ref (eA E 236)), (2, .int (i2 x2))]) rfl ?_
        refine r_sub [1, 0, 2] rfl ?_
        refine r_iinc B (q := 2) dX11_greatestGap_35 (by decide) rfl (lv' := [(2, .int (i2 (x2 + 1))), (0, .ref (eA E 236)), (1, .int (i2 z25))]) rfl ?_
        refine r_sub [1, 2, 0] rfl ?_
        refine r_goto B (tgt := 4) dX11_greatestGap_38 (by decide) ?_
        obtain ⟨h27, v⟩ := v
        refine r_sub [0, 1, 2] rfl ?_
        exact ih z25 (x2 + 1) _ hI26 hz25 h27 v
set_option maxHeartbeats 4000000 in
set_option maxRecDepth 100000 in
theorem c_M_greatestGap {l : Launch} {E : En} {A : Nat → Prop}  (I : Mm)  (hI : rgM I)  : CI l E A yX11_greatestGap cX11_greatestGap 3 .int 1 21 [.ref (eA E 236)] I (V_M_greatestGap  I) := by
  intro Q v
  refine mk_met (own := RX11) (lv0 := [(0, .ref (eA E 236))]) (by decide) rfl (Nat.le_of_ble_eq_true rfl) rfl (fun p e s m args below meth c0 B hr hk => ?_)
  unfold V_M_greatestGap at v
  refine r_iconst B dX11_greatestGap_0 ?_
  refine r_istore_n B dX11_greatestGap_1 rfl (by decide) (lv' := [(1, .int (i2 0)), (0, .ref (eA E 236))]) rfl ?_
  refine r_sub [1, 0] rfl ?_
  refine r_iconst B dX11_greatestGap_2 ?_
  refine r_istore_n B dX11_greatestGap_3 rfl (by decide) (lv' := [(2, .int (i2 0)), (0, .ref (eA E 236)), (1, .int (i2 0))]) rfl ?_
  refine r_sub [1, 2, 0] rfl ?_
  obtain ⟨f28, v⟩ := v
  refine r_sub [0, 1, 2] rfl ?_
  exact wL_M_greatestGap_4 B hr hk f28 0 0 I hI ((rg_lit (by decide) (by decide))) ((rg_lit (by decide) (by decide))) v
