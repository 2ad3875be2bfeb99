set_option maxHeartbeats 4000000 in
set_option maxRecDepth 100000 in
theorem c_M_skew {l : Launch} {E : En} {A : Nat → Prop} (x1 : Int) (I : Mm)  (hI : rgM I) (h1 : r32 x1) : CI l E A yX11_skew cX11_skew 2 .int 3 74 [.ref (eA E 236), .int (i2 x1)] I (V_M_skew x1 I) := by
  intro Q v
  refine mk_met (own := RX11) (lv0 := [(0, .ref (eA E 236)), (1, .int (i2 x1))]) (by decide) rfl (Nat.le_of_ble_eq_true rfl) rfl (fun p e s m args below meth c0 B hr hk => ?_)
  unfold V_M_skew at v
  refine r_iload_n B dX11_skew_0 rfl rfl ?_
  have hsw : x1 = 0 ∨ x1 = 1 ∨ x1 = 2 ∨ x1 = 3 ∨ x1 = 4 ∨ x1 = 5 ∨ (x1 < 0 ∨ 5 < x1) := by omega
  rcases hsw with hcs | hcs | hcs | hcs | hcs | hcs | hcs
  · have v := v.1 hcs
    refine r_tabIn B (tgt := 40) dX11_skew_1 h1 0 hcs (by decide) (by decide) rfl (by decide) ?_
    refine r_aload_n B dX11_skew_40 rfl rfl ?_
    refine r_iconst B dX11_skew_41 ?_
    refine r_cI B (st := []) (as := [.int (i2 0)]) (T := TX11) (N := 25) (c_M_mostIn 0 _ hI ((rg_lit (by decide) (by decide)))) v o_236 rfl mw_M_mostIn wl_X11_181 ⟨Nat.le_of_ble_eq_true rfl, Nat.le_of_ble_eq_true rfl⟩ rfl rfl (Nat.le_of_ble_eq_true rfl) dX11_skew_42 (fun z21 I22 hz21 hI22 v => ?_)
    exact r_iret B hr hk rfl hz21 hI22 v dX11_skew_45
  · have v := v.2.1 hcs
    refine r_tabIn B (tgt := 46) dX11_skew_1 h1 1 hcs (by decide) (by decide) rfl (by decide) ?_
    refine r_aload_n B dX11_skew_46 rfl rfl ?_
    refine r_iconst B dX11_skew_47 ?_
    refine r_cI B (st := []) (as := [.int (i2 1)]) (T := TX11) (N := 25) (c_M_mostIn 1 _ hI ((rg_lit (by decide) (by decide)))) v o_236 rfl mw_M_mostIn wl_X11_181 ⟨Nat.le_of_ble_eq_true rfl, Nat.le_of_ble_eq_true rfl⟩ rfl rfl (Nat.le_of_ble_eq_true rfl) dX11_skew_48 (fun z23 I24 hz23 hI24 v => ?_)
    exact r_iret B hr hk rfl hz23 hI24 v dX11_skew_51
  · have v := v.2.2.1 hcs
    refine r_tabIn B (tgt := 52) dX11_skew_1 h1 2 hcs (by decide) (by decide) rfl (by decide) ?_
    refine r_aload_n B dX11_skew_52 rfl rfl ?_
    refine r_cI B (st := []) (as := []) (T := TX11) (N := 25) (c_M_bare _ hI ) v o_236 rfl mw_M_bare wl_X11_185 ⟨Nat.le_of_ble_eq_true rfl, Nat.le_of_ble_eq_true rfl⟩ rfl rfl (Nat.le_of_ble_eq_true rfl) dX11_skew_53 (fun z25 I26 hz25 hI26 v => ?_)
    exact r_iret B hr hk rfl hz25 hI26 v dX11_skew_56
  · have v := v.2.2.2.1 hcs
    refine r_tabIn B (tgt := 57) dX11_skew_1 h1 3 hcs (by decide) (by decide) rfl (by decide) ?_
    refine r_aload_n B dX11_skew_57 rfl rfl ?_
    refine r_cI B (st := []) (as := []) (T := TX11) (N := 25) (c_M_mostAlike _ hI ) v o_236 rfl mw_M_mostAlike wl_X11_188 ⟨Nat.le_of_ble_eq_true rfl, Nat.le_of_ble_eq_true rfl⟩ rfl rfl (Nat.le_of_ble_eq_true rfl) dX11_skew_58 (fun z27 I28 hz27 hI28 v => ?_)
    exact r_iret B hr hk rfl hz27 hI28 v dX11_skew_61
  · have v := v.2.2.2.2.1 hcs
    refine r_tabIn B (tgt := 62) dX11_skew_1 h1 4 hcs (by decide) (by decide) rfl (by decide) ?_
    refine r_aload_n B dX11_skew_62 rfl rfl ?_
    refine r_getR B (C := RX11) (T := TX11) (N := 25) o_236 0 rfl win_X11 (by decide) rfl wf_X11_7 dX11_skew_63 ?_
    refine r_iconst B dX11_skew_66 ?_
    refine r_ald B a_237 (by decide) (by decide) dX11_skew_67 ?_
    refine r_iconst B dX11_skew_68 ?_
    refine r_icmp_ge B (tgt := 76) dX11_skew_69 (by decide) ((hI _ _)) ((rg_lit (by decide) (by decide))) (fun h => ?_) (fun h => ?_)
    · have v := v.1 h
      refine r_aload_n B dX11_skew_76 rfl rfl ?_
      refine r_getR B (C := RX11) (T := TX11) (N := 25) o_236 0 rfl win_X11 (by decide) rfl wf_X11_7 dX11_skew_77 ?_
      refine r_sipush B dX11_skew_80 (by decide) ?_
      refine r_aload_n B dX11_skew_83 rfl rfl ?_
      refine r_getR B (C := RX11) (T := TX11) (N := 25) o_236 0 rfl win_X11 (by decide) rfl wf_X11_7 dX11_skew_84 ?_
      refine r_iconst B dX11_skew_87 ?_
      refine r_ald B a_237 (by decide) (by decide) dX11_skew_88 ?_
      refine r_iadd B dX11_skew_89 ?_
      refine r_iconst B dX11_skew_90 ?_
      refine r_isub B dX11_skew_91 ?_
      obtain ⟨h29, v⟩ := v
      refine r_ald B a_237 (by decide) h29 dX11_skew_92 ?_
      refine r_aload_n B dX11_skew_93 rfl rfl ?_
      refine r_getR B (C := RX11) (T := TX11) (N := 25) o_236 0 rfl win_X11 (by decide) rfl wf_X11_7 dX11_skew_94 ?_
      refine r_sipush B dX11_skew_97 (by decide) ?_
      refine r_ald B a_237 (by decide) (by decide) dX11_skew_100 ?_
      refine r_isub B dX11_skew_101 ?_
      refine r_aload_n B dX11_skew_102 rfl rfl ?_
      refine r_getR B (C := RX11) (T := TX11) (N := 25) o_236 0 rfl win_X11 (by decide) rfl wf_X11_7 dX11_skew_103 ?_
      refine r_iconst B dX11_skew_106 ?_
      refine r_ald B a_237 (by decide) (by decide) dX11_skew_107 ?_
      refine r_iconst B dX11_skew_108 ?_
      refine r_isub B dX11_skew_109 ?_
      obtain ⟨h30, v⟩ := v
      obtain ⟨h31, v⟩ := v
      obtain ⟨h32, v⟩ := v
      refine r_idiv B dX11_skew_110 h30 h31 h32 ?_
      exact r_iret B hr hk rfl ((rg_div h30 h32.1 h32.2)) hI v dX11_skew_111
    · have v := v.2 h
      refine r_iconst B dX11_skew_72 ?_
      refine r_goto B (tgt := 111) dX11_skew_73 (by decide) ?_
      exact r_iret B hr hk rfl ((rg_lit (by decide) (by decide))) hI v dX11_skew_111
  · have v := v.2.2.2.2.2.1 hcs
    refine r_tabIn B (tgt := 112) dX11_skew_1 h1 5 hcs (by decide) (by decide) rfl (by decide) ?_
    refine r_aload_n B dX11_skew_112 rfl rfl ?_
    refine r_cI B (st := []) (as := []) (T := TX11) (N := 25) (c_M_greatestGap _ hI ) v o_236 rfl mw_M_greatestGap wl_X11_191 ⟨Nat.le_of_ble_eq_true rfl, Nat.le_of_ble_eq_true rfl⟩ rfl rfl (Nat.le_of_ble_eq_true rfl) dX11_skew_113 (fun z33 I34 hz33 hI34 v => ?_)
    exact r_iret B hr hk rfl hz33 hI34 v dX11_skew_116
  · have v := v.2.2.2.2.2.2 hcs
    refine r_tabOut B (tgt := 117) dX11_skew_1 h1 hcs (by decide) ?_
    refine r_iconst B dX11_skew_117 ?_
    exact r_iret B hr hk rfl ((rg_lit (by decide) (by decide))) hI v dX11_skew_118
set_option maxHeartbeats 4000000 in
set_option maxRecDepth 100000 in
theorem c_M_looks {l : Launch} {E : En} {A : Nat → Prop}  (I : Mm)  (hI : rgM I)  : CI l E A yX11_looks cX11_looks 1 .int 2 44 [.ref (eA E 236)] I (V_M_looks  I) := by
  intro Q v
  refine mk_met (own := RX11) (lv0 := [(0, .ref (eA E 236))]) (by decide) rfl (Nat.le_of_ble_eq_true rfl) rfl (fun p e s m args below meth c0 B hr hk => ?_)
  unfold V_M_looks at v
  refine r_aload_n B dX11_looks_0 rfl rfl ?_
  refine r_getR B (C := RX11) (T := TX11) (N := 25) o_236 0 rfl win_X11 (by decide) rfl wf_X11_7 dX11_looks_1 ?_
  refine r_iconst B dX11_looks_4 ?_
  refine r_ald B a_237 (by decide) (by decide) dX11_looks_5 ?_
  refine r_if_ne B (tgt := 14) dX11_looks_6 (by decide) ((hI _ _)) (fun h => ?_) (fun h => ?_)
  · have v := v.1 h
    refine r_aload_n B dX11_looks_14 rfl rfl ?_
    refine r_cI B (st := []) (as := []) (T := TX11) (N := 25) (c_M_looksNow _ hI ) v o_236 rfl mw_M_looksNow wl_X11_87 ⟨Nat.le_of_ble_eq_true rfl, Nat.le_of_ble_eq_true rfl⟩ rfl rfl (Nat.le_of_ble_eq_true rfl) dX11_looks_15 (fun z21 I22 hz21 hI22 v => ?_)
    exact r_iret B hr hk rfl hz21 hI22 v dX11_looks_18
  · have v := v.2 h
    refine r_bipush B dX11_looks_9 (by decide) ?_
    refine r_goto B (tgt := 18) dX11_looks_11 (by decide) ?_
    exact r_iret B hr hk rfl ((rg_lit (by decide) (by decide))) hI v dX11_looks_18
set_option maxHeartbeats 4000000 in
set_option maxRecDepth 100000 in
theorem wL_M_looksBy_13 {p : Program} {l : Launch} {e : Env} {s : State} {m : MethodId} {args : Array Value} {below : List Frame} {meth : Method} {c0 : Code} {E : En} {A : Nat → Prop} {x1 : Int} {x2 : Int} {Q : Int → Mm → Prop}  (B : Bd p (rmm 1 24) s m args c0 cX11_looksBy 6 RX11 E A 0 0) (hr : meth.sig.returnType = some .int) (hk : meth.locks = false) (h1 : r32 x1) (h2 : r32 x2)   : ∀ (n : Nat) (x3 : Int) (x4 : Int) (x5 : Int) (I : Mm), rgM I → r32 x3 → r32 x4 → r32 x5 → L_M_looksBy_13 x1 x2 Q n x3 x4 x5 I → WI p l e (rmm 1 24) s m args below meth c0 E A 6 0 0 (qI below E A args s Q) I 13 [(0, .ref (eA E 236)), (1, .int (i2 x1)), (2, .int (i2 x2)), (3, .int (i2 x3)), (4, .int (i2 x4)), (5, .int (i2 x5))] [] := by
  intro n
  induction n with
  | zero => intro x3 x4 x5 I _ _ _ _ v; exact absurd v id
  | succ n ih =>
    intro x3 x4 x5 I hI h3 h4 h5 v
    unfold L_M_looksBy_13 at v
    refine r_iload B dX11_looksBy_13 rfl ?_
    refine r_aload_n B dX11_looksBy_15 rfl rfl ?_
    refine r_getR B (C := RX11) (T := TX11) (N := 25) o_236 0 rfl win_X11 (by decide) rfl wf_X11_7 dX11_looksBy_16 ?_
    refine r_iconst B dX11_looksBy_19 ?_
    refine r_ald B a_237 (by decide) (by decide) dX11_looksBy_20 ?_
    refine r_icmp_ge B (tgt := 64) dX11_looksBy_21 (by decide) h5 ((hI _ _)) (fun h => ?_) (fun h => ?_)
    · have v := v.1 h
      refine r_iload B dX11_looksBy_64 rfl ?_
      exact r_iret B hr hk rfl h4 hI v dX11_looksBy_66
    · have v := v.2 h
      refine r_iload B dX11_looksBy_24 rfl ?_
      refine r_iload_n B dX11_looksBy_26 rfl rfl ?_
      refine r_aload_n B dX11_looksBy_27 rfl rfl ?_
      refine r_getR B (C := RX11) (T := TX11) (N := 25) o_236 0 rfl win_X11 (by decide) rfl wf_X11_7 dX11_looksBy_28 ?_
      refine r_sipush B dX11_looksBy_31 (by decide) ?_
      refine r_iload B dX11_looksBy_34 rfl ?_
      refine r_iadd B dX11_looksBy_36 ?_
      obtain ⟨h21, v⟩ := v
      refine r_ald B a_237 (by decide) h21 dX11_looksBy_37 ?_
      refine r_iload_n B dX11_looksBy_38 rfl rfl ?_
      refine r_iload_n B dX11_looksBy_39 rfl rfl ?_
      refine r_sI B (st := [.int (i2 x4)]) (as := [.int (i2 x3), .int (i2 (I 237 (780 + x5))), .int (i2 x1), .int (i2 x2)]) (c_M_looksTo x3 (I 237 (780 + x5)) x1 x2 _ hI h3 ((hI _ _)) h1 h2) v mw_M_looksTo wl_X11_83 ⟨Nat.le_of_ble_eq_true rfl, Nat.le_of_ble_eq_true rfl⟩ rfl rfl (Nat.le_of_ble_eq_true rfl) dX11_looksBy_40 (fun z22 I23 hz22 hI23 v => ?_)
      refine r_iadd B dX11_looksBy_43 ?_
      refine r_istore B dX11_looksBy_44 (by decide) (lv' := [(4, .int (i2 (x4 + z22))), (0, .ref (eA E 236)), (1, .int (i2 x1)), (2, .int (i2 x2)), (3, .int (i2 x3)), (5, .int (i2 x5))]) rfl ?_
      refine r_sub [1, 2, 3, 4, 0, 5] rfl ?_
      refine r_aload_n B dX11_looksBy_46 rfl rfl ?_
      refine r_getR B (C := RX11) (T := TX11) (N := 25) o_236 0 rfl win_X11 (by decide) rfl wf_X11_7 dX11_looksBy_47 ?_
      refine r_sipush B dX11_looksBy_50 (by decide) ?_
      refine r_iload B dX11_looksBy_53 rfl ?_
      refine r_iadd B dX11_looksBy_55 ?_
      obtain ⟨h24, v⟩ := v
      refine r_ald B a_237 (by decide) h24 dX11_looksBy_56 ?_
      refine r_istore_n B dX11_looksBy_57 rfl (by decide) (lv' := [(3, .int (i2 (I23 237 (780 + x5)))), (0, .ref (eA E 236)), (1, .int (i2 x1)), (2, .int (i2 x2)), (4, .int (i2 (x4 + z22))), (5, .int (i2 x5))]) rfl ?_
      refine r_sub [1, 2, 3, 0, 4, 5] rfl ?_
      refine r_iinc B (q := 5) dX11_looksBy_58 (by decide) rfl (lv' := [(5, .int (i2 (x5 + 1))), (0, .ref (eA E 236)), (1, .int (i2 x1)), (2, .int (i2 x2)), (3, .int (i2 (I23 237 (780 + x5)))), (4, .int (i2 (x4 + z22)))]) rfl ?_
      refine r_sub [1, 2, 3, 4, 5, 0] rfl ?_
      refine r_goto B (tgt := 13) dX11_looksBy_61 (by decide) ?_
      obtain ⟨h25, v⟩ := v
      obtain ⟨h26, v⟩ := v
      refine r_sub [0, 1, 2, 3, 4, 5] rfl ?_
      exact ih (I23 237 (780 + x5)) (x4 + z22) (x5 + 1) _ hI23 ((hI23 _ _)) h25 h26 v
set_option maxHeartbeats 4000000 in
set_option maxRecDepth 100000 in
theorem c_M_looksBy {l : Launch} {E : En} {A : Nat → Prop} (x1 : Int) (x2 : Int) (I : Mm)  (hI : rgM I) (h1 : r32 x1) (h2 : r32 x2) : CI l E A yX11_looksBy cX11_looksBy 6 .int 1 24 [.ref (eA E 236), .int (i2 x1), .int (i2 x2)] I (V_M_looksBy x1 x2 I) := by
  intro Q v
  refine mk_met (own := RX11) (lv0 := [(0, .ref (eA E 236)), (1, .int (i2 x1)), (2, .int (i2 x2))]) (by decide) rfl (Nat.le_of_ble_eq_true rfl) rfl (fun p e s m args below meth c0 B hr hk => ?_)
  unfold V_M_looksBy at v
  refine r_aload_n B dX11_looksBy_0 rfl rfl ?_
  refine r_getR B (C := RX11) (T := TX11) (N := 25) o_236 0 rfl win_X11 (by decide) rfl wf_X11_7 dX11_looksBy_1 ?_
  refine r_iconst B dX11_looksBy_4 ?_
  refine r_ald B a_237 (by decide) (by decide) dX11_looksBy_5 ?_
  refine r_istore_n B dX11_looksBy_6 rfl (by decide) (lv' := [(3, .int (i2 (I 237 3))), (0, .ref (eA E 236)), (1, .int (i2 x1)), (2, .int (i2 x2))]) rfl ?_
  refine r_sub [1, 2, 3, 0] rfl ?_
  refine r_iconst B dX11_looksBy_7 ?_
  refine r_istore B dX11_looksBy_8 (by decide) (lv' := [(4, .int (i2 0)), (0, .ref (eA E 236)), (1, .int (i2 x1)), (2, .int (i2 x2)), (3, .int (i2 (I 237 3)))]) rfl ?_
  refine r_sub [1, 2, 3, 4, 0] rfl ?_
  refine r_iconst B dX11_looksBy_10 ?_
  refine r_istore B dX11_looksBy_11 (by decide) (lv' := [(5, .int (i2 0)), (0, .ref (eA E 236)), (1, .int (i2 x1)), (2, .int (i2 x2)), (3, .int (i2 (I 237 3))), (4, .int (i2 0))]) rfl ?_
  refine r_sub [1, 2, 3, 4, 5, 0] rfl ?_
  obtain ⟨f27, v⟩ := v
  refine r_sub [0, 1, 2, 3, 4, 5] rfl ?_
  exact wL_M_looksBy_13 B hr hk h1 h2 f27 (I 237 3) 0 0 I hI ((hI _ _)) ((rg_lit (by decide) (by decide))) ((rg_lit (by decide) (by decide))) v
set_option maxHeartbeats 4000000 in
set_option maxRecDepth 100000 in
theorem c_M_lookBy {l : Launch} {E : En} {A : Nat → Prop} (x1 : Int) (x2 : Int) (I : Mm)  (hI : rgM I) (h1 : r32 x1) (h2 : r32 x2) : CI l E A yX11_lookBy cX11_lookBy 3 .int 2 49 [.ref (eA E 236), .int (i2 x1), .int (i2 x2)] I (V_M_lookBy x1 x2 I) := by
  intro Q v
  refine mk_met (own := RX11) (lv0 := [(0, .ref (eA E 236)), (1, .int (i2 x1)), (2, .int (i2 x2))]) (by decide) rfl (Nat.le_of_ble_eq_true rfl) rfl (fun p e s m args below meth c0 B hr hk => ?_)
  unfold V_M_lookBy at v
  refine r_iload_n B dX11_lookBy_0 rfl rfl ?_
  refine r_sI B (st := []) (as := [.int (i2 x1)]) (c_M_areRows x1 _ hI h1) v mw_M_areRows wl_X11_149 ⟨Nat.le_of_ble_eq_true rfl, Nat.le_of_ble_eq_true rfl⟩ rfl rfl (Nat.le_of_ble_eq_true rfl) dX11_lookBy_1 (fun z21 I22 hz21 hI22 v => ?_)
  refine r_if_eq B (tgt := 28) dX11_lookBy_4 (by decide) hz21 (fun h => ?_) (fun h => ?_)
  · have v := v.1 h
    refine r_iconst B dX11_lookBy_28 ?_
    exact r_iret B hr hk rfl ((rg_lit (by decide) (by decide))) hI22 v dX11_lookBy_29
  · have v := v.2 h
    refine r_iload_n B dX11_lookBy_7 rfl rfl ?_
    refine r_i2l B dX11_lookBy_8 h2 ?_
    refine r_lconst B 1 dX11_lookBy_9 (by decide) ?_
    refine r_ldc2 B (99999999) dX11_lookBy_10 wc_X11_63 (by decide) ?_
    refine r_sI B (st := []) (as := [.long (l2 x2), .long (l2 1), .long (l2 99999999)]) (c_M_in x2 1 99999999 _ hI22 ((rg_64 h2)) ((show r64 (1) by exact ⟨by decide, by decide⟩)) ((show r64 (99999999) by exact ⟨by decide, by decide⟩))) v mw_M_in wl_X11_55 ⟨Nat.le_of_ble_eq_true rfl, Nat.le_of_ble_eq_true rfl⟩ rfl rfl (Nat.le_of_ble_eq_true rfl) dX11_lookBy_13 (fun z23 I24 hz23 hI24 v => ?_)
    refine r_if_eq B (tgt := 28) dX11_lookBy_16 (by decide) hz23 (fun h => ?_) (fun h => ?_)
    · have v := v.1 h
      refine r_iconst B dX11_lookBy_28 ?_
      exact r_iret B hr hk rfl ((rg_lit (by decide) (by decide))) hI24 v dX11_lookBy_29
    · have v := v.2 h
      refine r_aload_n B dX11_lookBy_19 rfl rfl ?_
      refine r_iload_n B dX11_lookBy_20 rfl rfl ?_
      refine r_iload_n B dX11_lookBy_21 rfl rfl ?_
      refine r_cI B (st := []) (as := [.int (i2 x1), .int (i2 x2)]) (T := TX11) (N := 25) (c_M_looksBy x1 x2 _ hI24 h1 h2) v o_236 rfl mw_M_looksBy wl_X11_194 ⟨Nat.le_of_ble_eq_true rfl, Nat.le_of_ble_eq_true rfl⟩ rfl rfl (Nat.le_of_ble_eq_true rfl) dX11_lookBy_22 (fun z25 I26 hz25 hI26 v => ?_)
      refine r_goto B (tgt := 29) dX11_lookBy_25 (by decide) ?_
      exact r_iret B hr hk rfl hz25 hI26 v dX11_lookBy_29
set_option maxHeartbeats 4000000 in
set_option maxRecDepth 100000 in
theorem wL_M_best_24 {p : Program} {l : Launch} {e : Env} {s : State} {m : MethodId} {args : Array Value} {below : List Frame} {meth : Method} {c0 : Code} {E : En} {A : Nat → Prop} {x1 : Int} {x2 : Int} {Q : Int → Mm → Prop}  (B : Bd p (rmm 2 49) s m args c0 cX11_best 5 RX11 E A 0 0) (hr : meth.sig.returnType = some .int) (hk : meth.locks = false) (h1 : r32 x1) (h2 : r32 x2)   : ∀ (n : Nat) (x3 : Int) (x4 : Int) (I : Mm), rgM I → r32 x3 → r32 x4 → L_M_best_24 x1 x2 Q n x3 x4 I → WI p l e (rmm 2 49) s m args below meth c0 E A 5 0 0 (qI below E A args s Q) I 24 [(0, .ref (eA E 236)), (1, .int (i2 x1)), (2, .int (i2 x2)), (3, .int (i2 x3)), (4, .int (i2 x4))] [] := by
  intro n
  induction n with
  | zero => intro x3 x4 I _ _ _ v; exact absurd v id
  | succ n ih =>
    intro x3 x4 I hI h3 h4 v
    unfold L_M_best_24 at v
    refine r_iload B dX11_best_24 rfl ?_
    refine r_bipush B dX11_best_26 (by decide) ?_
    refine r_icmp_ge B (tgt := 60) dX11_best_28 (by decide) h4 ((rg_lit (by decide) (by decide))) (fun h => ?_) (fun h => ?_)
    · have v := v.1 h
      refine r_iload_n B dX11_best_60 rfl rfl ?_
      refine r_if_ne B (tgt := 68) dX11_best_61 (by decide) h2 (fun h => ?_) (fun h => ?_)
      · have v := v.1 h
        refine r_aload_n B dX11_best_68 rfl rfl ?_
        refine r_iload_n B dX11_best_69 rfl rfl ?_
        refine r_iload_n B dX11_best_70 rfl rfl ?_
        refine r_cI B (st := []) (as := [.int (i2 x1), .int (i2 x3)]) (T := TX11) (N := 25) (c_M_looksBy x1 x3 _ hI h1 h3) v o_236 rfl mw_M_looksBy wl_X11_194 ⟨Nat.le_of_ble_eq_true rfl, Nat.le_of_ble_eq_true rfl⟩ rfl rfl (Nat.le_of_ble_eq_true rfl) dX11_best_71 (fun z25 I26 hz25 hI26 v => ?_)
        exact r_iret B hr hk rfl hz25 hI26 v dX11_best_74
      · have v := v.2 h
        refine r_iload_n B dX11_best_64 rfl rfl ?_
        refine r_goto B (tgt := 74) dX11_best_65 (by decide) ?_
        exact r_iret B hr hk rfl h3 hI v dX11_best_74
    · have v := v.2 h
      refine r_aload_n B dX11_best_31 rfl rfl ?_
      refine r_iload_n B dX11_best_32 rfl rfl ?_
      refine r_iconst B dX11_best_33 ?_
      refine r_iload B dX11_best_34 rfl ?_
      refine r_ishl B dX11_best_36 ?_
      refine r_cI B (st := []) (as := [.int (i2 x1), .int (i2 (bShl 1 x4))]) (T := TX11) (N := 25) (c_M_looksBy x1 (bShl 1 x4) _ hI h1 ((rg_shl _ _))) v o_236 rfl mw_M_looksBy wl_X11_194 ⟨Nat.le_of_ble_eq_true rfl, Nat.le_of_ble_eq_true rfl⟩ rfl rfl (Nat.le_of_ble_eq_true rfl) dX11_best_37 (fun z27 I28 hz27 hI28 v => ?_)
      refine r_aload_n B dX11_best_40 rfl rfl ?_
      refine r_iload_n B dX11_best_41 rfl rfl ?_
      refine r_iload_n B dX11_best_42 rfl rfl ?_
      refine r_cI B (st := [.int (i2 z27)]) (as := [.int (i2 x1), .int (i2 x3)]) (T := TX11) (N := 25) (c_M_looksBy x1 x3 _ hI28 h1 h3) v o_236 rfl mw_M_looksBy wl_X11_194 ⟨Nat.le_of_ble_eq_true rfl, Nat.le_of_ble_eq_true rfl⟩ rfl rfl (Nat.le_of_ble_eq_true rfl) dX11_best_43 (fun z29 I30 hz29 hI30 v => ?_)
      refine r_icmp_ge B (tgt := 54) dX11_best_46 (by decide) hz27 hz29 (fun h => ?_) (fun h => ?_)
      · have v := v.1 h
        refine r_iinc B (q := 4) dX11_best_54 (by decide) rfl (lv' := [(4, .int (i2 (x4 + 1))), (0, .ref (eA E 236)), (1, .int (i2 x1)), (2, .int (i2 x2)), (3, .int (i2 x3))]) rfl ?_
        refine r_sub [1, 2, 3, 4, 0] rfl ?_
        refine r_goto B (tgt := 24) dX11_best_57 (by decide) ?_
        obtain ⟨h31, v⟩ := v
        refine r_sub [0, 1, 2, 3, 4] rfl ?_
        exact ih x3 (x4 + 1) _ hI30 h3 h31 v
      · have v := v.2 h
        refine r_iconst B dX11_best_49 ?_
        refine r_iload B dX11_best_50 rfl ?_
        refine r_ishl B dX11_best_52 ?_
        refine r_istore_n B dX11_best_53 rfl (by decide) (lv' := [(3, .int (i2 (bShl 1 x4))), (0, .ref (eA E 236)), (1, .int (i2 x1)), (2, .int (i2 x2)), (4, .int (i2 x4))]) rfl ?_
        refine r_sub [1, 2, 3, 0, 4] rfl ?_
        refine r_iinc B (q := 4) dX11_best_54 (by decide) rfl (lv' := [(4, .int (i2 (x4 + 1))), (0, .ref (eA E 236)), (1, .int (i2 x1)), (2, .int (i2 x2)), (3, .int (i2 (bShl 1 x4)))]) rfl ?_
        refine r_sub [1, 2, 3, 4, 0] rfl ?_
        refine r_goto B (tgt := 24) dX11_best_57 (by decide) ?_
        obtain ⟨h32, v⟩ := v
        refine r_sub [0, 1, 2, 3, 4] rfl ?_
        exact ih (bShl 1 x4) (x4 + 1) _ hI30 ((rg_shl _ _)) h32 v
set_option maxHeartbeats 4000000 in
set_option maxRecDepth 100000 in
theorem c_M_best {l : Launch} {E : En} {A : Nat → Prop} (x1 : Int) (x2 : Int) (I : Mm)  (hI : rgM I) (h1 : r32 x1) (h2 : r32 x2) : CI l E A yX11_best cX11_best 5 .int 2 49 [.ref (eA E 236), .int (i2 x1), .int (i2 x2)] I (V_M_best x1 x2 I) := by
  intro Q v
  refine mk_met (own := RX11) (lv0 := [(0, .ref (eA E 236)), (1, .int (i2 x1)), (2, .int (i2 x2))]) (by decide) rfl (Nat.le_of_ble_eq_true rfl) rfl (fun p e s m args below meth c0 B hr hk => ?_)
  unfold V_M_best at v
  refine r_iload_n B dX11_best_0 rfl rfl ?_
  refine r_sI B (st := []) (as := [.int (i2 x1)]) (c_M_areRows x1 _ hI h1) v mw_M_areRows wl_X11_149 ⟨Nat.le_of_ble_eq_true rfl, Nat.le_of_ble_eq_true rfl⟩ rfl rfl (Nat.le_of_ble_eq_true rfl) dX11_best_1 (fun z21 I22 hz21 hI22 v => ?_)
  refine r_if_eq B (tgt := 17) dX11_best_4 (by decide) hz21 (fun h => ?_) (fun h => ?_)
  · have v := v.1 h
    refine r_iconst B dX11_best_17 ?_
    exact r_iret B hr hk rfl ((rg_lit (by decide) (by decide))) hI22 v dX11_best_18
  · have v := v.2 h
    refine r_iload_n B dX11_best_7 rfl rfl ?_
    refine r_i2l B dX11_best_8 h2 ?_
    refine r_lconst B 0 dX11_best_9 (by decide) ?_
    refine r_lconst B 1 dX11_best_10 (by decide) ?_
    refine r_sI B (st := []) (as := [.long (l2 x2), .long (l2 0), .long (l2 1)]) (c_M_in x2 0 1 _ hI22 ((rg_64 h2)) ((show r64 (0) by exact ⟨by decide, by decide⟩)) ((show r64 (1) by exact ⟨by decide, by decide⟩))) v mw_M_in wl_X11_55 ⟨Nat.le_of_ble_eq_true rfl, Nat.le_of_ble_eq_true rfl⟩ rfl rfl (Nat.le_of_ble_eq_true rfl) dX11_best_11 (fun z23 I24 hz23 hI24 v => ?_)
    refine r_if_ne B (tgt := 19) dX11_best_14 (by decide) hz23 (fun h => ?_) (fun h => ?_)
    · have v := v.1 h
      refine r_iconst B dX11_best_19 ?_
      refine r_istore_n B dX11_best_20 rfl (by decide) (lv' := [(3, .int (i2 1)), (0, .ref (eA E 236)), (1, .int (i2 x1)), (2, .int (i2 x2))]) rfl ?_
      refine r_sub [1, 2, 3, 0] rfl ?_
      refine r_iconst B dX11_best_21 ?_
      refine r_istore B dX11_best_22 (by decide) (lv' := [(4, .int (i2 1)), (0, .ref (eA E 236)), (1, .int (i2 x1)), (2, .int (i2 x2)), (3, .int (i2 1))]) rfl ?_
      refine r_sub [1, 2, 3, 4, 0] rfl ?_
      obtain ⟨f33, v⟩ := v
      refine r_sub [0, 1, 2, 3, 4] rfl ?_
      exact wL_M_best_24 B hr hk h1 h2 f33 1 1 I24 hI24 ((rg_lit (by decide) (by decide))) ((rg_lit (by decide) (by decide))) v
    · have v := v.2 h
      refine r_iconst B dX11_best_17 ?_
      exact r_iret B hr hk rfl ((rg_lit (by decide) (by decide))) hI24 v dX11_best_18
set_option maxHeartbeats 4000000 in
set_option maxRecDepth 100000 in
theorem c_M_widthNow {l : Launch} {E : En} {A : Nat → Prop}  (I : Mm)  (hI : rgM I)  : CI l E A yX11_widthNow cX11_widthNow 1 .int 1 27 [.ref (eA E 236)] I (V_M_widthNow  I) := by
  intro Q v
  refine mk_met (own := RX11) (lv0 := [(0, .ref (eA E 236))]) (by decide) rfl (Nat.le_of_ble_eq_true rfl) rfl (fun p e s m args below meth c0 B hr hk => ?_)
  unfold V_M_widthNow at v
  refine r_aload_n B dX11_widthNow_0 rfl rfl ?_
  refine r_cI B (st := []) (as := []) (T := TX11) (N := 25) (c_M_widthAnew _ hI ) v o_236 rfl mw_M_widthAnew wl_X11_65 ⟨Nat.le_of_ble_eq_true rfl, Nat.le_of_ble_eq_true rfl⟩ rfl rfl (Nat.le_of_ble_eq_true rfl) dX11_widthNow_1 (fun z21 I22 hz21 hI22 v => ?_)
  exact r_iret B hr hk rfl hz21 hI22 v dX11_widthNow_4
set_option maxHeartbeats 4000000 in
set_option maxRecDepth 100000 in
theorem wL_M_keepsAside_2 {p : Program} {l : Launch} {e : Env} {s : State} {m : MethodId} {args : Array Value} {below : List Frame} {meth : Method} {c0 : Code} {E : En} {A : Nat → Prop}  {Q : Mm → Prop}  (B : Bd p (rmm 0 0) s m args c0 cX11_keepsAside 2 RX11 E A 0 0) (hr : meth.sig.returnType = none) (hk : meth.locks = false)    : ∀ (n : Nat) (x1 : Int) (I : Mm), rgM I → r32 x1 → L_M_keepsAside_2 Q n x1 I → WI p l e (rmm 0 0) s m args below meth c0 E A 2 0 0 (qV below E A args s Q) I 2 [(0, .ref (eA E 236)), (1, .int (i2 x1))] [] := by
  intro n
  induction n with
  | zero => intro x1 I _ _ v; exact absurd v id
  | succ n ih =>
    intro x1 I hI h1 v
    unfold L_M_keepsAside_2 at v
    refine r_iload_n B dX11_keepsAside_2 rfl rfl ?_
    refine r_sipush B dX11_keepsAside_3 (by decide) ?_
    refine r_icmp_ge B (tgt := 27) dX11_keepsAside_6 (by decide) h1 ((rg_lit (by decide) (by decide))) (fun h => ?_) (fun h => ?_)
    · have v := v.1 h
      exact r_vret B hr hk hI v dX11_keepsAside_27
    · have v := v.2 h
      refine r_aload_n B dX11_keepsAside_9 rfl rfl ?_
      refine r_getR B (C := RX11) (T := TX11) (N := 25) o_236 1 rfl win_X11 (by decide) rfl wf_X11_13 dX11_keepsAside_10 ?_
      refine r_iload_n B dX11_keepsAside_13 rfl rfl ?_
      refine r_aload_n B dX11_keepsAside_14 rfl rfl ?_
      refine r_getR B (C := RX11) (T := TX11) (N := 25) o_236 0 rfl win_X11 (by decide) rfl wf_X11_7 dX11_keepsAside_15 ?_
      refine r_iload_n B dX11_keepsAside_18 rfl rfl ?_
      obtain ⟨h21, v⟩ := v
      refine r_ald B a_237 (by decide) h21 dX11_keepsAside_19 ?_
      obtain ⟨h22, v⟩ := v
      refine r_ast B a_238 (by decide) h22 dX11_keepsAside_20 ?_
      have hI23 : rgM (wrM I 238 x1 (I 237 x1)) := rg_wr hI ((hI _ _))
      refine r_iinc B (q := 1) dX11_keepsAside_21 (by decide) rfl (lv' := [(1, .int (i2 (x1 + 1))), (0, .ref (eA E 236))]) rfl ?_
      refine r_sub [1, 0] rfl ?_
      refine r_goto B (tgt := 2) dX11_keepsAside_24 (by decide) ?_
      obtain ⟨h24, v⟩ := v
      refine r_sub [0, 1] rfl ?_
      exact ih (x1 + 1) _ hI23 h24 v
set_option maxHeartbeats 4000000 in
set_option maxRecDepth 100000 in
theorem c_M_keepsAside {l : Launch} {E : En} {A : Nat → Prop}  (I : Mm)  (hI : rgM I)  : CV l E A yX11_keepsAside cX11_keepsAside 2 0 0 [.ref (eA E 236)] I (V_M_keepsAside  I) := by
  intro Q v
  refine mk_met (own := RX11) (lv0 := [(0, .ref (eA E 236))]) (by decide) rfl (Nat.le_of_ble_eq_true rfl) rfl (fun p e s m args below meth c0 B hr hk => ?_)
  unfold V_M_keepsAside at v
  refine r_iconst B dX11_keepsAside_0 ?_
  refine r_istore_n B dX11_keepsAside_1 rfl (by decide) (lv' := [(1, .int (i2 0)), (0, .ref (eA E 236))]) rfl ?_
  refine r_sub [1, 0] rfl ?_
  obtain ⟨f25, v⟩ := v
  refine r_sub [0, 1] rfl ?_
  exact wL_M_keepsAside_2 B hr hk f25 0 I hI ((rg_lit (by decide) (by decide))) v
set_option maxHeartbeats 4000000 in
set_option maxRecDepth 100000 in
theorem wL_M_isAgain_2 {p : Program} {l : Launch} {e : Env} {s : State} {m : MethodId} {args : Array Value} {below : List Frame} {meth : Method} {c0 : Code} {E : En} {A : Nat → Prop}  {Q : Mm → Prop}  (B : Bd p (rmm 0 0) s m args c0 cX11_isAgain 2 RX11 E A 0 0) (hr : meth.sig.returnType = none) (hk : meth.locks = false)    : ∀ (n : Nat) (x1 : Int) (I : Mm), rgM I → r32 x1 → L_M_isAgain_2 Q n x1 I → WI p l e (rmm 0 0) s m args below meth c0 E A 2 0 0 (qV below E A args s Q) I 2 [(0, .ref (eA E 236)), (1, .int (i2 x1))] [] := by
  intro n
  induction n with
  | zero => intro x1 I _ _ v; exact absurd v id
  | succ n ih =>
    intro x1 I hI h1 v
    unfold L_M_isAgain_2 at v
    refine r_iload_n B dX11_isAgain_2 rfl rfl ?_
    refine r_sipush B dX11_isAgain_3 (by decide) ?_
    refine r_icmp_ge B (tgt := 27) dX11_isAgain_6 (by decide) h1 ((rg_lit (by decide) (by decide))) (fun h => ?_) (fun h => ?_)
    · have v := v.1 h
      exact r_vret B hr hk hI v dX11_isAgain_27
    · have v := v.2 h
      refine r_aload_n B dX11_isAgain_9 rfl rfl ?_
      refine r_getR B (C := RX11) (T := TX11) (N := 25) o_236 0 rfl win_X11 (by decide) rfl wf_X11_7 dX11_isAgain_10 ?_
      refine r_iload_n B dX11_isAgain_13 rfl rfl ?_
      refine r_aload_n B dX11_isAgain_14 rfl rfl ?_
      refine r_getR B (C := RX11) (T := TX11) (N := 25) o_236 1 rfl win_X11 (by decide) rfl wf_X11_13 dX11_isAgain_15 ?_
      refine r_iload_n B dX11_isAgain_18 rfl rfl ?_
      obtain ⟨h21, v⟩ := v
      refine r_ald B a_238 (by decide) h21 dX11_isAgain_19 ?_
      obtain ⟨h22, v⟩ := v
      refine r_ast B a_237 (by decide) h22 dX11_isAgain_20 ?_
      have hI23 : rgM (wrM I 237 x1 (I 238 x1)) := rg_wr hI ((hI _ _))
      refine r_iinc B (q := 1) dX11_isAgain_21 (by decide) rfl (lv' := [(1, .int (i2 (x1 + 1))), (0, .ref (eA E 236))]) rfl ?_
      refine r_sub [1, 0] rfl ?_
      refine r_goto B (tgt := 2) dX11_isAgain_24 (by decide) ?_
      obtain ⟨h24, v⟩ := v
      refine r_sub [0, 1] rfl ?_
      exact ih (x1 + 1) _ hI23 h24 v
set_option maxHeartbeats 4000000 in
set_option maxRecDepth 100000 in
theorem c_M_isAgain {l : Launch} {E : En} {A : Nat → Prop}  (I : Mm)  (hI : rgM I)  : CV l E A yX11_isAgain cX11_isAgain 2 0 0 [.ref (eA E 236)] I (V_M_isAgain  I) := by
  intro Q v
  refine mk_met (own := RX11) (lv0 := [(0, .ref (eA E 236))]) (by decide) rfl (Nat.le_of_ble_eq_true rfl) rfl (fun p e s m args below meth c0 B hr hk => ?_)
  unfold V_M_isAgain at v
  refine r_iconst B dX11_isAgain_0 ?_
  refine r_istore_n B dX11_isAgain_1 rfl (by decide) (lv' := [(1, .int (i2 0)), (0, .ref (eA E 236))]) rfl ?_
  refine r_sub [1, 0] rfl ?_
  obtain ⟨f25, v⟩ := v
  refine r_sub [0, 1] rfl ?_
  exact wL_M_isAgain_2 B hr hk f25 0 I hI ((rg_lit (by decide) (by decide))) v
set_option maxHeartbeats 4000000 in
set_option maxRecDepth 100000 in
theorem wL_M_ahead_35 {p : Program} {l : Launch} {e : Env} {s : State} {m : MethodId} {args : Array Value} {below : List Frame} {meth : Method} {c0 : Code} {E : En} {A : Nat → Prop} {x1 : Int} {x2 : Int} {Q : Int → Mm → Prop} {K63 : Int → Int → Mm → Prop} (B : Bd p (rmm 7 162) s m args c0 cX11_ahead 7 RX11 E A 0 0) (hr : meth.sig.returnType = some .int) (hk : meth.locks = false) (h1 : r32 x1) (h2 : r32 x2)  (k63 : ∀ (x3 : Int) (x4 : Int) (I : Mm), rgM I → r32 x3 → r32 x4 → K63 x3 x4 I → WI p l e (rmm 7 162) s m args below meth c0 E A 7 0 0 (qI below E A args s Q) I 63 [(0, .ref (eA E 236)), (1, .int (i2 x1)), (2, .int (i2 x2)), (3, .int (i2 x3)), (4, .int (i2 x4))] []) : ∀ (n : Nat) (x3 : Int) (x4 : Int) (I : Mm), rgM I → r32 x3 → r32 x4 → L_M_ahead_35 x1 x2 Q K63 n x3 x4 I → WI p l e (rmm 7 162) s m args below meth c0 E A 7 0 0 (qI below E A args s Q) I 35 [(0, .ref (eA E 236)), (1, .int (i2 x1)), (2, .int (i2 x2)), (3, .int (i2 x3)), (4, .int (i2 x4))] [] := by
  intro n
  induction n with
  | zero => intro x3 x4 I _ _ _ v; exact absurd v id
  | succ n ih =>
    intro x3 x4 I hI h3 h4 v
    unfold L_M_ahead_35 at v
    refine r_iload B dX11_ahead_35 rfl ?_
    refine r_iload_n B dX11_ahead_37 rfl rfl ?_
    refine r_icmp_ge B (tgt := 63) dX11_ahead_38 (by decide) h4 h1 (fun h => ?_) (fun h => ?_)
    · have v := v.1 h
      refine r_sub [0, 1, 2, 3, 4] rfl ?_
      exact k63 x3 x4 _ hI h3 h4 v
    · have v := v.2 h
      refine r_aload_n B dX11_ahead_41 rfl rfl ?_
      refine r_getR B (C := RX11) (T := TX11) (N := 25) o_236 0 rfl win_X11 (by decide) rfl wf_X11_7 dX11_ahead_42 ?_
      refine r_iconst B dX11_ahead_45 ?_
      refine r_ald B a_237 (by decide) (by decide) dX11_ahead_46 ?_
      refine r_if_le B (tgt := 63) dX11_ahead_47 (by decide) ((hI _ _)) (fun h => ?_) (fun h => ?_)
      · have v := v.1 h
        refine r_sub [0, 1, 2, 3, 4] rfl ?_
        exact k63 x3 x4 _ hI h3 h4 v
      · have v := v.2 h
        refine r_iload_n B dX11_ahead_50 rfl rfl ?_
        refine r_aload_n B dX11_ahead_51 rfl rfl ?_
        refine r_cI B (st := [.int (i2 x3)]) (as := []) (T := TX11) (N := 25) (c_M_takes _ hI ) v o_236 rfl mw_M_takes wl_X11_122 ⟨Nat.le_of_ble_eq_true rfl, Nat.le_of_ble_eq_true rfl⟩ rfl rfl (Nat.le_of_ble_eq_true rfl) dX11_ahead_52 (fun z26 I27 hz26 hI27 v => ?_)
        refine r_iadd B dX11_ahead_55 ?_
        refine r_istore_n B dX11_ahead_56 rfl (by decide) (lv' := [(3, .int (i2 (x3 + z26))), (0, .ref (eA E 236)), (1, .int (i2 x1)), (2, .int (i2 x2)), (4, .int (i2 x4))]) rfl ?_
        refine r_sub [1, 2, 3, 0, 4] rfl ?_
        refine r_iinc B (q := 4) dX11_ahead_57 (by decide) rfl (lv' := [(4, .int (i2 (x4 + 1))), (0, .ref (eA E 236)), (1, .int (i2 x1)), (2, .int (i2 x2)), (3, .int (i2 (x3 + z26)))]) rfl ?_
        refine r_sub [1, 2, 3, 4, 0] rfl ?_
        refine r_goto B (tgt := 35) dX11_ahead_60 (by decide) ?_
        obtain ⟨h28, v⟩ := v
        obtain ⟨h29, v⟩ := v
        refine r_sub [0, 1, 2, 3, 4] rfl ?_
        exact ih (x3 + z26) (x4 + 1) _ hI27 h28 h29 v
set_option maxHeartbeats 4000000 in
set_option maxRecDepth 100000 in
theorem c_M_ahead {l : Launch} {E : En} {A : Nat → Prop} (x1 : Int) (x2 : Int) (I : Mm)  (hI : rgM I) (h1 : r32 x1) (h2 : r32 x2) : CI l E A yX11_ahead cX11_ahead 7 .int 7 162 [.ref (eA E 236), .int (i2 x1), .int (i2 x2)] I (V_M_ahead x1 x2 I) := by
  intro Q v
  refine mk_met (own := RX11) (lv0 := [(0, .ref (eA E 236)), (1, .int (i2 x1)), (2, .int (i2 x2))]) (by decide) rfl (Nat.le_of_ble_eq_true rfl) rfl (fun p e s m args below meth c0 B hr hk => ?_)
  unfold V_M_ahead at v
  refine r_iload_n B dX11_ahead_0 rfl rfl ?_
  refine r_i2l B dX11_ahead_1 h1 ?_
  refine r_lconst B 1 dX11_ahead_2 (by decide) ?_
  refine r_ldc2 B (300) dX11_ahead_3 wc_X11_197 (by decide) ?_
  refine r_sI B (st := []) (as := [.long (l2 x1), .long (l2 1), .long (l2 300)]) (c_M_in x1 1 300 _ hI ((rg_64 h1)) ((show r64 (1) by exact ⟨by decide, by decide⟩)) ((show r64 (300) by exact ⟨by decide, by decide⟩))) v mw_M_in wl_X11_55 ⟨Nat.le_of_ble_eq_true rfl, Nat.le_of_ble_eq_true rfl⟩ rfl rfl (Nat.le_of_ble_eq_true rfl) dX11_ahead_6 (fun z21 I22 hz21 hI22 v => ?_)
  refine r_if_eq B (tgt := 24) dX11_ahead_9 (by decide) hz21 (fun h => ?_) (fun h => ?_)
  · have v := v.1 h
    refine r_iconst B dX11_ahead_24 ?_
    exact r_iret B hr hk rfl ((rg_lit (by decide) (by decide))) hI22 v dX11_ahead_25
  · have v := v.2 h
    refine r_iload_n B dX11_ahead_12 rfl rfl ?_
    refine r_i2l B dX11_ahead_13 h2 ?_
    refine r_lconst B 0 dX11_ahead_14 (by decide) ?_
    refine r_ldc2 B (4) dX11_ahead_15 wc_X11_199 (by decide) ?_
    refine r_sI B (st := []) (as := [.long (l2 x2), .long (l2 0), .long (l2 4)]) (c_M_in x2 0 4 _ hI22 ((rg_64 h2)) ((show r64 (0) by exact ⟨by decide, by decide⟩)) ((show r64 (4) by exact ⟨by decide, by decide⟩))) v mw_M_in wl_X11_55 ⟨Nat.le_of_ble_eq_true rfl, Nat.le_of_ble_eq_true rfl⟩ rfl rfl (Nat.le_of_ble_eq_true rfl) dX11_ahead_18 (fun z23 I24 hz23 hI24 v => ?_)
    refine r_if_ne B (tgt := 26) dX11_ahead_21 (by decide) hz23 (fun h => ?_) (fun h => ?_)
    · have v := v.1 h
      refine r_aload_n B dX11_ahead_26 rfl rfl ?_
      refine r_cV B (st := []) (as := []) (T := TX11) (N := 25) (c_M_keepsAside _ hI24 ) v o_236 rfl mw_M_keepsAside wl_X11_201 ⟨Nat.le_of_ble_eq_true rfl, Nat.le_of_ble_eq_true rfl⟩ rfl rfl (Nat.le_of_ble_eq_true rfl) dX11_ahead_27 (fun I25 hI25 v => ?_)
      refine r_iconst B dX11_ahead_30 ?_
      refine r_istore_n B dX11_ahead_31 rfl (by decide) (lv' := [(3, .int (i2 0)), (0, .ref (eA E 236)), (1, .int (i2 x1)), (2, .int (i2 x2))]) rfl ?_
      refine r_sub [1, 2, 3, 0] rfl ?_
      refine r_iconst B dX11_ahead_32 ?_
      refine r_istore B dX11_ahead_33 (by decide) (lv' := [(4, .int (i2 0)), (0, .ref (eA E 236)), (1, .int (i2 x1)), (2, .int (i2 x2)), (3, .int (i2 0))]) rfl ?_
      refine r_sub [1, 2, 3, 4, 0] rfl ?_
      obtain ⟨f34, v⟩ := v
      refine r_sub [0, 1, 2, 3, 4] rfl ?_
      refine wL_M_ahead_35 B hr hk h1 h2 (fun y30 y31 I32 hI32 hy30 hy31 v => ?_) f34 0 0 I25 hI25 ((rg_lit (by decide) (by decide))) ((rg_lit (by decide) (by decide))) v
      · refine r_aload_n B dX11_ahead_63 rfl rfl ?_
        refine r_getR B (C := RX11) (T := TX11) (N := 25) o_236 0 rfl win_X11 (by decide) rfl wf_X11_7 dX11_ahead_64 ?_
        refine r_iconst B dX11_ahead_67 ?_
        refine r_ald B a_237 (by decide) (by decide) dX11_ahead_68 ?_
        refine r_istore B dX11_ahead_69 (by decide) (lv' := [(5, .int (i2 (I32 237 0))), (0, .ref (eA E 236)), (1, .int (i2 x1)), (2, .int (i2 x2)), (3, .int (i2 y30)), (4, .int (i2 y31))]) rfl ?_
        refine r_sub [1, 2, 3, 4, 5, 0] rfl ?_
        refine r_aload_n B dX11_ahead_71 rfl rfl ?_
        refine r_getR B (C := RX11) (T := TX11) (N := 25) o_236 0 rfl win_X11 (by decide) rfl wf_X11_7 dX11_ahead_72 ?_
        refine r_iconst B dX11_ahead_75 ?_
        refine r_ald B a_237 (by decide) (by decide) dX11_ahead_76 ?_
        refine r_istore B dX11_ahead_77 (by decide) (lv' := [(6, .int (i2 (I32 237 3))), (0, .ref (eA E 236)), (1, .int (i2 x1)), (2, .int (i2 x2)), (3, .int (i2 y30)), (4, .int (i2 y31)), (5, .int (i2 (I32 237 0)))]) rfl ?_
        refine r_sub [1, 2, 3, 4, 5, 6, 0] rfl ?_
        refine r_aload_n B dX11_ahead_79 rfl rfl ?_
        refine r_cV B (st := []) (as := []) (T := TX11) (N := 25) (c_M_isAgain _ hI32 ) v o_236 rfl mw_M_isAgain wl_X11_204 ⟨Nat.le_of_ble_eq_true rfl, Nat.le_of_ble_eq_true rfl⟩ rfl rfl (Nat.le_of_ble_eq_true rfl) dX11_ahead_80 (fun I33 hI33 v => ?_)
        refine r_iload B dX11_ahead_83 rfl ?_
        refine r_iload_n B dX11_ahead_85 rfl rfl ?_
        refine r_icmp_ge B (tgt := 92) dX11_ahead_86 (by decide) hy31 h1 (fun h => ?_) (fun h => ?_)
        · have v := v.1 h
          refine r_iload_n B dX11_ahead_92 rfl rfl ?_
          refine r_if_ne B (tgt := 103) dX11_ahead_93 (by decide) h2 (fun h => ?_) (fun h => ?_)
          · have v := v.1 h
            refine r_iload_n B dX11_ahead_103 rfl rfl ?_
            refine r_iconst B dX11_ahead_104 ?_
            refine r_icmp_ne B (tgt := 115) dX11_ahead_105 (by decide) h2 ((rg_lit (by decide) (by decide))) (fun h => ?_) (fun h => ?_)
            · have v := v.1 h
              refine r_iload_n B dX11_ahead_115 rfl rfl ?_
              refine r_iconst B dX11_ahead_116 ?_
              refine r_icmp_ne B (tgt := 125) dX11_ahead_117 (by decide) h2 ((rg_lit (by decide) (by decide))) (fun h => ?_) (fun h => ?_)
              · have v := v.1 h
                refine r_iload_n B dX11_ahead_125 rfl rfl ?_
                refine r_iconst B dX11_ahead_126 ?_
                refine r_icmp_ne B (tgt := 135) dX11_ahead_127 (by decide) h2 ((rg_lit (by decide) (by decide))) (fun h => ?_) (fun h => ?_)
                · have v := v.1 h
                  refine r_iload_n B dX11_ahead_135 rfl rfl ?_
                  exact r_iret B hr hk rfl hy30 hI33 v dX11_ahead_136
                · have v := v.2 h
                  refine r_iload B dX11_ahead_130 rfl ?_
                  refine r_goto B (tgt := 136) dX11_ahead_132 (by decide) ?_
                  exact r_iret B hr hk rfl ((hI32 _ _)) hI33 v dX11_ahead_136
              · have v := v.2 h
                refine r_iload B dX11_ahead_120 rfl ?_
                refine r_goto B (tgt := 136) dX11_ahead_122 (by decide) ?_
                exact r_iret B hr hk rfl ((hI32 _ _)) hI33 v dX11_ahead_136
            · have v := v.2 h
              refine r_aload_n B dX11_ahead_108 rfl rfl ?_
              refine r_getI B (C := RX11) (T := TX11) (N := 25) o_236 7 rfl win_X11 (by decide) rfl wf_X11_94 dX11_ahead_109 (jj := 7) rfl ?_
              refine r_goto B (tgt := 136) dX11_ahead_112 (by decide) ?_
              exact r_iret B hr hk rfl ((hI33 _ _)) hI33 v dX11_ahead_136
          · have v := v.2 h
            refine r_aload_n B dX11_ahead_96 rfl rfl ?_
            refine r_getI B (C := RX11) (T := TX11) (N := 25) o_236 6 rfl win_X11 (by decide) rfl wf_X11_90 dX11_ahead_97 (jj := 6) rfl ?_
            refine r_goto B (tgt := 136) dX11_ahead_100 (by decide) ?_
            exact r_iret B hr hk rfl ((hI33 _ _)) hI33 v dX11_ahead_136
        · have v := v.2 h
          refine r_bipush B dX11_ahead_89 (by decide) ?_
          exact r_iret B hr hk rfl ((rg_lit (by decide) (by decide))) hI33 v dX11_ahead_91
    · have v := v.2 h
      refine r_iconst B dX11_ahead_24 ?_
      exact r_iret B hr hk rfl ((rg_lit (by decide) (by decide))) hI24 v dX11_ahead_25
set_option maxHeartbeats 4000000 in
set_option maxRecDepth 100000 in
theorem wL_M_busiest_38 {p : Program} {l : Launch} {e : Env} {s : State} {m : MethodId} {args : Array Value} {below : List Frame} {meth : Method} {c0 : Code} {E : En} {A : Nat → Prop} {x1 : Int} {x2 : Int} {Q : Int → Mm → Prop} {K57 : Mm → Prop} (B : Bd p (rmm 7 162) s m args c0 cX11_busiest 5 RX11 E A 0 0) (hr : meth.sig.returnType = some .int) (hk : meth.locks = false) (h1 : r32 x1) (h2 : r32 x2)  (k57 : ∀ (I : Mm), rgM I → K57 I → WI p l e (rmm 7 162) s m args below meth c0 E A 5 0 0 (qI below E A args s Q) I 57 [(0, .ref (eA E 236)), (1, .int (i2 x1)), (2, .int (i2 x2))] []) : ∀ (n : Nat) (x3 : Int) (I : Mm), rgM I → r32 x3 → L_M_busiest_38 x1 x2 Q K57 n x3 I → WI p l e (rmm 7 162) s m args below meth c0 E A 5 0 0 (qI below E A args s Q) I 38 [(0, .ref (eA E 236)), (1, .int (i2 x1)), (2, .int (i2 x2)), (3, .int (i2 x3))] [] := by
  intro n
  induction n with
  | zero => intro x3 I _ _ v; exact absurd v id
  | succ n ih =>
    intro x3 I hI h3 v
    unfold L_M_busiest_38 at v
    refine r_iload_n B dX11_busiest_38 rfl rfl ?_
    refine r_bipush B dX11_busiest_39 (by decide) ?_
    refine r_icmp_ge B (tgt := 57) dX11_busiest_41 (by decide) h3 ((rg_lit (by decide) (by decide))) (fun h => ?_) (fun h => ?_)
    · have v := v.1 h
      refine r_sub [0, 1, 2] rfl ?_
      exact k57 _ hI v
    · have v := v.2 h
      refine r_aload_n B dX11_busiest_44 rfl rfl ?_
      refine r_getR B (C := RX11) (T := TX11) (N := 25) o_236 10 rfl win_X11 (by decide) rfl wf_X11_32 dX11_busiest_45 ?_
      refine r_iload_n B dX11_busiest_48 rfl rfl ?_
      refine r_iconst B dX11_busiest_49 ?_
      obtain ⟨h25, v⟩ := v
      refine r_ast B a_244 (by decide) h25 dX11_busiest_50 ?_
      have hI26 : rgM (wrM I 244 x3 0) := rg_wr hI ((rg_lit (by decide) (by decide)))
      refine r_iinc B (q := 3) dX11_busiest_51 (by decide) rfl (lv' := [(3, .int (i2 (x3 + 1))), (0, .ref (eA E 236)), (1, .int (i2 x1)), (2, .int (i2 x2))]) rfl ?_
      refine r_sub [1, 2, 3, 0] rfl ?_
      refine r_goto B (tgt := 38) dX11_busiest_54 (by decide) ?_
      obtain ⟨h27, v⟩ := v
      refine r_sub [0, 1, 2, 3] rfl ?_
      exact ih (x3 + 1) _ hI26 h27 v
set_option maxHeartbeats 4000000 in
set_option maxRecDepth 100000 in
theorem wL_M_busiest_63 {p : Program} {l : Launch} {e : Env} {s : State} {m : MethodId} {args : Array Value} {below : List Frame} {meth : Method} {c0 : Code} {E : En} {A : Nat → Prop} {x1 : Int} {x2 : Int} {Q : Int → Mm → Prop} {K102 : Mm → Prop} (B : Bd p (rmm 7 162) s m args c0 cX11_busiest 5 RX11 E A 0 0) (hr : meth.sig.returnType = some .int) (hk : meth.locks = false) (h1 : r32 x1) (h2 : r32 x2)  (k102 : ∀ (I : Mm), rgM I → K102 I → WI p l e (rmm 7 162) s m args below meth c0 E A 5 0 0 (qI below E A args s Q) I 102 [(0, .ref (eA E 236)), (2, .int (i2 x2))] []) : ∀ (n : Nat) (x3 : Int) (I : Mm), rgM I → r32 x3 → L_M_busiest_63 x1 x2 Q K102 n x3 I → WI p l e (rmm 7 162) s m args below meth c0 E A 5 0 0 (qI below E A args s Q) I 63 [(0, .ref (eA E 236)), (1, .int (i2 x1)), (2, .int (i2 x2)), (3, .int (i2 x3))] [] := by
  intro n
  induction n with
  | zero => intro x3 I _ _ v; exact absurd v id
  | succ n ih =>
    intro x3 I hI h3 v
    unfold L_M_busiest_63 at v
    refine r_iload_n B dX11_busiest_63 rfl rfl ?_
    refine r_iload_n B dX11_busiest_64 rfl rfl ?_
    refine r_icmp_ge B (tgt := 102) dX11_busiest_65 (by decide) h3 h1 (fun h => ?_) (fun h => ?_)
    · have v := v.1 h
      refine r_sub [0, 2] rfl ?_
      exact k102 _ hI v
    · have v := v.2 h
      refine r_aload_n B dX11_busiest_68 rfl rfl ?_
      refine r_getR B (C := RX11) (T := TX11) (N := 25) o_236 0 rfl win_X11 (by decide) rfl wf_X11_7 dX11_busiest_69 ?_
      refine r_iconst B dX11_busiest_72 ?_
      refine r_ald B a_237 (by decide) (by decide) dX11_busiest_73 ?_
      refine r_if_le B (tgt := 102) dX11_busiest_74 (by decide) ((hI _ _)) (fun h => ?_) (fun h => ?_)
      · have v := v.1 h
        refine r_sub [0, 2] rfl ?_
        exact k102 _ hI v
      · have v := v.2 h
        refine r_aload_n B dX11_busiest_77 rfl rfl ?_
        refine r_cI B (st := []) (as := []) (T := TX11) (N := 25) (c_M_takes _ hI ) v o_236 rfl mw_M_takes wl_X11_122 ⟨Nat.le_of_ble_eq_true rfl, Nat.le_of_ble_eq_true rfl⟩ rfl rfl (Nat.le_of_ble_eq_true rfl) dX11_busiest_78 (fun z30 I31 hz30 hI31 v => ?_)
        refine r_istore B dX11_busiest_81 (by decide) (lv' := [(4, .int (i2 z30)), (0, .ref (eA E 236)), (1, .int (i2 x1)), (2, .int (i2 x2)), (3, .int (i2 x3))]) rfl ?_
        refine r_sub [1, 2, 3, 4, 0] rfl ?_
        refine r_aload_n B dX11_busiest_83 rfl rfl ?_
        refine r_getR B (C := RX11) (T := TX11) (N := 25) o_236 10 rfl win_X11 (by decide) rfl wf_X11_32 dX11_busiest_84 ?_
        refine r_aload_n B dX11_busiest_87 rfl rfl ?_
        refine r_getI B (C := RX11) (T := TX11) (N := 25) o_236 7 rfl win_X11 (by decide) rfl wf_X11_94 dX11_busiest_88 (jj := 7) rfl ?_
        refine r_dup2 B dX11_busiest_91 rfl rfl ?_
        obtain ⟨h32, v⟩ := v
        refine r_ald B a_244 (by decide) h32 dX11_busiest_92 ?_
        refine r_iconst B dX11_busiest_93 ?_
        refine r_iadd B dX11_busiest_94 ?_
        obtain ⟨h33, v⟩ := v
        obtain ⟨h34, v⟩ := v
        refine r_ast B a_244 (by decide) h33 dX11_busiest_95 ?_
        have hI35 : rgM (wrM I31 244 (I31 236 7) (I31 244 (I31 236 7) + 1)) := rg_wr hI31 h34
        refine r_iinc B (q := 3) dX11_busiest_96 (by decide) rfl (lv' := [(3, .int (i2 (x3 + 1))), (0, .ref (eA E 236)), (1, .int (i2 x1)), (2, .int (i2 x2)), (4, .int (i2 z30))]) rfl ?_
        refine r_sub [1, 2, 3, 0, 4] rfl ?_
        refine r_goto B (tgt := 63) dX11_busiest_99 (by decide) ?_
        obtain ⟨h36, v⟩ := v
        refine r_sub [0, 1, 2, 3] rfl ?_
        exact ih (x3 + 1) _ hI35 h36 v
set_option maxHeartbeats 4000000 in
set_option maxRecDepth 100000 in
theorem wL_M_busiest_111 {p : Program} {l : Launch} {e : Env} {s : State} {m : MethodId} {args : Array Value} {below : List Frame} {meth : Method} {c0 : Code} {E : En} {A : Nat → Prop} {x1 : Int} {x2 : Int} {Q : Int → Mm → Prop}  (B : Bd p (rmm 7 162) s m args c0 cX11_busiest 5 RX11 E A 0 0) (hr : meth.sig.returnType = some .int) (hk : meth.locks = false) (h1 : r32 x1) (h2 : r32 x2)   : ∀ (n : Nat) (x3 : Int) (x4 : Int) (I : Mm), rgM I → r32 x3 → r32 x4 → L_M_busiest_111 x1 x2 Q n x3 x4 I → WI p l e (rmm 7 162) s m args below meth c0 E A 5 0 0 (qI below E A args s Q) I 111 [(0, .ref (eA E 236)), (2, .int (i2 x2)), (3, .int (i2 x3)), (4, .int (i2 x4))] [] := by
  intro n
  induction n with
  | zero => intro x3 x4 I _ _ _ v; exact absurd v id
  | succ n ih =>
    intro x3 x4 I hI h3 h4 v
    unfold L_M_busiest_111 at v
    refine r_iload B dX11_busiest_111 rfl ?_
    refine r_bipush B dX11_busiest_113 (by decide) ?_
    refine r_icmp_ge B (tgt := 147) dX11_busiest_115 (by decide) h4 ((rg_lit (by decide) (by decide))) (fun h => ?_) (fun h => ?_)
    · have v := v.1 h
      refine r_iload_n B dX11_busiest_147 rfl rfl ?_
      refine r_if_ne B (tgt := 155) dX11_busiest_148 (by decide) h2 (fun h => ?_) (fun h => ?_)
      · have v := v.1 h
        refine r_aload_n B dX11_busiest_155 rfl rfl ?_
        refine r_getR B (C := RX11) (T := TX11) (N := 25) o_236 10 rfl win_X11 (by decide) rfl wf_X11_32 dX11_busiest_156 ?_
        refine r_iload_n B dX11_busiest_159 rfl rfl ?_
        obtain ⟨h39, v⟩ := v
        refine r_ald B a_244 (by decide) h39 dX11_busiest_160 ?_
        exact r_iret B hr hk rfl ((hI _ _)) hI v dX11_busiest_161
      · have v := v.2 h
        refine r_iload_n B dX11_busiest_151 rfl rfl ?_
        refine r_goto B (tgt := 161) dX11_busiest_152 (by decide) ?_
        exact r_iret B hr hk rfl h3 hI v dX11_busiest_161
    · have v := v.2 h
      refine r_aload_n B dX11_busiest_118 rfl rfl ?_
      refine r_getR B (C := RX11) (T := TX11) (N := 25) o_236 10 rfl win_X11 (by decide) rfl wf_X11_32 dX11_busiest_119 ?_
      refine r_iload B dX11_busiest_122 rfl ?_
      obtain ⟨h40, v⟩ := v
      refine r_ald B a_244 (by decide) h40 dX11_busiest_124 ?_
      refine r_aload_n B dX11_busiest_125 rfl rfl ?_
      refine r_getR B (C := RX11) (T := TX11) (N := 25) o_236 10 rfl win_X11 (by decide) rfl wf_X11_32 dX11_busiest_126 ?_
      refine r_iload_n B dX11_busiest_129 rfl rfl ?_
      obtain ⟨h41, v⟩ := v
      refine r_ald B a_244 (by decide) h41 dX11_busiest_130 ?_
      refine r_icmp_le B (tgt := 139) dX11_busiest_131 (by decide) ((hI _ _)) ((hI _ _)) (fun h => ?_) (fun h => ?_)
      · have v := v.1 h
        refine r_iload_n B dX11_busiest_139 rfl rfl ?_
        refine r_istore_n B dX11_busiest_140 rfl (by decide) (lv' := [(3, .int (i2 x3)), (0, .ref (eA E 236)), (2, .int (i2 x2)), (4, .int (i2 x4))]) rfl ?_
        refine r_sub [1, 2, 0, 3] rfl ?_
        refine r_iinc B (q := 3) dX11_busiest_141 (by decide) rfl (lv' := [(4, .int (i2 (x4 + 1))), (0, .ref (eA E 236)), (2, .int (i2 x2)), (3, .int (i2 x3))]) rfl ?_
        refine r_sub [1, 2, 3, 0] rfl ?_
        refine r_goto B (tgt := 111) dX11_busiest_144 (by decide) ?_
        obtain ⟨h42, v⟩ := v
        refine r_sub [0, 1, 2, 3] rfl ?_
        exact ih x3 (x4 + 1) _ hI h3 h42 v
      · have v := v.2 h
        refine r_iload B dX11_busiest_134 rfl ?_
        refine r_goto B (tgt := 140) dX11_busiest_136 (by decide) ?_
        refine r_istore_n B dX11_busiest_140 rfl (by decide) (lv' := [(3, .int (i2 x4)), (0, .ref (eA E 236)), (2, .int (i2 x2)), (4, .int (i2 x4))]) rfl ?_
        refine r_sub [1, 2, 0, 3] rfl ?_
        refine r_iinc B (q := 3) dX11_busiest_141 (by decide) rfl (lv' := [(4, .int (i2 (x4 + 1))), (0, .ref (eA E 236)), (2, .int (i2 x2)), (3, .int (i2 x4))]) rfl ?_
        refine r_sub [1, 2, 3, 0] rfl ?_
        refine r_goto B (tgt := 111) dX11_busiest_144 (by decide) ?_
        obtain ⟨h43, v⟩ := v
        refine r_sub [0, 1, 2, 3] rfl ?_
        exact ih x4 (x4 + 1) _ hI h4 h43 v
set_option maxHeartbeats 4000000 in
set_option maxRecDepth 100000 in
theorem c_M_busiest {l : Launch} {E : En} {A : Nat → Prop} (x1 : Int) (x2 : Int) (I : Mm)  (hI : rgM I) (h1 : r32 x1) (h2 : r32 x2) : CI l E A yX11_busiest cX11_busiest 5 .int 7 162 [.ref (eA E 236), .int (i2 x1), .int (i2 x2)] I (V_M_busiest x1 x2 I) := by
  intro Q v
  refine mk_met (own := RX11) (lv0 := [(0, .ref (eA E 236)), (1, .int (i2 x1)), (2, .int (i2 x2))]) (by decide) rfl (Nat.le_of_ble_eq_true rfl) rfl (fun p e s m args below meth c0 B hr hk => ?_)
  unfold V_M_busiest at v
  refine r_iload_n B dX11_busiest_0 rfl rfl ?_
  refine r_i2l B dX11_busiest_1 h1 ?_
  refine r_lconst B 1 dX11_busiest_2 (by decide) ?_
  refine r_ldc2 B (300) dX11_busiest_3 wc_X11_197 (by decide) ?_
  refine r_sI B (st := []) (as := [.long (l2 x1), .long (l2 1), .long (l2 300)]) (c_M_in x1 1 300 _ hI ((rg_64 h1)) ((show r64 (1) by exact ⟨by decide, by decide⟩)) ((show r64 (300) by exact ⟨by decide, by decide⟩))) v mw_M_in wl_X11_55 ⟨Nat.le_of_ble_eq_true rfl, Nat.le_of_ble_eq_true rfl⟩ rfl rfl (Nat.le_of_ble_eq_true rfl) dX11_busiest_6 (fun z21 I22 hz21 hI22 v => ?_)
  refine r_if_eq B (tgt := 22) dX11_busiest_9 (by decide) hz21 (fun h => ?_) (fun h => ?_)
  · have v := v.1 h
    refine r_iconst B dX11_busiest_22 ?_
    exact r_iret B hr hk rfl ((rg_lit (by decide) (by decide))) hI22 v dX11_busiest_23
  · have v := v.2 h
    refine r_iload_n B dX11_busiest_12 rfl rfl ?_
    refine r_i2l B dX11_busiest_13 h2 ?_
    refine r_lconst B 0 dX11_busiest_14 (by decide) ?_
    refine r_lconst B 1 dX11_busiest_15 (by decide) ?_
    refine r_sI B (st := []) (as := [.long (l2 x2), .long (l2 0), .long (l2 1)]) (c_M_in x2 0 1 _ hI22 ((rg_64 h2)) ((show r64 (0) by exact ⟨by decide, by decide⟩)) ((show r64 (1) by exact ⟨by decide, by decide⟩))) v mw_M_in wl_X11_55 ⟨Nat.le_of_ble_eq_true rfl, Nat.le_of_ble_eq_true rfl⟩ rfl rfl (Nat.le_of_ble_eq_true rfl) dX11_busiest_16 (fun z23 I24 hz23 hI24 v => ?_)
    refine r_if_ne B (tgt := 24) dX11_busiest_19 (by decide) hz23 (fun h => ?_) (fun h => ?_)
    · have v := v.1 h
      refine r_aload_n B dX11_busiest_24 rfl rfl ?_
      refine r_getR B (C := RX11) (T := TX11) (N := 25) o_236 0 rfl win_X11 (by decide) rfl wf_X11_7 dX11_busiest_25 ?_
      refine r_iconst B dX11_busiest_28 ?_
      refine r_ald B a_237 (by decide) (by decide) dX11_busiest_29 ?_
      refine r_if_ne B (tgt := 36) dX11_busiest_30 (by decide) ((hI24 _ _)) (fun h => ?_) (fun h => ?_)
      · have v := v.1 h
        refine r_iconst B dX11_busiest_36 ?_
        refine r_istore_n B dX11_busiest_37 rfl (by decide) (lv' := [(3, .int (i2 0)), (0, .ref (eA E 236)), (1, .int (i2 x1)), (2, .int (i2 x2))]) rfl ?_
        refine r_sub [1, 2, 3, 0] rfl ?_
        obtain ⟨f46, v⟩ := v
        refine r_sub [0, 1, 2, 3] rfl ?_
        refine wL_M_busiest_38 B hr hk h1 h2 (fun I28 hI28 v => ?_) f46 0 I24 hI24 ((rg_lit (by decide) (by decide))) v
        · refine r_aload_n B dX11_busiest_57 rfl rfl ?_
          refine r_cV B (st := []) (as := []) (T := TX11) (N := 25) (c_M_keepsAside _ hI28 ) v o_236 rfl mw_M_keepsAside wl_X11_201 ⟨Nat.le_of_ble_eq_true rfl, Nat.le_of_ble_eq_true rfl⟩ rfl rfl (Nat.le_of_ble_eq_true rfl) dX11_busiest_58 (fun I29 hI29 v => ?_)
          refine r_iconst B dX11_busiest_61 ?_
          refine r_istore_n B dX11_busiest_62 rfl (by decide) (lv' := [(3, .int (i2 0)), (0, .ref (eA E 236)), (1, .int (i2 x1)), (2, .int (i2 x2))]) rfl ?_
          refine r_sub [1, 2, 3, 0] rfl ?_
          obtain ⟨f45, v⟩ := v
          refine r_sub [0, 1, 2, 3] rfl ?_
          refine wL_M_busiest_63 B hr hk h1 h2 (fun I37 hI37 v => ?_) f45 0 I29 hI29 ((rg_lit (by decide) (by decide))) v
          · refine r_aload_n B dX11_busiest_102 rfl rfl ?_
            refine r_cV B (st := []) (as := []) (T := TX11) (N := 25) (c_M_isAgain _ hI37 ) v o_236 rfl mw_M_isAgain wl_X11_204 ⟨Nat.le_of_ble_eq_true rfl, Nat.le_of_ble_eq_true rfl⟩ rfl rfl (Nat.le_of_ble_eq_true rfl) dX11_busiest_103 (fun I38 hI38 v => ?_)
            refine r_iconst B dX11_busiest_106 ?_
            refine r_istore_n B dX11_busiest_107 rfl (by decide) (lv' := [(3, .int (i2 0)), (0, .ref (eA E 236)), (2, .int (i2 x2))]) rfl ?_
            refine r_sub [1, 2, 0] rfl ?_
            refine r_iconst B dX11_busiest_108 ?_
            refine r_istore B dX11_busiest_109 (by decide) (lv' := [(4, .int (i2 1)), (0, .ref (eA E 236)), (2, .int (i2 x2)), (3, .int (i2 0))]) rfl ?_
            refine r_sub [1, 2, 3, 0] rfl ?_
            obtain ⟨f44, v⟩ := v
            refine r_sub [0, 1, 2, 3] rfl ?_
            exact wL_M_busiest_111 B hr hk h1 h2 f44 0 1 I38 hI38 ((rg_lit (by decide) (by decide))) ((rg_lit (by decide) (by decide))) v
      · have v := v.2 h
        refine r_bipush B dX11_busiest_33 (by decide) ?_
        exact r_iret B hr hk rfl ((rg_lit (by decide) (by decide))) hI24 v dX11_busiest_35
    · have v := v.2 h
      refine r_iconst B dX11_busiest_22 ?_
      exact r_iret B hr hk rfl ((rg_lit (by decide) (by decide))) hI24 v dX11_busiest_23
set_option maxHeartbeats 4000000 in
set_option maxRecDepth 100000 in
theorem wL_M_when_35 {p : Program} {l : Launch} {e : Env} {s : State} {m : MethodId} {args : Array Value} {below : List Frame} {meth : Method} {c0 : Code} {E : En} {A : Nat → Prop} {x1 : Int} {x2 : Int} {x4 : Int} {Q : Int → Mm → Prop} {K85 : Int → Mm → Prop} (B : Bd p (rmm 7 162) s m args c0 cX11_when 7 RX11 E A 0 0) (hr : meth.sig.returnType = some .int) (hk : meth.locks = false) (h1 : r32 x1) (h2 : r32 x2) (h4 : r32 x4) (k85 : ∀ (x3 : Int) (I : Mm), rgM I → r32 x3 → K85 x3 I → WI p l e (rmm 7 162) s m args below meth c0 E A 7 0 0 (qI below E A args s Q) I 85 [(0, .ref (eA E 236)), (2, .int (i2 x2)), (3, .int (i2 x3)), (4, .int (i2 x4))] []) : ∀ (n : Nat) (x3 : Int) (x5 : Int) (I : Mm), rgM I → r32 x3 → r32 x5 → L_M_when_35 x1 x2 x4 Q K85 n x3 x5 I → WI p l e (rmm 7 162) s m args below meth c0 E A 7 0 0 (qI below E A args s Q) I 35 [(0, .ref (eA E 236)), (1, .int (i2 x1)), (2, .int (i2 x2)), (3, .int (i2 x3)), (4, .int (i2 x4)), (5, .int (i2 x5))] [] := by
  intro n
  induction n with
  | zero => intro x3 x5 I _ _ _ v; exact absurd v id
  | succ n ih =>
    intro x3 x5 I hI h3 h5 v
    unfold L_M_when_35 at v
    refine r_iload B dX11_when_35 rfl ?_
    refine r_sipush B dX11_when_37 (by decide) ?_
    refine r_icmp_ge B (tgt := 85) dX11_when_40 (by decide) h5 ((rg_lit (by decide) (by decide))) (fun h => ?_) (fun h => ?_)
    · have v := v.1 h
      refine r_sub [0, 2, 3, 4] rfl ?_
      exact k85 x3 _ hI h3 v
    · have v := v.2 h
      refine r_aload_n B dX11_when_43 rfl rfl ?_
      refine r_getR B (C := RX11) (T := TX11) (N := 25) o_236 0 rfl win_X11 (by decide) rfl wf_X11_7 dX11_when_44 ?_
      refine r_iconst B dX11_when_47 ?_
      refine r_ald B a_237 (by decide) (by decide) dX11_when_48 ?_
      refine r_if_le B (tgt := 85) dX11_when_49 (by decide) ((hI _ _)) (fun h => ?_) (fun h => ?_)
      · have v := v.1 h
        refine r_sub [0, 2, 3, 4] rfl ?_
        exact k85 x3 _ hI h3 v
      · have v := v.2 h
        refine r_iload_n B dX11_when_52 rfl rfl ?_
        refine r_iload_n B dX11_when_53 rfl rfl ?_
        refine r_icmp_ge B (tgt := 85) dX11_when_54 (by decide) h3 h2 (fun h => ?_) (fun h => ?_)
        · have v := v.1 h
          refine r_sub [0, 2, 3, 4] rfl ?_
          exact k85 x3 _ hI h3 v
        · have v := v.2 h
          refine r_aload_n B dX11_when_57 rfl rfl ?_
          refine r_cI B (st := []) (as := []) (T := TX11) (N := 25) (c_M_takes _ hI ) v o_236 rfl mw_M_takes wl_X11_122 ⟨Nat.le_of_ble_eq_true rfl, Nat.le_of_ble_eq_true rfl⟩ rfl rfl (Nat.le_of_ble_eq_true rfl) dX11_when_58 (fun z26 I27 hz26 hI27 v => ?_)
          refine r_istore B dX11_when_61 (by decide) (lv' := [(6, .int (i2 z26)), (0, .ref (eA E 236)), (1, .int (i2 x1)), (2, .int (i2 x2)), (3, .int (i2 x3)), (4, .int (i2 x4)), (5, .int (i2 x5))]) rfl ?_
          refine r_sub [1, 2, 3, 4, 5, 6, 0] rfl ?_
          refine r_iload_n B dX11_when_63 rfl rfl ?_
          refine r_aload_n B dX11_when_64 rfl rfl ?_
          refine r_getI B (C := RX11) (T := TX11) (N := 25) o_236 7 rfl win_X11 (by decide) rfl wf_X11_94 dX11_when_65 (jj := 7) rfl ?_
          refine r_iload_n B dX11_when_68 rfl rfl ?_
          refine r_icmp_ne B (tgt := 76) dX11_when_69 (by decide) ((hI27 _ _)) h1 (fun h => ?_) (fun h => ?_)
          · have v := v.1 h
            refine r_iconst B dX11_when_76 ?_
            refine r_iadd B dX11_when_77 ?_
            refine r_istore_n B dX11_when_78 rfl (by decide) (lv' := [(3, .int (i2 (x3 + 0))), (0, .ref (eA E 236)), (1, .int (i2 x1)), (2, .int (i2 x2)), (4, .int (i2 x4)), (5, .int (i2 x5)), (6, .int (i2 z26))]) rfl ?_
            refine r_sub [1, 2, 3, 0, 4, 5, 6] rfl ?_
            refine r_iinc B (q := 5) dX11_when_79 (by decide) rfl (lv' := [(5, .int (i2 (x5 + 1))), (0, .ref (eA E 236)), (1, .int (i2 x1)), (2, .int (i2 x2)), (3, .int (i2 (x3 + 0))), (4, .int (i2 x4)), (6, .int (i2 z26))]) rfl ?_
            refine r_sub [1, 2, 3, 4, 5, 0, 6] rfl ?_
            refine r_goto B (tgt := 35) dX11_when_82 (by decide) ?_
            obtain ⟨h28, v⟩ := v
            obtain ⟨h29, v⟩ := v
            refine r_sub [0, 1, 2, 3, 4, 5] rfl ?_
            exact ih (x3 + 0) (x5 + 1) _ hI27 h28 h29 v
          · have v := v.2 h
            refine r_iconst B dX11_when_72 ?_
            refine r_goto B (tgt := 77) dX11_when_73 (by decide) ?_
            refine r_iadd B dX11_when_77 ?_
            refine r_istore_n B dX11_when_78 rfl (by decide) (lv' := [(3, .int (i2 (x3 + 1))), (0, .ref (eA E 236)), (1, .int (i2 x1)), (2, .int (i2 x2)), (4, .int (i2 x4)), (5, .int (i2 x5)), (6, .int (i2 z26))]) rfl ?_
            refine r_sub [1, 2, 3, 0, 4, 5, 6] rfl ?_
            refine r_iinc B (q := 5) dX11_when_79 (by decide) rfl (lv' := [(5, .int (i2 (x5 + 1))), (0, .ref (eA E 236)), (1, .int (i2 x1)), (2, .int (i2 x2)), (3, .int (i2 (x3 + 1))), (4, .int (i2 x4)), (6, .int (i2 z26))]) rfl ?_
            refine r_sub [1, 2, 3, 4, 5, 0, 6] rfl ?_
            refine r_goto B (tgt := 35) dX11_when_82 (by decide) ?_
            obtain ⟨h30, v⟩ := v
            obtain ⟨h31, v⟩ := v
            refine r_sub [0, 1, 2, 3, 4, 5] rfl ?_
            exact ih (x3 + 1) (x5 + 1) _ hI27 h30 h31 v
set_option maxHeartbeats 4000000 in
set_option maxRecDepth 100000 in
theorem c_M_when {l : Launch} {E : En} {A : Nat → Prop} (x1 : Int) (x2 : Int) (I : Mm)  (hI : rgM I) (h1 : r32 x1) (h2 : r32 x2) : CI l E A yX11_when cX11_when 7 .int 7 162 [.ref (eA E 236), .int (i2 x1), .int (i2 x2)] I (V_M_when x1 x2 I) := by
  intro Q v
  refine mk_met (own := RX11) (lv0 := [(0, .ref (eA E 236)), (1, .int (i2 x1)), (2, .int (i2 x2))]) (by decide) rfl (Nat.le_of_ble_eq_true rfl) rfl (fun p e s m args below meth c0 B hr hk => ?_)
  unfold V_M_when at v
  refine r_aload_n B dX11_when_0 rfl rfl ?_
  refine r_iload_n B dX11_when_1 rfl rfl ?_
  refine r_cI B (st := []) (as := [.int (i2 x1)]) (T := TX11) (N := 25) (c_M_isName x1 _ hI h1) v o_236 rfl mw_M_isName wl_X11_111 ⟨Nat.le_of_ble_eq_true rfl, Nat.le_of_ble_eq_true rfl⟩ rfl rfl (Nat.le_of_ble_eq_true rfl) dX11_when_2 (fun z21 I22 hz21 hI22 v => ?_)
  refine r_if_eq B (tgt := 20) dX11_when_5 (by decide) hz21 (fun h => ?_) (fun h => ?_)
  · have v := v.1 h
    refine r_iconst B dX11_when_20 ?_
    exact r_iret B hr hk rfl ((rg_lit (by decide) (by decide))) hI22 v dX11_when_21
  · have v := v.2 h
    refine r_iload_n B dX11_when_8 rfl rfl ?_
    refine r_i2l B dX11_when_9 h2 ?_
    refine r_lconst B 1 dX11_when_10 (by decide) ?_
    refine r_ldc2 B (99) dX11_when_11 wc_X11_120 (by decide) ?_
    refine r_sI B (st := []) (as := [.long (l2 x2), .long (l2 1), .long (l2 99)]) (c_M_in x2 1 99 _ hI22 ((rg_64 h2)) ((show r64 (1) by exact ⟨by decide, by decide⟩)) ((show r64 (99) by exact ⟨by decide, by decide⟩))) v mw_M_in wl_X11_55 ⟨Nat.le_of_ble_eq_true rfl, Nat.le_of_ble_eq_true rfl⟩ rfl rfl (Nat.le_of_ble_eq_true rfl) dX11_when_14 (fun z23 I24 hz23 hI24 v => ?_)
    refine r_if_ne B (tgt := 22) dX11_when_17 (by decide) hz23 (fun h => ?_) (fun h => ?_)
    · have v := v.1 h
      refine r_aload_n B dX11_when_22 rfl rfl ?_
      refine r_cV B (st := []) (as := []) (T := TX11) (N := 25) (c_M_keepsAside _ hI24 ) v o_236 rfl mw_M_keepsAside wl_X11_201 ⟨Nat.le_of_ble_eq_true rfl, Nat.le_of_ble_eq_true rfl⟩ rfl rfl (Nat.le_of_ble_eq_true rfl) dX11_when_23 (fun I25 hI25 v => ?_)
      refine r_iconst B dX11_when_26 ?_
      refine r_istore_n B dX11_when_27 rfl (by decide) (lv' := [(3, .int (i2 0)), (0, .ref (eA E 236)), (1, .int (i2 x1)), (2, .int (i2 x2))]) rfl ?_
      refine r_sub [1, 2, 3, 0] rfl ?_
      refine r_bipush B dX11_when_28 (by decide) ?_
      refine r_istore B dX11_when_30 (by decide) (lv' := [(4, .int (i2 (-2))), (0, .ref (eA E 236)), (1, .int (i2 x1)), (2, .int (i2 x2)), (3, .int (i2 0))]) rfl ?_
      refine r_sub [1, 2, 3, 4, 0] rfl ?_
      refine r_iconst B dX11_when_32 ?_
      refine r_istore B dX11_when_33 (by decide) (lv' := [(5, .int (i2 0)), (0, .ref (eA E 236)), (1, .int (i2 x1)), (2, .int (i2 x2)), (3, .int (i2 0)), (4, .int (i2 (-2)))]) rfl ?_
      refine r_sub [1, 2, 3, 4, 5, 0] rfl ?_
      obtain ⟨f36, v⟩ := v
      refine r_sub [0, 1, 2, 3, 4, 5] rfl ?_
      refine wL_M_when_35 B hr hk h1 h2 ((rg_lit (by decide) (by decide))) (fun y32 I33 hI33 hy32 v => ?_) f36 0 0 I25 hI25 ((rg_lit (by decide) (by decide))) ((rg_lit (by decide) (by decide))) v
      · refine r_iload_n B dX11_when_85 rfl rfl ?_
        refine r_iload_n B dX11_when_86 rfl rfl ?_
        refine r_icmp_ne B (tgt := 98) dX11_when_87 (by decide) hy32 h2 (fun h => ?_) (fun h => ?_)
        · have v := v.1 h
          refine r_aload_n B dX11_when_98 rfl rfl ?_
          refine r_cV B (st := []) (as := []) (T := TX11) (N := 25) (c_M_isAgain _ hI33 ) v o_236 rfl mw_M_isAgain wl_X11_204 ⟨Nat.le_of_ble_eq_true rfl, Nat.le_of_ble_eq_true rfl⟩ rfl rfl (Nat.le_of_ble_eq_true rfl) dX11_when_99 (fun I34 hI34 v => ?_)
          refine r_iload B dX11_when_102 rfl ?_
          exact r_iret B hr hk rfl ((rg_lit (by decide) (by decide))) hI34 v dX11_when_104
        · have v := v.2 h
          refine r_aload_n B dX11_when_90 rfl rfl ?_
          refine r_getR B (C := RX11) (T := TX11) (N := 25) o_236 0 rfl win_X11 (by decide) rfl wf_X11_7 dX11_when_91 ?_
          refine r_iconst B dX11_when_94 ?_
          refine r_ald B a_237 (by decide) (by decide) dX11_when_95 ?_
          refine r_istore B dX11_when_96 (by decide) (lv' := [(4, .int (i2 (I33 237 3))), (0, .ref (eA E 236)), (2, .int (i2 x2)), (3, .int (i2 y32))]) rfl ?_
          refine r_sub [1, 2, 3, 0] rfl ?_
          refine r_aload_n B dX11_when_98 rfl rfl ?_
          refine r_cV B (st := []) (as := []) (T := TX11) (N := 25) (c_M_isAgain _ hI33 ) v o_236 rfl mw_M_isAgain wl_X11_204 ⟨Nat.le_of_ble_eq_true rfl, Nat.le_of_ble_eq_true rfl⟩ rfl rfl (Nat.le_of_ble_eq_true rfl) dX11_when_99 (fun I35 hI35 v => ?_)
          refine r_iload B dX11_when_102 rfl ?_
          exact r_iret B hr hk rfl ((hI33 _ _)) hI35 v dX11_when_104
    · have v := v.2 h
      refine r_iconst B dX11_when_20 ?_
      exact r_iret B hr hk rfl ((rg_lit (by decide) (by decide))) hI24 v dX11_when_21
set_option maxHeartbeats 4000000 in
set_option maxRecDepth 100000 in
theorem wL_M_dueIn_6 {p : Program} {l : Launch} {e : Env} {s : State} {m : MethodId} {args : Array Value} {below : List Frame} {meth : Method} {c0 : Code} {E : En} {A : Nat → Prop} {x1 : Int} {x3 : Int} {Q : Int → Mm → Prop}  (B : Bd p (rmm 0 0) s m args c0 cX11_dueIn 7 RX11 E A 0 0) (hr : meth.sig.returnType = some .int) (hk : meth.locks = false) (h1 : r64 x1) (h3 : r64 x3)   : ∀ (n : Nat) (x5 : Int) (x6 : Int) (I : Mm), rgM I → r32 x5 → r32 x6 → L_M_dueIn_6 x1 x3 Q n x5 x6 I → WI p l e (rmm 0 0) s m args below meth c0 E A 7 0 0 (qI below E A args s Q) I 6 [(0, .ref (eA E 236)), (1, .long (l2 x1)), (3, .long (l2 x3)), (5, .int (i2 x5)), (6, .int (i2 x6))] [] := by
  intro n
  induction n with
  | zero => intro x5 x6 I _ _ _ v; exact absurd v id
  | succ n ih =>
    intro x5 x6 I hI h5 h6 v
    unfold L_M_dueIn_6 at v
    refine r_iload B dX11_dueIn_6 rfl ?_
    refine r_aload_n B dX11_dueIn_8 rfl rfl ?_
    refine r_getR B (C := RX11) (T := TX11) (N := 25) o_236 0 rfl win_X11 (by decide) rfl wf_X11_7 dX11_dueIn_9 ?_
    refine r_iconst B dX11_dueIn_12 ?_
    refine r_ald B a_237 (by decide) (by decide) dX11_dueIn_13 ?_
    refine r_icmp_ge B (tgt := 67) dX11_dueIn_14 (by decide) h6 ((hI _ _)) (fun h => ?_) (fun h => ?_)
    · have v := v.1 h
      refine r_iload B dX11_dueIn_67 rfl ?_
      exact r_iret B hr hk rfl h5 hI v dX11_dueIn_69
    · have v := v.2 h
      refine r_iload B dX11_dueIn_17 rfl ?_
      refine r_aload_n B dX11_dueIn_19 rfl rfl ?_
      refine r_getR B (C := RX11) (T := TX11) (N := 25) o_236 0 rfl win_X11 (by decide) rfl wf_X11_7 dX11_dueIn_20 ?_
      refine r_sipush B dX11_dueIn_23 (by decide) ?_
      refine r_iload B dX11_dueIn_26 rfl ?_
      refine r_iadd B dX11_dueIn_28 ?_
      obtain ⟨h21, v⟩ := v
      refine r_ald B a_237 (by decide) h21 dX11_dueIn_29 ?_
      refine r_i2l B dX11_dueIn_30 ((hI _ _)) ?_
      refine r_lload_n B dX11_dueIn_31 rfl rfl ?_
      refine r_lcmp_lt B (tgt := 57) dX11_dueIn_32 dX11_dueIn_33 (by decide) ((rg_64 ((hI _ _)))) h1 (fun h => ?_) (fun h => ?_)
      · have v := v.1 h
        refine r_iconst B dX11_dueIn_57 ?_
        refine r_iadd B dX11_dueIn_58 ?_
        refine r_istore B dX11_dueIn_59 (by decide) (lv' := [(5, .int (i2 (x5 + 0))), (0, .ref (eA E 236)), (1, .long (l2 x1)), (3, .long (l2 x3)), (6, .int (i2 x6))]) rfl ?_
        refine r_sub [1, 2, 3, 0, 4] rfl ?_
        refine r_iinc B (q := 4) dX11_dueIn_61 (by decide) rfl (lv' := [(6, .int (i2 (x6 + 1))), (0, .ref (eA E 236)), (1, .long (l2 x1)), (3, .long (l2 x3)), (5, .int (i2 (x5 + 0)))]) rfl ?_
        refine r_sub [1, 2, 3, 4, 0] rfl ?_
        refine r_goto B (tgt := 6) dX11_dueIn_64 (by decide) ?_
        obtain ⟨h22, v⟩ := v
        obtain ⟨h23, v⟩ := v
        refine r_sub [0, 1, 2, 3, 4] rfl ?_
        exact ih (x5 + 0) (x6 + 1) _ hI h22 h23 v
      · have v := v.2 h
        refine r_aload_n B dX11_dueIn_36 rfl rfl ?_
        refine r_getR B (C := RX11) (T := TX11) (N := 25) o_236 0 rfl win_X11 (by decide) rfl wf_X11_7 dX11_dueIn_37 ?_
        refine r_sipush B dX11_dueIn_40 (by decide) ?_
        refine r_iload B dX11_dueIn_43 rfl ?_
        refine r_iadd B dX11_dueIn_45 ?_
        obtain ⟨h24, v⟩ := v
        refine r_ald B a_237 (by decide) h24 dX11_dueIn_46 ?_
        refine r_i2l B dX11_dueIn_47 ((hI _ _)) ?_
        refine r_lload_n B dX11_dueIn_48 rfl rfl ?_
        refine r_lcmp_ge B (tgt := 57) dX11_dueIn_49 dX11_dueIn_50 (by decide) ((rg_64 ((hI _ _)))) h3 (fun h => ?_) (fun h => ?_)
        · have v := v.1 h
          refine r_iconst B dX11_dueIn_57 ?_
          refine r_iadd B dX11_dueIn_58 ?_
          refine r_istore B dX11_dueIn_59 (by decide) (lv' := [(5, .int (i2 (x5 + 0))), (0, .ref (eA E 236)), (1, .long (l2 x1)), (3, .long (l2 x3)), (6, .int (i2 x6))]) rfl ?_
          refine r_sub [1, 2, 3, 0, 4] rfl ?_
          refine r_iinc B (q := 4) dX11_dueIn_61 (by decide) rfl (lv' := [(6, .int (i2 (x6 + 1))), (0, .ref (eA E 236)), (1, .long (l2 x1)), (3, .long (l2 x3)), (5, .int (i2 (x5 + 0)))]) rfl ?_
          refine r_sub [1, 2, 3, 4, 0] rfl ?_
          refine r_goto B (tgt := 6) dX11_dueIn_64 (by decide) ?_
          obtain ⟨h25, v⟩ := v
          obtain ⟨h26, v⟩ := v
          refine r_sub [0, 1, 2, 3, 4] rfl ?_
          exact ih (x5 + 0) (x6 + 1) _ hI h25 h26 v
        · have v := v.2 h
          refine r_iconst B dX11_dueIn_53 ?_
          refine r_goto B (tgt := 58) dX11_dueIn_54 (by decide) ?_
          refine r_iadd B dX11_dueIn_58 ?_
          refine r_istore B dX11_dueIn_59 (by decide) (lv' := [(5, .int (i2 (x5 + 1))), (0, .ref (eA E 236)), (1, .long (l2 x1)), (3, .long (l2 x3)), (6, .int (i2 x6))]) rfl ?_
          refine r_sub [1, 2, 3, 0, 4] rfl ?_
          refine r_iinc B (q := 4) dX11_dueIn_61 (by decide) rfl (lv' := [(6, .int (i2 (x6 + 1))), (0, .ref (eA E 236)), (1, .long (l2 x1)), (3, .long (l2 x3)), (5, .int (i2 (x5 + 1)))]) rfl ?_
          refine r_sub [1, 2, 3, 4, 0] rfl ?_
          refine r_goto B (tgt := 6) dX11_dueIn_64 (by decide) ?_
          obtain ⟨h27, v⟩ := v
          obtain ⟨h28, v⟩ := v
          refine r_sub [0, 1, 2, 3, 4] rfl ?_
          exact ih (x5 + 1) (x6 + 1) _ hI h27 h28 v
set_option maxHeartbeats 4000000 in
set_option maxRecDepth 100000 in
theorem c_M_dueIn {l : Launch} {E : En} {A : Nat → Prop} (x1 : Int) (x3 : Int) (I : Mm)  (hI : rgM I) (h1 : r64 x1) (h3 : r64 x3) : CI l E A yX11_dueIn cX11_dueIn 7 .int 0 0 [.ref (eA E 236), .long (l2 x1), .long (l2 x3)] I (V_M_dueIn x1 x3 I) := by
  intro Q v
  refine mk_met (own := RX11) (lv0 := [(0, .ref (eA E 236)), (1, .long (l2 x1)), (3, .long (l2 x3))]) (by decide) rfl (Nat.le_of_ble_eq_true rfl) rfl (fun p e s m args below meth c0 B hr hk => ?_)
  unfold V_M_dueIn at v
  refine r_iconst B dX11_dueIn_0 ?_
  refine r_istore B dX11_dueIn_1 (by decide) (lv' := [(5, .int (i2 0)), (0, .ref (eA E 236)), (1, .long (l2 x1)), (3, .long (l2 x3))]) rfl ?_
  refine r_sub [1, 2, 3, 0] rfl ?_
  refine r_iconst B dX11_dueIn_3 ?_
  refine r_istore B dX11_dueIn_4 (by decide) (lv' := [(6, .int (i2 0)), (0, .ref (eA E 236)), (1, .long (l2 x1)), (3, .long (l2 x3)), (5, .int (i2 0))]) rfl ?_
  refine r_sub [1, 2, 3, 4, 0] rfl ?_
  obtain ⟨f29, v⟩ := v
  refine r_sub [0, 1, 2, 3, 4] rfl ?_
  exact wL_M_dueIn_6 B hr hk h1 h3 f29 0 0 I hI ((rg_lit (by decide) (by decide))) ((rg_lit (by decide) (by decide))) v
set_option maxHeartbeats 4000000 in
set_option maxRecDepth 100000 in
theorem c_M_between {l : Launch} {E : En} {A : Nat → Prop} (x1 : Int) (x2 : Int) (I : Mm)  (hI : rgM I) (h1 : r32 x1) (h2 : r32 x2) : CI l E A yX11_between cX11_between 3 .int 1 26 [.ref (eA E 236), .int (i2 x1), .int (i2 x2)] I (V_M_between x1 x2 I) := by
  intro Q v
  refine mk_met (own := RX11) (lv0 := [(0, .ref (eA E 236)), (1, .int (i2 x1)), (2, .int (i2 x2))]) (by decide) rfl (Nat.le_of_ble_eq_true rfl) rfl (fun p e s m args below meth c0 B hr hk => ?_)
  unfold V_M_between at v
  refine r_iload_n B dX11_between_0 rfl rfl ?_
  refine r_i2l B dX11_between_1 h1 ?_
  refine r_lconst B 0 dX11_between_2 (by decide) ?_
  refine r_ldc2 B (1000000000) dX11_between_3 wc_X11_207 (by decide) ?_
  refine r_sI B (st := []) (as := [.long (l2 x1), .long (l2 0), .long (l2 1000000000)]) (c_M_in x1 0 1000000000 _ hI ((rg_64 h1)) ((show r64 (0) by exact ⟨by decide, by decide⟩)) ((show r64 (1000000000) by exact ⟨by decide, by decide⟩))) v mw_M_in wl_X11_55 ⟨Nat.le_of_ble_eq_true rfl, Nat.le_of_ble_eq_true rfl⟩ rfl rfl (Nat.le_of_ble_eq_true rfl) dX11_between_6 (fun z21 I22 hz21 hI22 v => ?_)
  refine r_if_eq B (tgt := 40) dX11_between_9 (by decide) hz21 (fun h => ?_) (fun h => ?_)
  · have v := v.1 h
    refine r_iconst B dX11_between_40 ?_
    exact r_iret B hr hk rfl ((rg_lit (by decide) (by decide))) hI22 v dX11_between_41
  · have v := v.2 h
    refine r_iload_n B dX11_between_12 rfl rfl ?_
    refine r_i2l B dX11_between_13 h2 ?_
    refine r_lconst B 0 dX11_between_14 (by decide) ?_
    refine r_ldc2 B (1000000000) dX11_between_15 wc_X11_207 (by decide) ?_
    refine r_sI B (st := []) (as := [.long (l2 x2), .long (l2 0), .long (l2 1000000000)]) (c_M_in x2 0 1000000000 _ hI22 ((rg_64 h2)) ((show r64 (0) by exact ⟨by decide, by decide⟩)) ((show r64 (1000000000) by exact ⟨by decide, by decide⟩))) v mw_M_in wl_X11_55 ⟨Nat.le_of_ble_eq_true rfl, Nat.le_of_ble_eq_true rfl⟩ rfl rfl (Nat.le_of_ble_eq_true rfl) dX11_between_18 (fun z23 I24 hz23 hI24 v => ?_)
    refine r_if_eq B (tgt := 40) dX11_between_21 (by decide) hz23 (fun h => ?_) (fun h => ?_)
    · have v := v.1 h
      refine r_iconst B dX11_between_40 ?_
      exact r_iret B hr hk rfl ((rg_lit (by decide) (by decide))) hI24 v dX11_between_41
    · have v := v.2 h
      refine r_iload_n B dX11_between_24 rfl rfl ?_
      refine r_iload_n B dX11_between_25 rfl rfl ?_
      refine r_icmp_le B (tgt := 40) dX11_between_26 (by decide) h2 h1 (fun h => ?_) (fun h => ?_)
      · have v := v.1 h
        refine r_iconst B dX11_between_40 ?_
        exact r_iret B hr hk rfl ((rg_lit (by decide) (by decide))) hI24 v dX11_between_41
      · have v := v.2 h
        refine r_aload_n B dX11_between_29 rfl rfl ?_
        refine r_iload_n B dX11_between_30 rfl rfl ?_
        refine r_i2l B dX11_between_31 h1 ?_
        refine r_iload_n B dX11_between_32 rfl rfl ?_
        refine r_i2l B dX11_between_33 h2 ?_
        refine r_cI B (st := []) (as := [.long (l2 x1), .long (l2 x2)]) (T := TX11) (N := 25) (c_M_dueIn x1 x2 _ hI24 ((rg_64 h1)) ((rg_64 h2))) v o_236 rfl mw_M_dueIn wl_X11_209 ⟨Nat.le_of_ble_eq_true rfl, Nat.le_of_ble_eq_true rfl⟩ rfl rfl (Nat.le_of_ble_eq_true rfl) dX11_between_34 (fun z25 I26 hz25 hI26 v => ?_)
        refine r_goto B (tgt := 41) dX11_between_37 (by decide) ?_
        exact r_iret B hr hk rfl hz25 hI26 v dX11_between_41
set_option maxHeartbeats 4000000 in
set_option maxRecDepth 100000 in
theorem wL_M_crowd_33 {p : Program} {l : Launch} {e : Env} {s : State} {m : MethodId} {args : Array Value} {below : List Frame} {meth : Method} {c0 : Code} {E : En} {A : Nat → Prop} {x1 : Int} {x2 : Int} {Q : Int → Mm → Prop}  (B : Bd p (rmm 1 26) s m args c0 cX11_crowd 7 RX11 E A 0 0) (hr : meth.sig.returnType = some .int) (hk : meth.locks = false) (h1 : r32 x1) (h2 : r32 x2)   : ∀ (n : Nat) (x3 : Int) (x4 : Int) (x5 : Int) (I : Mm), rgM I → r32 x3 → r32 x4 → r32 x5 → L_M_crowd_33 x1 x2 Q n x3 x4 x5 I → WI p l e (rmm 1 26) s m args below meth c0 E A 7 0 0 (qI below E A args s Q) I 33 [(0, .ref (eA E 236)), (1, .int (i2 x1)), (2, .int (i2 x2)), (3, .int (i2 x3)), (4, .int (i2 x4)), (5, .int (i2 x5))] [] := by
  intro n
  induction n with
  | zero => intro x3 x4 x5 I _ _ _ _ v; exact absurd v id
  | succ n ih =>
    intro x3 x4 x5 I hI h3 h4 h5 v
    unfold L_M_crowd_33 at v
    refine r_iload B dX11_crowd_33 rfl ?_
    refine r_aload_n B dX11_crowd_35 rfl rfl ?_
    refine r_getR B (C := RX11) (T := TX11) (N := 25) o_236 0 rfl win_X11 (by decide) rfl wf_X11_7 dX11_crowd_36 ?_
    refine r_iconst B dX11_crowd_39 ?_
    refine r_ald B a_237 (by decide) (by decide) dX11_crowd_40 ?_
    refine r_icmp_ge B (tgt := 108) dX11_crowd_41 (by decide) h5 ((hI _ _)) (fun h => ?_) (fun h => ?_)
    · have v := v.1 h
      refine r_iload_n B dX11_crowd_108 rfl rfl ?_
      refine r_if_ne B (tgt := 116) dX11_crowd_109 (by decide) h2 (fun h => ?_) (fun h => ?_)
      · have v := v.1 h
        refine r_iload B dX11_crowd_116 rfl ?_
        exact r_iret B hr hk rfl h4 hI v dX11_crowd_118
      · have v := v.2 h
        refine r_iload_n B dX11_crowd_112 rfl rfl ?_
        refine r_goto B (tgt := 118) dX11_crowd_113 (by decide) ?_
        exact r_iret B hr hk rfl h3 hI v dX11_crowd_118
    · have v := v.2 h
      refine r_aload_n B dX11_crowd_44 rfl rfl ?_
      refine r_aload_n B dX11_crowd_45 rfl rfl ?_
      refine r_getR B (C := RX11) (T := TX11) (N := 25) o_236 0 rfl win_X11 (by decide) rfl wf_X11_7 dX11_crowd_46 ?_
      refine r_sipush B dX11_crowd_49 (by decide) ?_
      refine r_iload B dX11_crowd_52 rfl ?_
      refine r_iadd B dX11_crowd_54 ?_
      obtain ⟨h25, v⟩ := v
      refine r_ald B a_237 (by decide) h25 dX11_crowd_55 ?_
      refine r_i2l B dX11_crowd_56 ((hI _ _)) ?_
      refine r_aload_n B dX11_crowd_57 rfl rfl ?_
      refine r_getR B (C := RX11) (T := TX11) (N := 25) o_236 0 rfl win_X11 (by decide) rfl wf_X11_7 dX11_crowd_58 ?_
      refine r_sipush B dX11_crowd_61 (by decide) ?_
      refine r_iload B dX11_crowd_64 rfl ?_
      refine r_iadd B dX11_crowd_66 ?_
      obtain ⟨h26, v⟩ := v
      refine r_ald B a_237 (by decide) h26 dX11_crowd_67 ?_
      refine r_i2l B dX11_crowd_68 ((hI _ _)) ?_
      refine r_iload_n B dX11_crowd_69 rfl rfl ?_
      refine r_i2l B dX11_crowd_70 h1 ?_
      refine r_ladd B dX11_crowd_71 ?_
      obtain ⟨h27, v⟩ := v
      refine r_cI B (st := []) (as := [.long (l2 (I 237 (780 + x5))), .long (l2 (I 237 (780 + x5) + x1))]) (T := TX11) (N := 25) (c_M_dueIn (I 237 (780 + x5)) (I 237 (780 + x5) + x1) _ hI ((rg_64 ((hI _ _)))) h27) v o_236 rfl mw_M_dueIn wl_X11_209 ⟨Nat.le_of_ble_eq_true rfl, Nat.le_of_ble_eq_true rfl⟩ rfl rfl (Nat.le_of_ble_eq_true rfl) dX11_crowd_72 (fun z28 I29 hz28 hI29 v => ?_)
      refine r_istore B dX11_crowd_75 (by decide) (lv' := [(6, .int (i2 z28)), (0, .ref (eA E 236)), (1, .int (i2 x1)), (2, .int (i2 x2)), (3, .int (i2 x3)), (4, .int (i2 x4)), (5, .int (i2 x5))]) rfl ?_
      refine r_sub [1, 2, 3, 4, 5, 6, 0] rfl ?_
      refine r_iload B dX11_crowd_77 rfl ?_
      refine r_iload_n B dX11_crowd_79 rfl rfl ?_
      refine r_icmp_gt B (tgt := 86) dX11_crowd_80 (by decide) hz28 h3 (fun h => ?_) (fun h => ?_)
      · have v := v.1 h
        refine r_iload B dX11_crowd_86 rfl ?_
        refine r_istore_n B dX11_crowd_88 rfl (by decide) (lv' := [(3, .int (i2 z28)), (0, .ref (eA E 236)), (1, .int (i2 x1)), (2, .int (i2 x2)), (4, .int (i2 x4)), (5, .int (i2 x5)), (6, .int (i2 z28))]) rfl ?_
        refine r_sub [1, 2, 3, 0, 4, 5, 6] rfl ?_
        refine r_aload_n B dX11_crowd_89 rfl rfl ?_
        refine r_getR B (C := RX11) (T := TX11) (N := 25) o_236 0 rfl win_X11 (by decide) rfl wf_X11_7 dX11_crowd_90 ?_
        refine r_sipush B dX11_crowd_93 (by decide) ?_
        refine r_iload B dX11_crowd_96 rfl ?_
        refine r_iadd B dX11_crowd_98 ?_
        obtain ⟨h30, v⟩ := v
        refine r_ald B a_237 (by decide) h30 dX11_crowd_99 ?_
        refine r_istore B dX11_crowd_100 (by decide) (lv' := [(4, .int (i2 (I29 237 (780 + x5)))), (0, .ref (eA E 236)), (1, .int (i2 x1)), (2, .int (i2 x2)), (3, .int (i2 z28)), (5, .int (i2 x5)), (6, .int (i2 z28))]) rfl ?_
        refine r_sub [1, 2, 3, 4, 0, 5, 6] rfl ?_
        refine r_iinc B (q := 5) dX11_crowd_102 (by decide) rfl (lv' := [(5, .int (i2 (x5 + 1))), (0, .ref (eA E 236)), (1, .int (i2 x1)), (2, .int (i2 x2)), (3, .int (i2 z28)), (4, .int (i2 (I29 237 (780 + x5)))), (6, .int (i2 z28))]) rfl ?_
        refine r_sub [1, 2, 3, 4, 5, 0, 6] rfl ?_
        refine r_goto B (tgt := 33) dX11_crowd_105 (by decide) ?_
        obtain ⟨h31, v⟩ := v
        refine r_sub [0, 1, 2, 3, 4, 5] rfl ?_
        exact ih z28 (I29 237 (780 + x5)) (x5 + 1) _ hI29 hz28 ((hI29 _ _)) h31 v
      · have v := v.2 h
        refine r_goto B (tgt := 102) dX11_crowd_83 (by decide) ?_
        refine r_iinc B (q := 5) dX11_crowd_102 (by decide) rfl (lv' := [(5, .int (i2 (x5 + 1))), (0, .ref (eA E 236)), (1, .int (i2 x1)), (2, .int (i2 x2)), (3, .int (i2 x3)), (4, .int (i2 x4)), (6, .int (i2 z28))]) rfl ?_
        refine r_sub [1, 2, 3, 4, 5, 0, 6] rfl ?_
        refine r_goto B (tgt := 33) dX11_crowd_105 (by decide) ?_
        obtain ⟨h32, v⟩ := v
        refine r_sub [0, 1, 2, 3, 4, 5] rfl ?_
        exact ih x3 x4 (x5 + 1) _ hI29 h3 h4 h32 v
set_option maxHeartbeats 4000000 in
set_option maxRecDepth 100000 in
theorem c_M_crowd {l : Launch} {E : En} {A : Nat → Prop} (x1 : Int) (x2 : Int) (I : Mm)  (hI : rgM I) (h1 : r32 x1) (h2 : r32 x2) : CI l E A yX11_crowd cX11_crowd 7 .int 1 26 [.ref (eA E 236), .int (i2 x1), .int (i2 x2)] I (V_M_crowd x1 x2 I) := by
  intro Q v
  refine mk_met (own := RX11) (lv0 := [(0, .ref (eA E 236)), (1, .int (i2 x1)), (2, .int (i2 x2))]) (by decide) rfl (Nat.le_of_ble_eq_true rfl) rfl (fun p e s m args below meth c0 B hr hk => ?_)
  unfold V_M_crowd at v
  refine r_iload_n B dX11_crowd_0 rfl rfl ?_
  refine r_i2l B dX11_crowd_1 h1 ?_
  refine r_lconst B 1 dX11_crowd_2 (by decide) ?_
  refine r_ldc2 B (999999999) dX11_crowd_3 wc_X11_115 (by decide) ?_
  refine r_sI B (st := []) (as := [.long (l2 x1), .long (l2 1), .long (l2 999999999)]) (c_M_in x1 1 999999999 _ hI ((rg_64 h1)) ((show r64 (1) by exact ⟨by decide, by decide⟩)) ((show r64 (999999999) by exact ⟨by decide, by decide⟩))) v mw_M_in wl_X11_55 ⟨Nat.le_of_ble_eq_true rfl, Nat.le_of_ble_eq_true rfl⟩ rfl rfl (Nat.le_of_ble_eq_true rfl) dX11_crowd_6 (fun z21 I22 hz21 hI22 v => ?_)
  refine r_if_eq B (tgt := 22) dX11_crowd_9 (by decide) hz21 (fun h => ?_) (fun h => ?_)
  · have v := v.1 h
    refine r_iconst B dX11_crowd_22 ?_
    exact r_iret B hr hk rfl ((rg_lit (by decide) (by decide))) hI22 v dX11_crowd_23
  · have v := v.2 h
    refine r_iload_n B dX11_crowd_12 rfl rfl ?_
    refine r_i2l B dX11_crowd_13 h2 ?_
    refine r_lconst B 0 dX11_crowd_14 (by decide) ?_
    refine r_lconst B 1 dX11_crowd_15 (by decide) ?_
    refine r_sI B (st := []) (as := [.long (l2 x2), .long (l2 0), .long (l2 1)]) (c_M_in x2 0 1 _ hI22 ((rg_64 h2)) ((show r64 (0) by exact ⟨by decide, by decide⟩)) ((show r64 (1) by exact ⟨by decide, by decide⟩))) v mw_M_in wl_X11_55 ⟨Nat.le_of_ble_eq_true rfl, Nat.le_of_ble_eq_true rfl⟩ rfl rfl (Nat.le_of_ble_eq_true rfl) dX11_crowd_16 (fun z23 I24 hz23 hI24 v => ?_)
    refine r_if_ne B (tgt := 24) dX11_crowd_19 (by decide) hz23 (fun h => ?_) (fun h => ?_)
    · have v := v.1 h
      refine r_iconst B dX11_crowd_24 ?_
      refine r_istore_n B dX11_crowd_25 rfl (by decide) (lv' := [(3, .int (i2 0)), (0, .ref (eA E 236)), (1, .int (i2 x1)), (2, .int (i2 x2))]) rfl ?_
      refine r_sub [1, 2, 3, 0] rfl ?_
      refine r_bipush B dX11_crowd_26 (by decide) ?_
      refine r_istore B dX11_crowd_28 (by decide) (lv' := [(4, .int (i2 (-2))), (0, .ref (eA E 236)), (1, .int (i2 x1)), (2, .int (i2 x2)), (3, .int (i2 0))]) rfl ?_
      refine r_sub [1, 2, 3, 4, 0] rfl ?_
      refine r_iconst B dX11_crowd_30 ?_
      refine r_istore B dX11_crowd_31 (by decide) (lv' := [(5, .int (i2 0)), (0, .ref (eA E 236)), (1, .int (i2 x1)), (2, .int (i2 x2)), (3, .int (i2 0)), (4, .int (i2 (-2)))]) rfl ?_
      refine r_sub [1, 2, 3, 4, 5, 0] rfl ?_
      obtain ⟨f33, v⟩ := v
      refine r_sub [0, 1, 2, 3, 4, 5] rfl ?_
      exact wL_M_crowd_33 B hr hk h1 h2 f33 0 (-2) 0 I24 hI24 ((rg_lit (by decide) (by decide))) ((rg_lit (by decide) (by decide))) ((rg_lit (by decide) (by decide))) v
    · have v := v.2 h
      refine r_iconst B dX11_crowd_22 ?_
      exact r_iret B hr hk rfl ((rg_lit (by decide) (by decide))) hI24 v dX11_crowd_23
set_option maxHeartbeats 4000000 in
set_option maxRecDepth 100000 in
theorem wL_M_day_18 {p : Program} {l : Launch} {e : Env} {s : State} {m : MethodId} {args : Array Value} {below : List Frame} {meth : Method} {c0 : Code} {E : En} {A : Nat → Prop} {x1 : Int} {Q : Int → Mm → Prop}  (B : Bd p (rmm 1 25) s m args c0 cX11_day 4 RX11 E A 0 0) (hr : meth.sig.returnType = some .int) (hk : meth.locks = false) (h1 : r32 x1)   : ∀ (n : Nat) (x2 : Int) (x3 : Int) (I : Mm), rgM I → r32 x2 → r32 x3 → L_M_day_18 x1 Q n x2 x3 I → WI p l e (rmm 1 25) s m args below meth c0 E A 4 0 0 (qI below E A args s Q) I 18 [(0, .ref (eA E 236)), (1, .int (i2 x1)), (2, .int (i2 x2)), (3, .int (i2 x3))] [] := by
  intro n
  induction n with
  | zero => intro x2 x3 I _ _ _ v; exact absurd v id
  | succ n ih =>
    intro x2 x3 I hI h2 h3 v
    unfold L_M_day_18 at v
    refine r_iload_n B dX11_day_18 rfl rfl ?_
    refine r_aload_n B dX11_day_19 rfl rfl ?_
    refine r_getR B (C := RX11) (T := TX11) (N := 25) o_236 0 rfl win_X11 (by decide) rfl wf_X11_7 dX11_day_20 ?_
    refine r_iconst B dX11_day_23 ?_
    refine r_ald B a_237 (by decide) (by decide) dX11_day_24 ?_
    refine r_icmp_ge B (tgt := 77) dX11_day_25 (by decide) h3 ((hI _ _)) (fun h => ?_) (fun h => ?_)
    · have v := v.1 h
      refine r_iload_n B dX11_day_77 rfl rfl ?_
      exact r_iret B hr hk rfl h2 hI v dX11_day_78
    · have v := v.2 h
      refine r_iload_n B dX11_day_28 rfl rfl ?_
      refine r_aload_n B dX11_day_29 rfl rfl ?_
      refine r_getR B (C := RX11) (T := TX11) (N := 25) o_236 0 rfl win_X11 (by decide) rfl wf_X11_7 dX11_day_30 ?_
      refine r_sipush B dX11_day_33 (by decide) ?_
      refine r_iload_n B dX11_day_36 rfl rfl ?_
      refine r_iadd B dX11_day_37 ?_
      obtain ⟨h23, v⟩ := v
      refine r_ald B a_237 (by decide) h23 dX11_day_38 ?_
      refine r_aload_n B dX11_day_39 rfl rfl ?_
      refine r_getR B (C := RX11) (T := TX11) (N := 25) o_236 0 rfl win_X11 (by decide) rfl wf_X11_7 dX11_day_40 ?_
      refine r_iconst B dX11_day_43 ?_
      refine r_ald B a_237 (by decide) (by decide) dX11_day_44 ?_
      obtain ⟨h24, v⟩ := v
      refine r_idiv B dX11_day_45 ((hI _ _)) ((hI _ _)) h24 ?_
      refine r_aload_n B dX11_day_46 rfl rfl ?_
      refine r_getR B (C := RX11) (T := TX11) (N := 25) o_236 0 rfl win_X11 (by decide) rfl wf_X11_7 dX11_day_47 ?_
      refine r_iconst B dX11_day_50 ?_
      refine r_ald B a_237 (by decide) (by decide) dX11_day_51 ?_
      refine r_aload_n B dX11_day_52 rfl rfl ?_
      refine r_getR B (C := RX11) (T := TX11) (N := 25) o_236 0 rfl win_X11 (by decide) rfl wf_X11_7 dX11_day_53 ?_
      refine r_iconst B dX11_day_56 ?_
      refine r_ald B a_237 (by decide) (by decide) dX11_day_57 ?_
      obtain ⟨h25, v⟩ := v
      refine r_idiv B dX11_day_58 ((hI _ _)) ((hI _ _)) h25 ?_
      refine r_iload_n B dX11_day_59 rfl rfl ?_
      refine r_iadd B dX11_day_60 ?_
      obtain ⟨h26, v⟩ := v
      refine r_icmp_ne B (tgt := 68) dX11_day_61 (by decide) ((rg_div ((hI _ _)) h24.1 h24.2)) h26 (fun h => ?_) (fun h => ?_)
      · have v := v.1 h
        refine r_iconst B dX11_day_68 ?_
        refine r_iadd B dX11_day_69 ?_
        refine r_istore_n B dX11_day_70 rfl (by decide) (lv' := [(2, .int (i2 (x2 + 0))), (0, .ref (eA E 236)), (1, .int (i2 x1)), (3, .int (i2 x3))]) rfl ?_
        refine r_sub [1, 2, 0, 3] rfl ?_
        refine r_iinc B (q := 3) dX11_day_71 (by decide) rfl (lv' := [(3, .int (i2 (x3 + 1))), (0, .ref (eA E 236)), (1, .int (i2 x1)), (2, .int (i2 (x2 + 0)))]) rfl ?_
        refine r_sub [1, 2, 3, 0] rfl ?_
        refine r_goto B (tgt := 18) dX11_day_74 (by decide) ?_
        obtain ⟨h27, v⟩ := v
        obtain ⟨h28, v⟩ := v
        refine r_sub [0, 1, 2, 3] rfl ?_
        exact ih (x2 + 0) (x3 + 1) _ hI h27 h28 v
      · have v := v.2 h
        refine r_iconst B dX11_day_64 ?_
        refine r_goto B (tgt := 69) dX11_day_65 (by decide) ?_
        refine r_iadd B dX11_day_69 ?_
        refine r_istore_n B dX11_day_70 rfl (by decide) (lv' := [(2, .int (i2 (x2 + 1))), (0, .ref (eA E 236)), (1, .int (i2 x1)), (3, .int (i2 x3))]) rfl ?_
        refine r_sub [1, 2, 0, 3] rfl ?_
        refine r_iinc B (q := 3) dX11_day_71 (by decide) rfl (lv' := [(3, .int (i2 (x3 + 1))), (0, .ref (eA E 236)), (1, .int (i2 x1)), (2, .int (i2 (x2 + 1)))]) rfl ?_
        refine r_sub [1, 2, 3, 0] rfl ?_
        refine r_goto B (tgt := 18) dX11_day_74 (by decide) ?_
        obtain ⟨h29, v⟩ := v
        obtain ⟨h30, v⟩ := v
        refine r_sub [0, 1, 2, 3] rfl ?_
        exact ih (x2 + 1) (x3 + 1) _ hI h29 h30 v
set_option maxHeartbeats 4000000 in
set_option maxRecDepth 100000 in
theorem c_M_day {l : Launch} {E : En} {A : Nat → Prop} (x1 : Int) (I : Mm)  (hI : rgM I) (h1 : r32 x1) : CI l E A yX11_day cX11_day 4 .int 1 25 [.ref (eA E 236), .int (i2 x1)] I (V_M_day x1 I) := by
  intro Q v
  refine mk_met (own := RX11) (lv0 := [(0, .ref (eA E 236)), (1, .int (i2 x1))]) (by decide) rfl (Nat.le_of_ble_eq_true rfl) rfl (fun p e s m args below meth c0 B hr hk => ?_)
  unfold V_M_day at v
  refine r_iload_n B dX11_day_0 rfl rfl ?_
  refine r_i2l B dX11_day_1 h1 ?_
  refine r_lconst B 0 dX11_day_2 (by decide) ?_
  refine r_ldc2 B (999) dX11_day_3 wc_X11_213 (by decide) ?_
  refine r_sI B (st := []) (as := [.long (l2 x1), .long (l2 0), .long (l2 999)]) (c_M_in x1 0 999 _ hI ((rg_64 h1)) ((show r64 (0) by exact ⟨by decide, by decide⟩)) ((show r64 (999) by exact ⟨by decide, by decide⟩))) v mw_M_in wl_X11_55 ⟨Nat.le_of_ble_eq_true rfl, Nat.le_of_ble_eq_true rfl⟩ rfl rfl (Nat.le_of_ble_eq_true rfl) dX11_day_6 (fun z21 I22 hz21 hI22 v => ?_)
  refine r_if_ne B (tgt := 14) dX11_day_9 (by decide) hz21 (fun h => ?_) (fun h => ?_)
  · have v := v.1 h
    refine r_iconst B dX11_day_14 ?_
    refine r_istore_n B dX11_day_15 rfl (by decide) (lv' := [(2, .int (i2 0)), (0, .ref (eA E 236)), (1, .int (i2 x1))]) rfl ?_
    refine r_sub [1, 2, 0] rfl ?_
    refine r_iconst B dX11_day_16 ?_
    refine r_istore_n B dX11_day_17 rfl (by decide) (lv' := [(3, .int (i2 0)), (0, .ref (eA E 236)), (1, .int (i2 x1)), (2, .int (i2 0))]) rfl ?_
    refine r_sub [1, 2, 3, 0] rfl ?_
    obtain ⟨f31, v⟩ := v
    refine r_sub [0, 1, 2, 3] rfl ?_
    exact wL_M_day_18 B hr hk h1 f31 0 0 I22 hI22 ((rg_lit (by decide) (by decide))) ((rg_lit (by decide) (by decide))) v
  · have v := v.2 h
    refine r_iconst B dX11_day_12 ?_
    exact r_iret B hr hk rfl ((rg_lit (by decide) (by decide))) hI22 v dX11_day_13
set_option maxHeartbeats 4000000 in
set_option maxRecDepth 100000 in
theorem wL_M_free_32 {p : Program} {l : Launch} {e : Env} {s : State} {m : MethodId} {args : Array Value} {below : List Frame} {meth : Method} {c0 : Code} {E : En} {A : Nat → Prop} {x1 : Int} {x2 : Int} {Q : Int → Mm → Prop} {K101 : Int → Mm → Prop} (B : Bd p (rmm 1 25) s m args c0 cX11_free 6 RX11 E A 0 0) (hr : meth.sig.returnType = some .int) (hk : meth.locks = false) (h1 : r32 x1) (h2 : r32 x2)  (k101 : ∀ (x3 : Int) (I : Mm), rgM I → K101 x3 I → WI p l e (rmm 1 25) s m args below meth c0 E A 6 0 0 (qI below E A args s Q) I 101 [(1, .int (i2 x1)), (3, .long (l2 x3))] []) : ∀ (n : Nat) (x3 : Int) (x5 : Int) (I : Mm), rgM I → r32 x5 → L_M_free_32 x1 x2 Q K101 n x3 x5 I → WI p l e (rmm 1 25) s m args below meth c0 E A 6 0 0 (qI below E A args s Q) I 32 [(0, .ref (eA E 236)), (1, .int (i2 x1)), (3, .long (l2 x3)), (5, .int (i2 x5))] [] := by
  intro n
  induction n with
  | zero => intro x3 x5 I _ _ v; exact absurd v id
  | succ n ih =>
    intro x3 x5 I hI h5 v
    unfold L_M_free_32 at v
    refine r_iload B dX11_free_32 rfl ?_
    refine r_aload_n B dX11_free_34 rfl rfl ?_
    refine r_getR B (C := RX11) (T := TX11) (N := 25) o_236 0 rfl win_X11 (by decide) rfl wf_X11_7 dX11_free_35 ?_
    refine r_iconst B dX11_free_38 ?_
    refine r_ald B a_237 (by decide) (by decide) dX11_free_39 ?_
    refine r_icmp_ge B (tgt := 101) dX11_free_40 (by decide) h5 ((hI _ _)) (fun h => ?_) (fun h => ?_)
    · have v := v.1 h
      refine r_sub [1, 2] rfl ?_
      exact k101 x3 _ hI v
    · have v := v.2 h
      refine r_aload_n B dX11_free_43 rfl rfl ?_
      refine r_getR B (C := RX11) (T := TX11) (N := 25) o_236 0 rfl win_X11 (by decide) rfl wf_X11_7 dX11_free_44 ?_
      refine r_sipush B dX11_free_47 (by decide) ?_
      refine r_iload B dX11_free_50 rfl ?_
      refine r_iadd B dX11_free_52 ?_
      obtain ⟨h25, v⟩ := v
      refine r_ald B a_237 (by decide) h25 dX11_free_53 ?_
      refine r_i2l B dX11_free_54 ((hI _ _)) ?_
      refine r_lload_n B dX11_free_55 rfl rfl ?_
      obtain ⟨h26, v⟩ := v
      refine r_lcmp_lt B (tgt := 95) dX11_free_56 dX11_free_57 (by decide) ((rg_64 ((hI _ _)))) h26 (fun h => ?_) (fun h => ?_)
      · have v := v.1 h
        refine r_iinc B (q := 3) dX11_free_95 (by decide) rfl (lv' := [(5, .int (i2 (x5 + 1))), (0, .ref (eA E 236)), (1, .int (i2 x1)), (3, .long (l2 x3))]) rfl ?_
        refine r_sub [1, 2, 3, 0] rfl ?_
        refine r_goto B (tgt := 32) dX11_free_98 (by decide) ?_
        obtain ⟨h27, v⟩ := v
        refine r_sub [0, 1, 2, 3] rfl ?_
        exact ih x3 (x5 + 1) _ hI h27 v
      · have v := v.2 h
        refine r_aload_n B dX11_free_60 rfl rfl ?_
        refine r_getR B (C := RX11) (T := TX11) (N := 25) o_236 0 rfl win_X11 (by decide) rfl wf_X11_7 dX11_free_61 ?_
        refine r_sipush B dX11_free_64 (by decide) ?_
        refine r_iload B dX11_free_67 rfl ?_
        refine r_iadd B dX11_free_69 ?_
        obtain ⟨h28, v⟩ := v
        refine r_ald B a_237 (by decide) h28 dX11_free_70 ?_
        refine r_i2l B dX11_free_71 ((hI _ _)) ?_
        refine r_lload_n B dX11_free_72 rfl rfl ?_
        refine r_iload_n B dX11_free_73 rfl rfl ?_
        refine r_i2l B dX11_free_74 h1 ?_
        refine r_ladd B dX11_free_75 ?_
        obtain ⟨h29, v⟩ := v
        refine r_lcmp_ge B (tgt := 95) dX11_free_76 dX11_free_77 (by decide) ((rg_64 ((hI _ _)))) h29 (fun h => ?_) (fun h => ?_)
        · have v := v.1 h
          refine r_iinc B (q := 3) dX11_free_95 (by decide) rfl (lv' := [(5, .int (i2 (x5 + 1))), (0, .ref (eA E 236)), (1, .int (i2 x1)), (3, .long (l2 x3))]) rfl ?_
          refine r_sub [1, 2, 3, 0] rfl ?_
          refine r_goto B (tgt := 32) dX11_free_98 (by decide) ?_
          obtain ⟨h30, v⟩ := v
          refine r_sub [0, 1, 2, 3] rfl ?_
          exact ih x3 (x5 + 1) _ hI h30 v
        · have v := v.2 h
          refine r_aload_n B dX11_free_80 rfl rfl ?_
          refine r_getR B (C := RX11) (T := TX11) (N := 25) o_236 0 rfl win_X11 (by decide) rfl wf_X11_7 dX11_free_81 ?_
          refine r_sipush B dX11_free_84 (by decide) ?_
          refine r_iload B dX11_free_87 rfl ?_
          refine r_iadd B dX11_free_89 ?_
          obtain ⟨h31, v⟩ := v
          refine r_ald B a_237 (by decide) h31 dX11_free_90 ?_
          refine r_i2l B dX11_free_91 ((hI _ _)) ?_
          refine r_lconst B 1 dX11_free_92 (by decide) ?_
          refine r_ladd B dX11_free_93 ?_
          refine r_lstore_n B dX11_free_94 rfl (by decide) (lv' := [(3, .long (l2 (I 237 (780 + x5) + 1))), (0, .ref (eA E 236)), (1, .int (i2 x1)), (5, .int (i2 x5))]) rfl ?_
          refine r_sub [1, 2, 0, 3] rfl ?_
          refine r_iinc B (q := 3) dX11_free_95 (by decide) rfl (lv' := [(5, .int (i2 (x5 + 1))), (0, .ref (eA E 236)), (1, .int (i2 x1)), (3, .long (l2 (I 237 (780 + x5) + 1)))]) rfl ?_
          refine r_sub [1, 2, 3, 0] rfl ?_
          refine r_goto B (tgt := 32) dX11_free_98 (by decide) ?_
          obtain ⟨h32, v⟩ := v
          refine r_sub [0, 1, 2, 3] rfl ?_
          exact ih (I 237 (780 + x5) + 1) (x5 + 1) _ hI h32 v
set_option maxHeartbeats 4000000 in
set_option maxRecDepth 100000 in
theorem c_M_free {l : Launch} {E : En} {A : Nat → Prop} (x1 : Int) (x2 : Int) (I : Mm)  (hI : rgM I) (h1 : r32 x1) (h2 : r32 x2) : CI l E A yX11_free cX11_free 6 .int 1 25 [.ref (eA E 236), .int (i2 x1), .int (i2 x2)] I (V_M_free x1 x2 I) := by
  intro Q v
  refine mk_met (own := RX11) (lv0 := [(0, .ref (eA E 236)), (1, .int (i2 x1)), (2, .int (i2 x2))]) (by decide) rfl (Nat.le_of_ble_eq_true rfl) rfl (fun p e s m args below meth c0 B hr hk => ?_)
  unfold V_M_free at v
  refine r_iload_n B dX11_free_0 rfl rfl ?_
  refine r_i2l B dX11_free_1 h1 ?_
  refine r_lconst B 1 dX11_free_2 (by decide) ?_
  refine r_ldc2 B (999999999) dX11_free_3 wc_X11_115 (by decide) ?_
  refine r_sI B (st := []) (as := [.long (l2 x1), .long (l2 1), .long (l2 999999999)]) (c_M_in x1 1 999999999 _ hI ((rg_64 h1)) ((show r64 (1) by exact ⟨by decide, by decide⟩)) ((show r64 (999999999) by exact ⟨by decide, by decide⟩))) v mw_M_in wl_X11_55 ⟨Nat.le_of_ble_eq_true rfl, Nat.le_of_ble_eq_true rfl⟩ rfl rfl (Nat.le_of_ble_eq_true rfl) dX11_free_6 (fun z21 I22 hz21 hI22 v => ?_)
  refine r_if_eq B (tgt := 24) dX11_free_9 (by decide) hz21 (fun h => ?_) (fun h => ?_)
  · have v := v.1 h
    refine r_iconst B dX11_free_24 ?_
    exact r_iret B hr hk rfl ((rg_lit (by decide) (by decide))) hI22 v dX11_free_25
  · have v := v.2 h
    refine r_iload_n B dX11_free_12 rfl rfl ?_
    refine r_i2l B dX11_free_13 h2 ?_
    refine r_lconst B 0 dX11_free_14 (by decide) ?_
    refine r_ldc2 B (999999999) dX11_free_15 wc_X11_115 (by decide) ?_
    refine r_sI B (st := []) (as := [.long (l2 x2), .long (l2 0), .long (l2 999999999)]) (c_M_in x2 0 999999999 _ hI22 ((rg_64 h2)) ((show r64 (0) by exact ⟨by decide, by decide⟩)) ((show r64 (999999999) by exact ⟨by decide, by decide⟩))) v mw_M_in wl_X11_55 ⟨Nat.le_of_ble_eq_true rfl, Nat.le_of_ble_eq_true rfl⟩ rfl rfl (Nat.le_of_ble_eq_true rfl) dX11_free_18 (fun z23 I24 hz23 hI24 v => ?_)
    refine r_if_ne B (tgt := 26) dX11_free_21 (by decide) hz23 (fun h => ?_) (fun h => ?_)
    · have v := v.1 h
      refine r_iload_n B dX11_free_26 rfl rfl ?_
      refine r_i2l B dX11_free_27 h2 ?_
      refine r_lstore_n B dX11_free_28 rfl (by decide) (lv' := [(3, .long (l2 x2)), (0, .ref (eA E 236)), (1, .int (i2 x1)), (2, .int (i2 x2))]) rfl ?_
      refine r_sub [1, 2, 3, 0] rfl ?_
      refine r_iconst B dX11_free_29 ?_
      refine r_istore B dX11_free_30 (by decide) (lv' := [(5, .int (i2 0)), (0, .ref (eA E 236)), (1, .int (i2 x1)), (2, .int (i2 x2)), (3, .long (l2 x2))]) rfl ?_
      refine r_sub [1, 2, 3, 4, 0] rfl ?_
      obtain ⟨f37, v⟩ := v
      refine r_sub [0, 1, 3, 4] rfl ?_
      refine wL_M_free_32 B hr hk h1 h2 (fun y33 I34 hI34 v => ?_) f37 x2 0 I24 hI24 ((rg_lit (by decide) (by decide))) v
      · refine r_lload_n B dX11_free_101 rfl rfl ?_
        refine r_iload_n B dX11_free_102 rfl rfl ?_
        refine r_i2l B dX11_free_103 h1 ?_
        refine r_ladd B dX11_free_104 ?_
        refine r_lconst B 1 dX11_free_105 (by decide) ?_
        refine r_lsub B dX11_free_106 ?_
        refine r_ldc2 B (999999999) dX11_free_107 wc_X11_115 (by decide) ?_
        obtain ⟨h35, v⟩ := v
        refine r_lcmp_le B (tgt := 119) dX11_free_110 dX11_free_111 (by decide) h35 ((show r64 (999999999) by exact ⟨by decide, by decide⟩)) (fun h => ?_) (fun h => ?_)
        · have v := v.1 h
          refine r_lload_n B dX11_free_119 rfl rfl ?_
          refine r_l2i B dX11_free_120 ?_
          obtain ⟨h36, v⟩ := v
          exact r_iret B hr hk rfl h36 hI34 v dX11_free_121
        · have v := v.2 h
          refine r_bipush B dX11_free_114 (by decide) ?_
          refine r_goto B (tgt := 121) dX11_free_116 (by decide) ?_
          exact r_iret B hr hk rfl ((rg_lit (by decide) (by decide))) hI34 v dX11_free_121
    · have v := v.2 h
      refine r_iconst B dX11_free_24 ?_
      exact r_iret B hr hk rfl ((rg_lit (by decide) (by decide))) hI24 v dX11_free_25
set_option maxHeartbeats 4000000 in
set_option maxRecDepth 100000 in
theorem wL_M_pair_29 {p : Program} {l : Launch} {e : Env} {s : State} {m : MethodId} {args : Array Value} {below : List Frame} {meth : Method} {c0 : Code} {E : En} {A : Nat → Prop} {x1 : Int} {Q : Int → Mm → Prop} {K66 : Int → Mm → Prop} (B : Bd p (rmm 1 25) s m args c0 cX11_pair 4 RX11 E A 0 0) (hr : meth.sig.returnType = some .int) (hk : meth.locks = false) (h1 : r32 x1)  (k66 : ∀ (x2 : Int) (I : Mm), rgM I → r32 x2 → K66 x2 I → WI p l e (rmm 1 25) s m args below meth c0 E A 4 0 0 (qI below E A args s Q) I 66 [(0, .ref (eA E 236)), (1, .int (i2 x1)), (2, .int (i2 x2))] []) : ∀ (n : Nat) (x2 : Int) (x3 : Int) (I : Mm), rgM I → r32 x2 → r32 x3 → L_M_pair_29 x1 Q K66 n x2 x3 I → WI p l e (rmm 1 25) s m args below meth c0 E A 4 0 0 (qI below E A args s Q) I 29 [(0, .ref (eA E 236)), (1, .int (i2 x1)), (2, .int (i2 x2)), (3, .int (i2 x3))] [] := by
  intro n
  induction n with
  | zero => intro x2 x3 I _ _ _ v; exact absurd v id
  | succ n ih =>
    intro x2 x3 I hI h2 h3 v
    unfold L_M_pair_29 at v
    refine r_iload_n B dX11_pair_29 rfl rfl ?_
    refine r_iconst B dX11_pair_30 ?_
    refine r_iadd B dX11_pair_31 ?_
    refine r_aload_n B dX11_pair_32 rfl rfl ?_
    refine r_getR B (C := RX11) (T := TX11) (N := 25) o_236 0 rfl win_X11 (by decide) rfl wf_X11_7 dX11_pair_33 ?_
    refine r_iconst B dX11_pair_36 ?_
    refine r_ald B a_237 (by decide) (by decide) dX11_pair_37 ?_
    obtain ⟨h23, v⟩ := v
    refine r_icmp_ge B (tgt := 66) dX11_pair_38 (by decide) h23 ((hI _ _)) (fun h => ?_) (fun h => ?_)
    · have v := v.1 h
      refine r_sub [0, 1, 2] rfl ?_
      exact k66 x2 _ hI h2 v
    · have v := v.2 h
      refine r_aload_n B dX11_pair_41 rfl rfl ?_
      refine r_iload_n B dX11_pair_42 rfl rfl ?_
      refine r_cI B (st := []) (as := [.int (i2 x3)]) (T := TX11) (N := 25) (c_M_gapAt x3 _ hI h3) v o_236 rfl mw_M_gapAt wl_X11_178 ⟨Nat.le_of_ble_eq_true rfl, Nat.le_of_ble_eq_true rfl⟩ rfl rfl (Nat.le_of_ble_eq_true rfl) dX11_pair_43 (fun z24 I25 hz24 hI25 v => ?_)
      refine r_aload_n B dX11_pair_46 rfl rfl ?_
      refine r_iload_n B dX11_pair_47 rfl rfl ?_
      refine r_cI B (st := [.int (i2 z24)]) (as := [.int (i2 x2)]) (T := TX11) (N := 25) (c_M_gapAt x2 _ hI25 h2) v o_236 rfl mw_M_gapAt wl_X11_178 ⟨Nat.le_of_ble_eq_true rfl, Nat.le_of_ble_eq_true rfl⟩ rfl rfl (Nat.le_of_ble_eq_true rfl) dX11_pair_48 (fun z26 I27 hz26 hI27 v => ?_)
      refine r_icmp_ge B (tgt := 58) dX11_pair_51 (by decide) hz24 hz26 (fun h => ?_) (fun h => ?_)
      · have v := v.1 h
        refine r_iload_n B dX11_pair_58 rfl rfl ?_
        refine r_istore_n B dX11_pair_59 rfl (by decide) (lv' := [(2, .int (i2 x2)), (0, .ref (eA E 236)), (1, .int (i2 x1)), (3, .int (i2 x3))]) rfl ?_
        refine r_sub [1, 2, 0, 3] rfl ?_
        refine r_iinc B (q := 3) dX11_pair_60 (by decide) rfl (lv' := [(3, .int (i2 (x3 + 1))), (0, .ref (eA E 236)), (1, .int (i2 x1)), (2, .int (i2 x2))]) rfl ?_
        refine r_sub [1, 2, 3, 0] rfl ?_
        refine r_goto B (tgt := 29) dX11_pair_63 (by decide) ?_
        obtain ⟨h28, v⟩ := v
        refine r_sub [0, 1, 2, 3] rfl ?_
        exact ih x2 (x3 + 1) _ hI27 h2 h28 v
      · have v := v.2 h
        refine r_iload_n B dX11_pair_54 rfl rfl ?_
        refine r_goto B (tgt := 59) dX11_pair_55 (by decide) ?_
        refine r_istore_n B dX11_pair_59 rfl (by decide) (lv' := [(2, .int (i2 x3)), (0, .ref (eA E 236)), (1, .int (i2 x1)), (3, .int (i2 x3))]) rfl ?_
        refine r_sub [1, 2, 0, 3] rfl ?_
        refine r_iinc B (q := 3) dX11_pair_60 (by decide) rfl (lv' := [(3, .int (i2 (x3 + 1))), (0, .ref (eA E 236)), (1, .int (i2 x1)), (2, .int (i2 x3))]) rfl ?_
        refine r_sub [1, 2, 3, 0] rfl ?_
        refine r_goto B (tgt := 29) dX11_pair_63 (by decide) ?_
        obtain ⟨h29, v⟩ := v
        refine r_sub [0, 1, 2, 3] rfl ?_
        exact ih x3 (x3 + 1) _ hI27 h3 h29 v
set_option maxHeartbeats 4000000 in
set_option maxRecDepth 100000 in
theorem c_M_pair {l : Launch} {E : En} {A : Nat → Prop} (x1 : Int) (I : Mm)  (hI : rgM I) (h1 : r32 x1) : CI l E A yX11_pair cX11_pair 4 .int 1 25 [.ref (eA E 236), .int (i2 x1)] I (V_M_pair x1 I) := by
  intro Q v
  refine mk_met (own := RX11) (lv0 := [(0, .ref (eA E 236)), (1, .int (i2 x1))]) (by decide) rfl (Nat.le_of_ble_eq_true rfl) rfl (fun p e s m args below meth c0 B hr hk => ?_)
  unfold V_M_pair at v
  refine r_iload_n B dX11_pair_0 rfl rfl ?_
  refine r_i2l B dX11_pair_1 h1 ?_
  refine r_lconst B 0 dX11_pair_2 (by decide) ?_
  refine r_lconst B 1 dX11_pair_3 (by decide) ?_
  refine r_sI B (st := []) (as := [.long (l2 x1), .long (l2 0), .long (l2 1)]) (c_M_in x1 0 1 _ hI ((rg_64 h1)) ((show r64 (0) by exact ⟨by decide, by decide⟩)) ((show r64 (1) by exact ⟨by decide, by decide⟩))) v mw_M_in wl_X11_55 ⟨Nat.le_of_ble_eq_true rfl, Nat.le_of_ble_eq_true rfl⟩ rfl rfl (Nat.le_of_ble_eq_true rfl) dX11_pair_4 (fun z21 I22 hz21 hI22 v => ?_)
  refine r_if_ne B (tgt := 12) dX11_pair_7 (by decide) hz21 (fun h => ?_) (fun h => ?_)
  · have v := v.1 h
    refine r_aload_n B dX11_pair_12 rfl rfl ?_
    refine r_getR B (C := RX11) (T := TX11) (N := 25) o_236 0 rfl win_X11 (by decide) rfl wf_X11_7 dX11_pair_13 ?_
    refine r_iconst B dX11_pair_16 ?_
    refine r_ald B a_237 (by decide) (by decide) dX11_pair_17 ?_
    refine r_iconst B dX11_pair_18 ?_
    refine r_icmp_ge B (tgt := 25) dX11_pair_19 (by decide) ((hI22 _ _)) ((rg_lit (by decide) (by decide))) (fun h => ?_) (fun h => ?_)
    · have v := v.1 h
      refine r_iconst B dX11_pair_25 ?_
      refine r_istore_n B dX11_pair_26 rfl (by decide) (lv' := [(2, .int (i2 0)), (0, .ref (eA E 236)), (1, .int (i2 x1))]) rfl ?_
      refine r_sub [1, 2, 0] rfl ?_
      refine r_iconst B dX11_pair_27 ?_
      refine r_istore_n B dX11_pair_28 rfl (by decide) (lv' := [(3, .int (i2 1)), (0, .ref (eA E 236)), (1, .int (i2 x1)), (2, .int (i2 0))]) rfl ?_
      refine r_sub [1, 2, 3, 0] rfl ?_
      obtain ⟨f35, v⟩ := v
      refine r_sub [0, 1, 2, 3] rfl ?_
      refine wL_M_pair_29 B hr hk h1 (fun y30 I31 hI31 hy30 v => ?_) f35 0 1 I22 hI22 ((rg_lit (by decide) (by decide))) ((rg_lit (by decide) (by decide))) v
      · refine r_iload_n B dX11_pair_66 rfl rfl ?_
        refine r_if_ne B (tgt := 78) dX11_pair_67 (by decide) h1 (fun h => ?_) (fun h => ?_)
        · have v := v.1 h
          refine r_aload_n B dX11_pair_78 rfl rfl ?_
          refine r_getR B (C := RX11) (T := TX11) (N := 25) o_236 0 rfl win_X11 (by decide) rfl wf_X11_7 dX11_pair_79 ?_
          refine r_sipush B dX11_pair_82 (by decide) ?_
          refine r_iload_n B dX11_pair_85 rfl rfl ?_
          refine r_iadd B dX11_pair_86 ?_
          obtain ⟨h32, v⟩ := v
          refine r_ald B a_237 (by decide) h32 dX11_pair_87 ?_
          exact r_iret B hr hk rfl ((hI31 _ _)) hI31 v dX11_pair_88
        · have v := v.2 h
          refine r_aload_n B dX11_pair_70 rfl rfl ?_
          refine r_iload_n B dX11_pair_71 rfl rfl ?_
          refine r_cI B (st := []) (as := [.int (i2 y30)]) (T := TX11) (N := 25) (c_M_gapAt y30 _ hI31 hy30) v o_236 rfl mw_M_gapAt wl_X11_178 ⟨Nat.le_of_ble_eq_true rfl, Nat.le_of_ble_eq_true rfl⟩ rfl rfl (Nat.le_of_ble_eq_true rfl) dX11_pair_72 (fun z33 I34 hz33 hI34 v => ?_)
          refine r_goto B (tgt := 88) dX11_pair_75 (by decide) ?_
          exact r_iret B hr hk rfl hz33 hI34 v dX11_pair_88
    · have v := v.2 h
      refine r_bipush B dX11_pair_22 (by decide) ?_
      exact r_iret B hr hk rfl ((rg_lit (by decide) (by decide))) hI22 v dX11_pair_24
  · have v := v.2 h
    refine r_iconst B dX11_pair_10 ?_
    exact r_iret B hr hk rfl ((rg_lit (by decide) (by decide))) hI22 v dX11_pair_11
set_option maxHeartbeats 4000000 in
set_option maxRecDepth 100000 in
theorem c_M_nearer {l : Launch} {E : En} {A : Nat → Prop} (x1 : Int) (x2 : Int) (I : Mm)  (hI : rgM I) (h1 : r32 x1) (h2 : r32 x2) : CI l E A yX11_nearer cX11_nearer 3 .boolean 0 0 [.ref (eA E 236), .int (i2 x1), .int (i2 x2)] I (V_M_nearer x1 x2 I) := by
  intro Q v
  refine mk_met (own := RX11) (lv0 := [(0, .ref (eA E 236)), (1, .int (i2 x1)), (2, .int (i2 x2))]) (by decide) rfl (Nat.le_of_ble_eq_true rfl) rfl (fun p e s m args below meth c0 B hr hk => ?_)
  unfold V_M_nearer at v
  refine r_aload_n B dX11_nearer_0 rfl rfl ?_
  refine r_getR B (C := RX11) (T := TX11) (N := 25) o_236 11 rfl win_X11 (by decide) rfl wf_X11_35 dX11_nearer_1 ?_
  refine r_iload_n B dX11_nearer_4 rfl rfl ?_
  obtain ⟨h21, v⟩ := v
  refine r_ald B a_245 (by decide) h21 dX11_nearer_5 ?_
  refine r_if_lt B (tgt := 21) dX11_nearer_6 (by decide) ((hI _ _)) (fun h => ?_) (fun h => ?_)
  · have v := v.1 h
    refine r_aload_n B dX11_nearer_21 rfl rfl ?_
    refine r_getR B (C := RX11) (T := TX11) (N := 25) o_236 11 rfl win_X11 (by decide) rfl wf_X11_35 dX11_nearer_22 ?_
    refine r_iload_n B dX11_nearer_25 rfl rfl ?_
    refine r_iload_n B dX11_nearer_26 rfl rfl ?_
    obtain ⟨h22, v⟩ := v
    refine r_ast B a_245 (by decide) h22 dX11_nearer_27 ?_
    have hI23 : rgM (wrM I 245 x1 x2) := rg_wr hI h2
    refine r_iconst B dX11_nearer_28 ?_
    exact r_iret B hr hk rfl ((rg_lit (by decide) (by decide))) hI23 v dX11_nearer_29
  · have v := v.2 h
    refine r_aload_n B dX11_nearer_9 rfl rfl ?_
    refine r_getR B (C := RX11) (T := TX11) (N := 25) o_236 11 rfl win_X11 (by decide) rfl wf_X11_35 dX11_nearer_10 ?_
    refine r_iload_n B dX11_nearer_13 rfl rfl ?_
    obtain ⟨h24, v⟩ := v
    refine r_ald B a_245 (by decide) h24 dX11_nearer_14 ?_
    refine r_iload_n B dX11_nearer_15 rfl rfl ?_
    refine r_icmp_gt B (tgt := 21) dX11_nearer_16 (by decide) ((hI _ _)) h2 (fun h => ?_) (fun h => ?_)
    · have v := v.1 h
      refine r_aload_n B dX11_nearer_21 rfl rfl ?_
      refine r_getR B (C := RX11) (T := TX11) (N := 25) o_236 11 rfl win_X11 (by decide) rfl wf_X11_35 dX11_nearer_22 ?_
      refine r_iload_n B dX11_nearer_25 rfl rfl ?_
      refine r_iload_n B dX11_nearer_26 rfl rfl ?_
      obtain ⟨h25, v⟩ := v
      refine r_ast B a_245 (by decide) h25 dX11_nearer_27 ?_
      have hI26 : rgM (wrM I 245 x1 x2) := rg_wr hI h2
      refine r_iconst B dX11_nearer_28 ?_
      exact r_iret B hr hk rfl ((rg_lit (by decide) (by decide))) hI26 v dX11_nearer_29
    · have v := v.2 h
      refine r_iconst B dX11_nearer_19 ?_
      exact r_iret B hr hk rfl ((rg_lit (by decide) (by decide))) hI v dX11_nearer_20
set_option maxHeartbeats 4000000 in
set_option maxRecDepth 100000 in
theorem wL_M_spreads_2 {p : Program} {l : Launch} {e : Env} {s : State} {m : MethodId} {args : Array Value} {below : List Frame} {meth : Method} {c0 : Code} {E : En} {A : Nat → Prop} {x1 : Int} {Q : Mm → Prop} {K21 : Mm → Prop} (B : Bd p (rmm 1 22) s m args c0 cX11_spreads 7 RX11 E A 0 0) (hr : meth.sig.returnType = none) (hk : meth.locks = false) (h1 : r32 x1)  (k21 : ∀ (I : Mm), rgM I → K21 I → WI p l e (rmm 1 22) s m args below meth c0 E A 7 0 0 (qV below E A args s Q) I 21 [(0, .ref (eA E 236)), (1, .int (i2 x1))] []) : ∀ (n : Nat) (x2 : Int) (I : Mm), rgM I → r32 x2 → L_M_spreads_2 x1 Q K21 n x2 I → WI p l e (rmm 1 22) s m args below meth c0 E A 7 0 0 (qV below E A args s Q) I 2 [(0, .ref (eA E 236)), (1, .int (i2 x1)), (2, .int (i2 x2))] [] := by
  intro n
  induction n with
  | zero => intro x2 I _ _ v; exact absurd v id
  | succ n ih =>
    intro x2 I hI h2 v
    unfold L_M_spreads_2 at v
    refine r_iload_n B dX11_spreads_2 rfl rfl ?_
    refine r_bipush B dX11_spreads_3 (by decide) ?_
    refine r_icmp_ge B (tgt := 21) dX11_spreads_5 (by decide) h2 ((rg_lit (by decide) (by decide))) (fun h => ?_) (fun h => ?_)
    · have v := v.1 h
      refine r_sub [0, 1] rfl ?_
      exact k21 _ hI v
    · have v := v.2 h
      refine r_aload_n B dX11_spreads_8 rfl rfl ?_
      refine r_getR B (C := RX11) (T := TX11) (N := 25) o_236 11 rfl win_X11 (by decide) rfl wf_X11_35 dX11_spreads_9 ?_
      refine r_iload_n B dX11_spreads_12 rfl rfl ?_
      refine r_iconst B dX11_spreads_13 ?_
      obtain ⟨h21, v⟩ := v
      refine r_ast B a_245 (by decide) h21 dX11_spreads_14 ?_
      have hI22 : rgM (wrM I 245 x2 (-1)) := rg_wr hI ((rg_lit (by decide) (by decide)))
      refine r_iinc B (q := 2) dX11_spreads_15 (by decide) rfl (lv' := [(2, .int (i2 (x2 + 1))), (0, .ref (eA E 236)), (1, .int (i2 x1))]) rfl ?_
      refine r_sub [1, 2, 0] rfl ?_
      refine r_goto B (tgt := 2) dX11_spreads_18 (by decide) ?_
      obtain ⟨h23, v⟩ := v
      refine r_sub [0, 1, 2] rfl ?_
      exact ih (x2 + 1) _ hI22 h23 v
set_option maxHeartbeats 4000000 in
set_option maxRecDepth 100000 in
theorem wJ_M_spreads_114 {p : Program} {l : Launch} {e : Env} {s : State} {m : MethodId} {args : Array Value} {below : List Frame} {meth : Method} {c0 : Code} {E : En} {A : Nat → Prop} {x1 : Int} {Q : Mm → Prop} {K31 : Int → Int → Mm → Prop} (B : Bd p (rmm 1 22) s m args c0 cX11_spreads 7 RX11 E A 0 0) (hr : meth.sig.returnType = none) (hk : meth.locks = false) (h1 : r32 x1)  (k31 : ∀ (x2 : Int) (x3 : Int) (I : Mm), rgM I → r32 x2 → r32 x3 → K31 x2 x3 I → WI p l e (rmm 1 22) s m args below meth c0 E A 7 0 0 (qV below E A args s Q) I 31 [(0, .ref (eA E 236)), (1, .int (i2 x1)), (2, .int (i2 x2)), (3, .int (i2 x3))] []) : ∀ (x2 : Int) (x3 : Int) (x4 : Int) (x5 : Int) (x6 : Int) (I : Mm), rgM I → r32 x2 → r32 x3 → r32 x4 → r32 x5 → r32 x6 → J_M_spreads_114 x1 Q K31 x2 x3 x4 x5 x6 I → WI p l e (rmm 1 22) s m args below meth c0 E A 7 0 0 (qV below E A args s Q) I 114 [(0, .ref (eA E 236)), (1, .int (i2 x1)), (2, .int (i2 x2)), (3, .int (i2 x3)), (4, .int (i2 x4)), (5, .int (i2 x5)), (6, .int (i2 x6))] [] := by
  intro x2 x3 x4 x5 x6 I hI h2 h3 h4 h5 h6 v
  unfold J_M_spreads_114 at v
  refine r_aload_n B dX11_spreads_114 rfl rfl ?_
  refine r_getR B (C := RX11) (T := TX11) (N := 25) o_236 11 rfl win_X11 (by decide) rfl wf_X11_35 dX11_spreads_115 ?_
  refine r_iload B dX11_spreads_118 rfl ?_
  obtain ⟨h30, v⟩ := v
  refine r_ald B a_245 (by decide) h30 dX11_spreads_120 ?_
  refine r_if_lt B (tgt := 153) dX11_spreads_121 (by decide) ((hI _ _)) (fun h => ?_) (fun h => ?_)
  · have v := v.1 h
    refine r_iinc B (q := 3) dX11_spreads_153 (by decide) rfl (lv' := [(3, .int (i2 (x3 + 1))), (0, .ref (eA E 236)), (1, .int (i2 x1)), (2, .int (i2 x2)), (4, .int (i2 x4)), (5, .int (i2 x5)), (6, .int (i2 x6))]) rfl ?_
    refine r_sub [1, 2, 3, 0, 4, 5, 6] rfl ?_
    refine r_goto B (tgt := 31) dX11_spreads_156 (by decide) ?_
    obtain ⟨h31, v⟩ := v
    refine r_sub [0, 1, 2, 3] rfl ?_
    exact k31 x2 (x3 + 1) _ hI h2 h31 v
  · have v := v.2 h
    refine r_aload_n B dX11_spreads_124 rfl rfl ?_
    refine r_iload B dX11_spreads_125 rfl ?_
    refine r_aload_n B dX11_spreads_127 rfl rfl ?_
    refine r_getR B (C := RX11) (T := TX11) (N := 25) o_236 11 rfl win_X11 (by decide) rfl wf_X11_35 dX11_spreads_128 ?_
    refine r_iload B dX11_spreads_131 rfl ?_
    obtain ⟨h32, v⟩ := v
    refine r_ald B a_245 (by decide) h32 dX11_spreads_133 ?_
    refine r_iload B dX11_spreads_134 rfl ?_
    refine r_iadd B dX11_spreads_136 ?_
    obtain ⟨h33, v⟩ := v
    refine r_cI B (st := []) (as := [.int (i2 x5), .int (i2 (I 245 x4 + x6))]) (T := TX11) (N := 25) (c_M_nearer x5 (I 245 x4 + x6) _ hI h5 h33) v o_236 rfl mw_M_nearer wl_X11_215 ⟨Nat.le_of_ble_eq_true rfl, Nat.le_of_ble_eq_true rfl⟩ rfl rfl (Nat.le_of_ble_eq_true rfl) dX11_spreads_137 (fun z34 I35 hz34 hI35 v => ?_)
    refine r_if_ne B (tgt := 147) dX11_spreads_140 (by decide) hz34 (fun h => ?_) (fun h => ?_)
    · have v := v.1 h
      refine r_iconst B dX11_spreads_147 ?_
      refine r_goto B (tgt := 152) dX11_spreads_148 (by decide) ?_
      refine r_istore_n B dX11_spreads_152 rfl (by decide) (lv' := [(2, .int (i2 1)), (0, .ref (eA E 236)), (1, .int (i2 x1)), (3, .int (i2 x3)), (4, .int (i2 x4)), (5, .int (i2 x5)), (6, .int (i2 x6))]) rfl ?_
      refine r_sub [1, 2, 0, 3, 4, 5, 6] rfl ?_
      refine r_iinc B (q := 3) dX11_spreads_153 (by decide) rfl (lv' := [(3, .int (i2 (x3 + 1))), (0, .ref (eA E 236)), (1, .int (i2 x1)), (2, .int (i2 1)), (4, .int (i2 x4)), (5, .int (i2 x5)), (6, .int (i2 x6))]) rfl ?_
      refine r_sub [1, 2, 3, 0, 4, 5, 6] rfl ?_
      refine r_goto B (tgt := 31) dX11_spreads_156 (by decide) ?_
      obtain ⟨h36, v⟩ := v
      refine r_sub [0, 1, 2, 3] rfl ?_
      exact k31 1 (x3 + 1) _ hI35 ((rg_lit (by decide) (by decide))) h36 v
    · have v := v.2 h
      refine r_iload_n B dX11_spreads_143 rfl rfl ?_
      refine r_if_eq B (tgt := 151) dX11_spreads_144 (by decide) h2 (fun h => ?_) (fun h => ?_)
      · have v := v.1 h
        refine r_iconst B dX11_spreads_151 ?_
        refine r_istore_n B dX11_spreads_152 rfl (by decide) (lv' := [(2, .int (i2 0)), (0, .ref (eA E 236)), (1, .int (i2 x1)), (3, .int (i2 x3)), (4, .int (i2 x4)), (5, .int (i2 x5)), (6, .int (i2 x6))]) rfl ?_
        refine r_sub [1, 2, 0, 3, 4, 5, 6] rfl ?_
        refine r_iinc B (q := 3) dX11_spreads_153 (by decide) rfl (lv' := [(3, .int (i2 (x3 + 1))), (0, .ref (eA E 236)), (1, .int (i2 x1)), (2, .int (i2 0)), (4, .int (i2 x4)), (5, .int (i2 x5)), (6, .int (i2 x6))]) rfl ?_
        refine r_sub [1, 2, 3, 0, 4, 5, 6] rfl ?_
        refine r_goto B (tgt := 31) dX11_spreads_156 (by decide) ?_
        obtain ⟨h37, v⟩ := v
        refine r_sub [0, 1, 2, 3] rfl ?_
        exact k31 0 (x3 + 1) _ hI35 ((rg_lit (by decide) (by decide))) h37 v
      · have v := v.2 h
        refine r_iconst B dX11_spreads_147 ?_
        refine r_goto B (tgt := 152) dX11_spreads_148 (by decide) ?_
        refine r_istore_n B dX11_spreads_152 rfl (by decide) (lv' := [(2, .int (i2 1)), (0, .ref (eA E 236)), (1, .int (i2 x1)), (3, .int (i2 x3)), (4, .int (i2 x4)), (5, .int (i2 x5)), (6, .int (i2 x6))]) rfl ?_
        refine r_sub [1, 2, 0, 3, 4, 5, 6] rfl ?_
        refine r_iinc B (q := 3) dX11_spreads_153 (by decide) rfl (lv' := [(3, .int (i2 (x3 + 1))), (0, .ref (eA E 236)), (1, .int (i2 x1)), (2, .int (i2 1)), (4, .int (i2 x4)), (5, .int (i2 x5)), (6, .int (i2 x6))]) rfl ?_
        refine r_sub [1, 2, 3, 0, 4, 5, 6] rfl ?_
        refine r_goto B (tgt := 31) dX11_spreads_156 (by decide) ?_
        obtain ⟨h38, v⟩ := v
        refine r_sub [0, 1, 2, 3] rfl ?_
        exact k31 1 (x3 + 1) _ hI35 ((rg_lit (by decide) (by decide))) h38 v
set_option maxHeartbeats 4000000 in
set_option maxRecDepth 100000 in
theorem wJ_M_spreads_113 {p : Program} {l : Launch} {e : Env} {s : State} {m : MethodId} {args : Array Value} {below : List Frame} {meth : Method} {c0 : Code} {E : En} {A : Nat → Prop} {x1 : Int} {Q : Mm → Prop} {K31 : Int → Int → Mm → Prop} (B : Bd p (rmm 1 22) s m args c0 cX11_spreads 7 RX11 E A 0 0) (hr : meth.sig.returnType = none) (hk : meth.locks = false) (h1 : r32 x1)  (k31 : ∀ (x2 : Int) (x3 : Int) (I : Mm), rgM I → r32 x2 → r32 x3 → K31 x2 x3 I → WI p l e (rmm 1 22) s m args below meth c0 E A 7 0 0 (qV below E A args s Q) I 31 [(0, .ref (eA E 236)), (1, .int (i2 x1)), (2, .int (i2 x2)), (3, .int (i2 x3))] []) : ∀ (x3 : Int) (x4 : Int) (x5 : Int) (x6 : Int) (t0 : Int) (I : Mm), rgM I → r32 x3 → r32 x4 → r32 x5 → r32 x6 → r32 t0 → J_M_spreads_113 x1 Q K31 x3 x4 x5 x6 t0 I → WI p l e (rmm 1 22) s m args below meth c0 E A 7 0 0 (qV below E A args s Q) I 113 [(0, .ref (eA E 236)), (1, .int (i2 x1)), (3, .int (i2 x3)), (4, .int (i2 x4)), (5, .int (i2 x5)), (6, .int (i2 x6))] [.int (i2 t0)] := by
  intro x3 x4 x5 x6 t0 I hI h3 h4 h5 h6 ht0 v
  unfold J_M_spreads_113 at v
  refine r_istore_n B dX11_spreads_113 rfl (by decide) (lv' := [(2, .int (i2 t0)), (0, .ref (eA E 236)), (1, .int (i2 x1)), (3, .int (i2 x3)), (4, .int (i2 x4)), (5, .int (i2 x5)), (6, .int (i2 x6))]) rfl ?_
  refine r_sub [1, 2, 0, 3, 4, 5, 6] rfl ?_
  refine r_sub [0, 1, 2, 3, 4, 5, 6] rfl ?_
  exact wJ_M_spreads_114 B hr hk h1 k31 t0 x3 x4 x5 x6 I hI ht0 h3 h4 h5 h6 v
set_option maxHeartbeats 4000000 in
set_option maxRecDepth 100000 in
theorem wJ_M_spreads_108 {p : Program} {l : Launch} {e : Env} {s : State} {m : MethodId} {args : Array Value} {below : List Frame} {meth : Method} {c0 : Code} {E : En} {A : Nat → Prop} {x1 : Int} {Q : Mm → Prop} {K31 : Int → Int → Mm → Prop} (B : Bd p (rmm 1 22) s m args c0 cX11_spreads 7 RX11 E A 0 0) (hr : meth.sig.returnType = none) (hk : meth.locks = false) (h1 : r32 x1)  (k31 : ∀ (x2 : Int) (x3 : Int) (I : Mm), rgM I → r32 x2 → r32 x3 → K31 x2 x3 I → WI p l e (rmm 1 22) s m args below meth c0 E A 7 0 0 (qV below E A args s Q) I 31 [(0, .ref (eA E 236)), (1, .int (i2 x1)), (2, .int (i2 x2)), (3, .int (i2 x3))] []) : ∀ (x3 : Int) (x4 : Int) (x5 : Int) (x6 : Int) (I : Mm), rgM I → r32 x3 → r32 x4 → r32 x5 → r32 x6 → J_M_spreads_108 x1 Q K31 x3 x4 x5 x6 I → WI p l e (rmm 1 22) s m args below meth c0 E A 7 0 0 (qV below E A args s Q) I 108 [(0, .ref (eA E 236)), (1, .int (i2 x1)), (3, .int (i2 x3)), (4, .int (i2 x4)), (5, .int (i2 x5)), (6, .int (i2 x6))] [] := by
  intro x3 x4 x5 x6 I hI h3 h4 h5 h6 v
  unfold J_M_spreads_108 at v
  refine r_iconst B dX11_spreads_108 ?_
  refine r_goto B (tgt := 113) dX11_spreads_109 (by decide) ?_
  refine r_sub [0, 1, 2, 3, 4, 5] rfl ?_
  exact wJ_M_spreads_113 B hr hk h1 k31 x3 x4 x5 x6 1 I hI h3 h4 h5 h6 ((rg_lit (by decide) (by decide))) v
set_option maxHeartbeats 4000000 in
set_option maxRecDepth 100000 in
theorem wL_M_spreads_31 {p : Program} {l : Launch} {e : Env} {s : State} {m : MethodId} {args : Array Value} {below : List Frame} {meth : Method} {c0 : Code} {E : En} {A : Nat → Prop} {x1 : Int} {Q : Mm → Prop} {K23 : Int → Mm → Prop} (B : Bd p (rmm 1 22) s m args c0 cX11_spreads 7 RX11 E A 0 0) (hr : meth.sig.returnType = none) (hk : meth.locks = false) (h1 : r32 x1)  (k23 : ∀ (x2 : Int) (I : Mm), rgM I → r32 x2 → K23 x2 I → WI p l e (rmm 1 22) s m args below meth c0 E A 7 0 0 (qV below E A args s Q) I 23 [(0, .ref (eA E 236)), (1, .int (i2 x1)), (2, .int (i2 x2))] []) : ∀ (n : Nat) (x2 : Int) (x3 : Int) (I : Mm), rgM I → r32 x2 → r32 x3 → L_M_spreads_31 x1 Q K23 n x2 x3 I → WI p l e (rmm 1 22) s m args below meth c0 E A 7 0 0 (qV below E A args s Q) I 31 [(0, .ref (eA E 236)), (1, .int (i2 x1)), (2, .int (i2 x2)), (3, .int (i2 x3))] [] := by
  intro n
  induction n with
  | zero => intro x2 x3 I _ _ _ v; exact absurd v id
  | succ n ih =>
    intro x2 x3 I hI h2 h3 v
    unfold L_M_spreads_31 at v
    refine r_iload_n B dX11_spreads_31 rfl rfl ?_
    refine r_aload_n B dX11_spreads_32 rfl rfl ?_
    refine r_getR B (C := RX11) (T := TX11) (N := 25) o_236 0 rfl win_X11 (by decide) rfl wf_X11_7 dX11_spreads_33 ?_
    refine r_iconst B dX11_spreads_36 ?_
    refine r_ald B a_237 (by decide) (by decide) dX11_spreads_37 ?_
    refine r_icmp_ge B (tgt := 159) dX11_spreads_38 (by decide) h3 ((hI _ _)) (fun h => ?_) (fun h => ?_)
    · have v := v.1 h
      refine r_goto B (tgt := 23) dX11_spreads_159 (by decide) ?_
      refine r_sub [0, 1, 2] rfl ?_
      exact k23 x2 _ hI h2 v
    · have v := v.2 h
      refine r_aload_n B dX11_spreads_41 rfl rfl ?_
      refine r_getR B (C := RX11) (T := TX11) (N := 25) o_236 0 rfl win_X11 (by decide) rfl wf_X11_7 dX11_spreads_42 ?_
      refine r_sipush B dX11_spreads_45 (by decide) ?_
      refine r_iconst B dX11_spreads_48 ?_
      refine r_iload_n B dX11_spreads_49 rfl rfl ?_
      refine r_imul B dX11_spreads_50 ?_
      refine r_iadd B dX11_spreads_51 ?_
      obtain ⟨h25, v⟩ := v
      refine r_ald B a_237 (by decide) h25 dX11_spreads_52 ?_
      refine r_istore B dX11_spreads_53 (by decide) (lv' := [(4, .int (i2 (I 237 (144 + (3 * x3))))), (0, .ref (eA E 236)), (1, .int (i2 x1)), (2, .int (i2 x2)), (3, .int (i2 x3))]) rfl ?_
      refine r_sub [1, 2, 3, 4, 0] rfl ?_
      refine r_aload_n B dX11_spreads_55 rfl rfl ?_
      refine r_getR B (C := RX11) (T := TX11) (N := 25) o_236 0 rfl win_X11 (by decide) rfl wf_X11_7 dX11_spreads_56 ?_
      refine r_sipush B dX11_spreads_59 (by decide) ?_
      refine r_iconst B dX11_spreads_62 ?_
      refine r_iload_n B dX11_spreads_63 rfl rfl ?_
      refine r_imul B dX11_spreads_64 ?_
      refine r_iadd B dX11_spreads_65 ?_
      refine r_iconst B dX11_spreads_66 ?_
      refine r_iadd B dX11_spreads_67 ?_
      obtain ⟨h26, v⟩ := v
      refine r_ald B a_237 (by decide) h26 dX11_spreads_68 ?_
      refine r_name (fun y27 ey27 => ?_)
      have v := v y27 ey27
      have hy27 : r32 y27 := by rw [ey27]; exact (hI _ _)
      refine r_istore B dX11_spreads_69 (by decide) (lv' := [(5, .int (i2 y27)), (0, .ref (eA E 236)), (1, .int (i2 x1)), (2, .int (i2 x2)), (3, .int (i2 x3)), (4, .int (i2 (I 237 (144 + (3 * x3)))))]) rfl ?_
      refine r_sub [1, 2, 3, 4, 5, 0] rfl ?_
      refine r_aload_n B dX11_spreads_71 rfl rfl ?_
      refine r_getR B (C := RX11) (T := TX11) (N := 25) o_236 0 rfl win_X11 (by decide) rfl wf_X11_7 dX11_spreads_72 ?_
      refine r_sipush B dX11_spreads_75 (by decide) ?_
      refine r_iconst B dX11_spreads_78 ?_
      refine r_iload_n B dX11_spreads_79 rfl rfl ?_
      refine r_imul B dX11_spreads_80 ?_
      refine r_iadd B dX11_spreads_81 ?_
      refine r_iconst B dX11_spreads_82 ?_
      refine r_iadd B dX11_spreads_83 ?_
      obtain ⟨h28, v⟩ := v
      refine r_ald B a_237 (by decide) h28 dX11_spreads_84 ?_
      refine r_name (fun y29 ey29 => ?_)
      have v := v y29 ey29
      have hy29 : r32 y29 := by rw [ey29]; exact (hI _ _)
      refine r_istore B dX11_spreads_85 (by decide) (lv' := [(6, .int (i2 y29)), (0, .ref (eA E 236)), (1, .int (i2 x1)), (2, .int (i2 x2)), (3, .int (i2 x3)), (4, .int (i2 (I 237 (144 + (3 * x3))))), (5, .int (i2 y27))]) rfl ?_
      refine r_sub [1, 2, 3, 4, 5, 6, 0] rfl ?_
      refine r_iload B dX11_spreads_87 rfl ?_
      refine r_iload_n B dX11_spreads_89 rfl rfl ?_
      refine r_icmp_ne B (tgt := 114) dX11_spreads_90 (by decide) ((hI _ _)) h1 (fun h => ?_) (fun h => ?_)
      · have v := v.1 h
        refine r_sub [0, 1, 2, 3, 4, 5, 6] rfl ?_
        exact wJ_M_spreads_114 B hr hk h1 ih x2 x3 (I 237 (144 + (3 * x3))) y27 y29 I hI h2 h3 ((hI _ _)) hy27 hy29 v
      · have v := v.2 h
        refine r_aload_n B dX11_spreads_93 rfl rfl ?_
        refine r_iload B dX11_spreads_94 rfl ?_
        refine r_iload B dX11_spreads_96 rfl ?_
        refine r_cI B (st := []) (as := [.int (i2 y27), .int (i2 y29)]) (T := TX11) (N := 25) (c_M_nearer y27 y29 _ hI hy27 hy29) v o_236 rfl mw_M_nearer wl_X11_215 ⟨Nat.le_of_ble_eq_true rfl, Nat.le_of_ble_eq_true rfl⟩ rfl rfl (Nat.le_of_ble_eq_true rfl) dX11_spreads_98 (fun z40 I41 hz40 hI41 v => ?_)
        refine r_if_ne B (tgt := 108) dX11_spreads_101 (by decide) hz40 (fun h => ?_) (fun h => ?_)
        · have v := v.1 h
          refine r_sub [0, 1, 3, 4, 5, 6] rfl ?_
          exact wJ_M_spreads_108 B hr hk h1 ih x3 (I 237 (144 + (3 * x3))) y27 y29 I41 hI41 h3 ((hI _ _)) hy27 hy29 v
        · have v := v.2 h
          refine r_iload_n B dX11_spreads_104 rfl rfl ?_
          refine r_if_eq B (tgt := 112) dX11_spreads_105 (by decide) h2 (fun h => ?_) (fun h => ?_)
          · have v := v.1 h
            refine r_iconst B dX11_spreads_112 ?_
            refine r_sub [0, 1, 3, 4, 5, 6] rfl ?_
            exact wJ_M_spreads_113 B hr hk h1 ih x3 (I 237 (144 + (3 * x3))) y27 y29 0 I41 hI41 h3 ((hI _ _)) hy27 hy29 ((rg_lit (by decide) (by decide))) v
          · have v := v.2 h
            refine r_sub [0, 1, 3, 4, 5, 6] rfl ?_
            exact wJ_M_spreads_108 B hr hk h1 ih x3 (I 237 (144 + (3 * x3))) y27 y29 I41 hI41 h3 ((hI _ _)) hy27 hy29 v
set_option maxHeartbeats 4000000 in
set_option maxRecDepth 100000 in
theorem wL_M_spreads_23 {p : Program} {l : Launch} {e : Env} {s : State} {m : MethodId} {args : Array Value} {below : List Frame} {meth : Method} {c0 : Code} {E : En} {A : Nat → Prop} {x1 : Int} {Q : Mm → Prop}  (B : Bd p (rmm 1 22) s m args c0 cX11_spreads 7 RX11 E A 0 0) (hr : meth.sig.returnType = none) (hk : meth.locks = false) (h1 : r32 x1)   : ∀ (n : Nat) (x2 : Int) (I : Mm), rgM I → r32 x2 → L_M_spreads_23 x1 Q n x2 I → WI p l e (rmm 1 22) s m args below meth c0 E A 7 0 0 (qV below E A args s Q) I 23 [(0, .ref (eA E 236)), (1, .int (i2 x1)), (2, .int (i2 x2))] [] := by
  intro n
  induction n with
  | zero => intro x2 I _ _ v; exact absurd v id
  | succ n ih =>
    intro x2 I hI h2 v
    unfold L_M_spreads_23 at v
    refine r_iload_n B dX11_spreads_23 rfl rfl ?_
    refine r_if_eq B (tgt := 162) dX11_spreads_24 (by decide) h2 (fun h => ?_) (fun h => ?_)
    · have v := v.1 h
      exact r_vret B hr hk hI v dX11_spreads_162
    · have v := v.2 h
      refine r_iconst B dX11_spreads_27 ?_
      refine r_istore_n B dX11_spreads_28 rfl (by decide) (lv' := [(2, .int (i2 0)), (0, .ref (eA E 236)), (1, .int (i2 x1))]) rfl ?_
      refine r_sub [1, 2, 0] rfl ?_
      refine r_iconst B dX11_spreads_29 ?_
      refine r_istore_n B dX11_spreads_30 rfl (by decide) (lv' := [(3, .int (i2 0)), (0, .ref (eA E 236)), (1, .int (i2 x1)), (2, .int (i2 0))]) rfl ?_
      refine r_sub [1, 2, 3, 0] rfl ?_
      obtain ⟨f47, v⟩ := v
      refine r_sub [0, 1, 2, 3] rfl ?_
      exact wL_M_spreads_31 B hr hk h1 ih f47 0 0 I hI ((rg_lit (by decide) (by decide))) ((rg_lit (by decide) (by decide))) v
set_option maxHeartbeats 4000000 in
set_option maxRecDepth 100000 in
theorem c_M_spreads {l : Launch} {E : En} {A : Nat → Prop} (x1 : Int) (I : Mm)  (hI : rgM I) (h1 : r32 x1) : CV l E A yX11_spreads cX11_spreads 7 1 22 [.ref (eA E 236), .int (i2 x1)] I (V_M_spreads x1 I) := by
  intro Q v
  refine mk_met (own := RX11) (lv0 := [(0, .ref (eA E 236)), (1, .int (i2 x1))]) (by decide) rfl (Nat.le_of_ble_eq_true rfl) rfl (fun p e s m args below meth c0 B hr hk => ?_)
  unfold V_M_spreads at v
  refine r_iconst B dX11_spreads_0 ?_
  refine r_istore_n B dX11_spreads_1 rfl (by decide) (lv' := [(2, .int (i2 0)), (0, .ref (eA E 236)), (1, .int (i2 x1))]) rfl ?_
  refine r_sub [1, 2, 0] rfl ?_
  obtain ⟨f49, v⟩ := v
  refine r_sub [0, 1, 2] rfl ?_
  refine wL_M_spreads_2 B hr hk h1 (fun I24 hI24 v => ?_) f49 0 I hI ((rg_lit (by decide) (by decide))) v
  · refine r_iconst B dX11_spreads_21 ?_
    refine r_istore_n B dX11_spreads_22 rfl (by decide) (lv' := [(2, .int (i2 1)), (0, .ref (eA E 236)), (1, .int (i2 x1))]) rfl ?_
    refine r_sub [1, 2, 0] rfl ?_
    obtain ⟨f48, v⟩ := v
    refine r_sub [0, 1, 2] rfl ?_
    exact wL_M_spreads_23 B hr hk h1 f48 1 I24 hI24 ((rg_lit (by decide) (by decide))) v
set_option maxHeartbeats 4000000 in
set_option maxRecDepth 100000 in
theorem c_M_leads {l : Launch} {E : En} {A : Nat → Prop} (x1 : Int) (x2 : Int) (I : Mm)  (hI : rgM I) (h1 : r32 x1) (h2 : r32 x2) : CI l E A yX11_leads cX11_leads 3 .int 2 48 [.ref (eA E 236), .int (i2 x1), .int (i2 x2)] I (V_M_leads x1 x2 I) := by
  intro Q v
  refine mk_met (own := RX11) (lv0 := [(0, .ref (eA E 236)), (1, .int (i2 x1)), (2, .int (i2 x2))]) (by decide) rfl (Nat.le_of_ble_eq_true rfl) rfl (fun p e s m args below meth c0 B hr hk => ?_)
  unfold V_M_leads at v
  refine r_aload_n B dX11_leads_0 rfl rfl ?_
  refine r_iload_n B dX11_leads_1 rfl rfl ?_
  refine r_cI B (st := []) (as := [.int (i2 x1)]) (T := TX11) (N := 25) (c_M_isName x1 _ hI h1) v o_236 rfl mw_M_isName wl_X11_111 ⟨Nat.le_of_ble_eq_true rfl, Nat.le_of_ble_eq_true rfl⟩ rfl rfl (Nat.le_of_ble_eq_true rfl) dX11_leads_2 (fun z21 I22 hz21 hI22 v => ?_)
  refine r_if_eq B (tgt := 16) dX11_leads_5 (by decide) hz21 (fun h => ?_) (fun h => ?_)
  · have v := v.1 h
    refine r_iconst B dX11_leads_16 ?_
    exact r_iret B hr hk rfl ((rg_lit (by decide) (by decide))) hI22 v dX11_leads_17
  · have v := v.2 h
    refine r_aload_n B dX11_leads_8 rfl rfl ?_
    refine r_iload_n B dX11_leads_9 rfl rfl ?_
    refine r_cI B (st := []) (as := [.int (i2 x2)]) (T := TX11) (N := 25) (c_M_isName x2 _ hI22 h2) v o_236 rfl mw_M_isName wl_X11_111 ⟨Nat.le_of_ble_eq_true rfl, Nat.le_of_ble_eq_true rfl⟩ rfl rfl (Nat.le_of_ble_eq_true rfl) dX11_leads_10 (fun z23 I24 hz23 hI24 v => ?_)
    refine r_if_ne B (tgt := 18) dX11_leads_13 (by decide) hz23 (fun h => ?_) (fun h => ?_)
    · have v := v.1 h
      refine r_aload_n B dX11_leads_18 rfl rfl ?_
      refine r_iload_n B dX11_leads_19 rfl rfl ?_
      refine r_cV B (st := []) (as := [.int (i2 x1)]) (T := TX11) (N := 25) (c_M_spreads x1 _ hI24 h1) v o_236 rfl mw_M_spreads wl_X11_219 ⟨Nat.le_of_ble_eq_true rfl, Nat.le_of_ble_eq_true rfl⟩ rfl rfl (Nat.le_of_ble_eq_true rfl) dX11_leads_20 (fun I25 hI25 v => ?_)
      refine r_aload_n B dX11_leads_23 rfl rfl ?_
      refine r_getR B (C := RX11) (T := TX11) (N := 25) o_236 11 rfl win_X11 (by decide) rfl wf_X11_35 dX11_leads_24 ?_
      refine r_iload_n B dX11_leads_27 rfl rfl ?_
      obtain ⟨h26, v⟩ := v
      refine r_ald B a_245 (by decide) h26 dX11_leads_28 ?_
      refine r_if_lt B (tgt := 36) dX11_leads_29 (by decide) ((hI25 _ _)) (fun h => ?_) (fun h => ?_)
      · have v := v.1 h
        refine r_iconst B dX11_leads_36 ?_
        exact r_iret B hr hk rfl ((rg_lit (by decide) (by decide))) hI25 v dX11_leads_37
      · have v := v.2 h
        refine r_iconst B dX11_leads_32 ?_
        refine r_goto B (tgt := 37) dX11_leads_33 (by decide) ?_
        exact r_iret B hr hk rfl ((rg_lit (by decide) (by decide))) hI25 v dX11_leads_37
    · have v := v.2 h
      refine r_iconst B dX11_leads_16 ?_
      exact r_iret B hr hk rfl ((rg_lit (by decide) (by decide))) hI24 v dX11_leads_17
set_option maxHeartbeats 4000000 in
set_option maxRecDepth 100000 in
theorem c_M_soonest {l : Launch} {E : En} {A : Nat → Prop} (x1 : Int) (x2 : Int) (I : Mm)  (hI : rgM I) (h1 : r32 x1) (h2 : r32 x2) : CI l E A yX11_soonest cX11_soonest 3 .int 2 48 [.ref (eA E 236), .int (i2 x1), .int (i2 x2)] I (V_M_soonest x1 x2 I) := by
  intro Q v
  refine mk_met (own := RX11) (lv0 := [(0, .ref (eA E 236)), (1, .int (i2 x1)), (2, .int (i2 x2))]) (by decide) rfl (Nat.le_of_ble_eq_true rfl) rfl (fun p e s m args below meth c0 B hr hk => ?_)
  unfold V_M_soonest at v
  refine r_aload_n B dX11_soonest_0 rfl rfl ?_
  refine r_iload_n B dX11_soonest_1 rfl rfl ?_
  refine r_cI B (st := []) (as := [.int (i2 x1)]) (T := TX11) (N := 25) (c_M_isName x1 _ hI h1) v o_236 rfl mw_M_isName wl_X11_111 ⟨Nat.le_of_ble_eq_true rfl, Nat.le_of_ble_eq_true rfl⟩ rfl rfl (Nat.le_of_ble_eq_true rfl) dX11_soonest_2 (fun z21 I22 hz21 hI22 v => ?_)
  refine r_if_eq B (tgt := 16) dX11_soonest_5 (by decide) hz21 (fun h => ?_) (fun h => ?_)
  · have v := v.1 h
    refine r_iconst B dX11_soonest_16 ?_
    exact r_iret B hr hk rfl ((rg_lit (by decide) (by decide))) hI22 v dX11_soonest_17
  · have v := v.2 h
    refine r_aload_n B dX11_soonest_8 rfl rfl ?_
    refine r_iload_n B dX11_soonest_9 rfl rfl ?_
    refine r_cI B (st := []) (as := [.int (i2 x2)]) (T := TX11) (N := 25) (c_M_isName x2 _ hI22 h2) v o_236 rfl mw_M_isName wl_X11_111 ⟨Nat.le_of_ble_eq_true rfl, Nat.le_of_ble_eq_true rfl⟩ rfl rfl (Nat.le_of_ble_eq_true rfl) dX11_soonest_10 (fun z23 I24 hz23 hI24 v => ?_)
    refine r_if_ne B (tgt := 18) dX11_soonest_13 (by decide) hz23 (fun h => ?_) (fun h => ?_)
    · have v := v.1 h
      refine r_aload_n B dX11_soonest_18 rfl rfl ?_
      refine r_iload_n B dX11_soonest_19 rfl rfl ?_
      refine r_cV B (st := []) (as := [.int (i2 x1)]) (T := TX11) (N := 25) (c_M_spreads x1 _ hI24 h1) v o_236 rfl mw_M_spreads wl_X11_219 ⟨Nat.le_of_ble_eq_true rfl, Nat.le_of_ble_eq_true rfl⟩ rfl rfl (Nat.le_of_ble_eq_true rfl) dX11_soonest_20 (fun I25 hI25 v => ?_)
      refine r_aload_n B dX11_soonest_23 rfl rfl ?_
      refine r_getR B (C := RX11) (T := TX11) (N := 25) o_236 11 rfl win_X11 (by decide) rfl wf_X11_35 dX11_soonest_24 ?_
      refine r_iload_n B dX11_soonest_27 rfl rfl ?_
      obtain ⟨h26, v⟩ := v
      refine r_ald B a_245 (by decide) h26 dX11_soonest_28 ?_
      refine r_if_lt B (tgt := 41) dX11_soonest_29 (by decide) ((hI25 _ _)) (fun h => ?_) (fun h => ?_)
      · have v := v.1 h
        refine r_bipush B dX11_soonest_41 (by decide) ?_
        exact r_iret B hr hk rfl ((rg_lit (by decide) (by decide))) hI25 v dX11_soonest_43
      · have v := v.2 h
        refine r_aload_n B dX11_soonest_32 rfl rfl ?_
        refine r_getR B (C := RX11) (T := TX11) (N := 25) o_236 11 rfl win_X11 (by decide) rfl wf_X11_35 dX11_soonest_33 ?_
        refine r_iload_n B dX11_soonest_36 rfl rfl ?_
        obtain ⟨h27, v⟩ := v
        refine r_ald B a_245 (by decide) h27 dX11_soonest_37 ?_
        refine r_goto B (tgt := 43) dX11_soonest_38 (by decide) ?_
        exact r_iret B hr hk rfl ((hI25 _ _)) hI25 v dX11_soonest_43
    · have v := v.2 h
      refine r_iconst B dX11_soonest_16 ?_
      exact r_iret B hr hk rfl ((rg_lit (by decide) (by decide))) hI24 v dX11_soonest_17
set_option maxHeartbeats 4000000 in
set_option maxRecDepth 100000 in
theorem wL_M_areAlike_3 {p : Program} {l : Launch} {e : Env} {s : State} {m : MethodId} {args : Array Value} {below : List Frame} {meth : Method} {c0 : Code} {E : En} {A : Nat → Prop} {x1 : Int} {x2 : Int} {x3 : Int} {Q : Int → Mm → Prop}  (B : Bd p (rmm 0 0) s m args c0 cX11_areAlike 5 RX11 E A 0 0) (hr : meth.sig.returnType = some .boolean) (hk : meth.locks = false) (h1 : r32 x1) (h2 : r32 x2) (h3 : r32 x3)   : ∀ (n : Nat) (x4 : Int) (I : Mm), rgM I → r32 x4 → L_M_areAlike_3 x1 x2 x3 Q n x4 I → WI p l e (rmm 0 0) s m args below meth c0 E A 5 0 0 (qI below E A args s Q) I 3 [(0, .ref (eA E 236)), (1, .int (i2 x1)), (2, .int (i2 x2)), (3, .int (i2 x3)), (4, .int (i2 x4))] [] := by
  intro n
  induction n with
  | zero => intro x4 I _ _ v; exact absurd v id
  | succ n ih =>
    intro x4 I hI h4 v
    unfold L_M_areAlike_3 at v
    refine r_iload B dX11_areAlike_3 rfl ?_
    refine r_iload_n B dX11_areAlike_5 rfl rfl ?_
    refine r_iload_n B dX11_areAlike_6 rfl rfl ?_
    refine r_iadd B dX11_areAlike_7 ?_
    obtain ⟨h21, v⟩ := v
    refine r_icmp_ge B (tgt := 38) dX11_areAlike_8 (by decide) h4 h21 (fun h => ?_) (fun h => ?_)
    · have v := v.1 h
      refine r_iconst B dX11_areAlike_38 ?_
      exact r_iret B hr hk rfl ((rg_lit (by decide) (by decide))) hI v dX11_areAlike_39
    · have v := v.2 h
      refine r_aload_n B dX11_areAlike_11 rfl rfl ?_
      refine r_getR B (C := RX11) (T := TX11) (N := 25) o_236 4 rfl win_X11 (by decide) rfl wf_X11_19 dX11_areAlike_12 ?_
      refine r_iload_n B dX11_areAlike_15 rfl rfl ?_
      refine r_iload B dX11_areAlike_16 rfl ?_
      refine r_iadd B dX11_areAlike_18 ?_
      obtain ⟨h22, v⟩ := v
      refine r_ald B a_240 (by decide) h22 dX11_areAlike_19 ?_
      refine r_aload_n B dX11_areAlike_20 rfl rfl ?_
      refine r_getR B (C := RX11) (T := TX11) (N := 25) o_236 0 rfl win_X11 (by decide) rfl wf_X11_7 dX11_areAlike_21 ?_
      refine r_iload B dX11_areAlike_24 rfl ?_
      obtain ⟨h23, v⟩ := v
      refine r_ald B a_237 (by decide) h23 dX11_areAlike_26 ?_
      refine r_icmp_eq B (tgt := 32) dX11_areAlike_27 (by decide) ((hI _ _)) ((hI _ _)) (fun h => ?_) (fun h => ?_)
      · have v := v.1 h
        refine r_iinc B (q := 4) dX11_areAlike_32 (by decide) rfl (lv' := [(4, .int (i2 (x4 + 1))), (0, .ref (eA E 236)), (1, .int (i2 x1)), (2, .int (i2 x2)), (3, .int (i2 x3))]) rfl ?_
        refine r_sub [1, 2, 3, 4, 0] rfl ?_
        refine r_goto B (tgt := 3) dX11_areAlike_35 (by decide) ?_
        obtain ⟨h24, v⟩ := v
        refine r_sub [0, 1, 2, 3, 4] rfl ?_
        exact ih (x4 + 1) _ hI h24 v
      · have v := v.2 h
        refine r_iconst B dX11_areAlike_30 ?_
        exact r_iret B hr hk rfl ((rg_lit (by decide) (by decide))) hI v dX11_areAlike_31
set_option maxHeartbeats 4000000 in
set_option maxRecDepth 100000 in
theorem c_M_areAlike {l : Launch} {E : En} {A : Nat → Prop} (x1 : Int) (x2 : Int) (x3 : Int) (I : Mm)  (hI : rgM I) (h1 : r32 x1) (h2 : r32 x2) (h3 : r32 x3) : CI l E A yX11_areAlike cX11_areAlike 5 .boolean 0 0 [.ref (eA E 236), .int (i2 x1), .int (i2 x2), .int (i2 x3)] I (V_M_areAlike x1 x2 x3 I) := by
  intro Q v
  refine mk_met (own := RX11) (lv0 := [(0, .ref (eA E 236)), (1, .int (i2 x1)), (2, .int (i2 x2)), (3, .int (i2 x3))]) (by decide) rfl (Nat.le_of_ble_eq_true rfl) rfl (fun p e s m args below meth c0 B hr hk => ?_)
  unfold V_M_areAlike at v
  refine r_iload_n B dX11_areAlike_0 rfl rfl ?_
  refine r_istore B dX11_areAlike_1 (by decide) (lv' := [(4, .int (i2 x2)), (0, .ref (eA E 236)), (1, .int (i2 x1)), (2, .int (i2 x2)), (3, .int (i2 x3))]) rfl ?_
  refine r_sub [1, 2, 3, 4, 0] rfl ?_
  obtain ⟨f25, v⟩ := v
  refine r_sub [0, 1, 2, 3, 4] rfl ?_
  exact wL_M_areAlike_3 B hr hk h1 h2 h3 f25 x2 I hI h2 v
set_option maxHeartbeats 4000000 in
set_option maxRecDepth 100000 in
theorem c_M_same {l : Launch} {E : En} {A : Nat → Prop} (x1 : Int) (x2 : Int) (I : Mm)  (hI : rgM I) (h1 : r32 x1) (h2 : r32 x2) : CI l E A yX11_same cX11_same 5 .int 1 25 [.ref (eA E 236), .int (i2 x1), .int (i2 x2)] I (V_M_same x1 x2 I) := by
  intro Q v
  refine mk_met (own := RX11) (lv0 := [(0, .ref (eA E 236)), (1, .int (i2 x1)), (2, .int (i2 x2))]) (by decide) rfl (Nat.le_of_ble_eq_true rfl) rfl (fun p e s m args below meth c0 B hr hk => ?_)
  unfold V_M_same at v
  refine r_iload_n B dX11_same_0 rfl rfl ?_
  refine r_i2l B dX11_same_1 h1 ?_
  refine r_lconst B 0 dX11_same_2 (by decide) ?_
  refine r_lconst B 1 dX11_same_3 (by decide) ?_
  refine r_sI B (st := []) (as := [.long (l2 x1), .long (l2 0), .long (l2 1)]) (c_M_in x1 0 1 _ hI ((rg_64 h1)) ((show r64 (0) by exact ⟨by decide, by decide⟩)) ((show r64 (1) by exact ⟨by decide, by decide⟩))) v mw_M_in wl_X11_55 ⟨Nat.le_of_ble_eq_true rfl, Nat.le_of_ble_eq_true rfl⟩ rfl rfl (Nat.le_of_ble_eq_true rfl) dX11_same_4 (fun z21 I22 hz21 hI22 v => ?_)
  refine r_if_eq B (tgt := 20) dX11_same_7 (by decide) hz21 (fun h => ?_) (fun h => ?_)
  · have v := v.1 h
    refine r_iconst B dX11_same_20 ?_
    exact r_iret B hr hk rfl ((rg_lit (by decide) (by decide))) hI22 v dX11_same_21
  · have v := v.2 h
    refine r_iload_n B dX11_same_10 rfl rfl ?_
    refine r_i2l B dX11_same_11 h2 ?_
    refine r_lconst B 0 dX11_same_12 (by decide) ?_
    refine r_lconst B 1 dX11_same_13 (by decide) ?_
    refine r_sI B (st := []) (as := [.long (l2 x2), .long (l2 0), .long (l2 1)]) (c_M_in x2 0 1 _ hI22 ((rg_64 h2)) ((show r64 (0) by exact ⟨by decide, by decide⟩)) ((show r64 (1) by exact ⟨by decide, by decide⟩))) v mw_M_in wl_X11_55 ⟨Nat.le_of_ble_eq_true rfl, Nat.le_of_ble_eq_true rfl⟩ rfl rfl (Nat.le_of_ble_eq_true rfl) dX11_same_14 (fun z23 I24 hz23 hI24 v => ?_)
    refine r_if_ne B (tgt := 22) dX11_same_17 (by decide) hz23 (fun h => ?_) (fun h => ?_)
    · have v := v.1 h
      refine r_aload_n B dX11_same_22 rfl rfl ?_
      refine r_getR B (C := RX11) (T := TX11) (N := 25) o_236 5 rfl win_X11 (by decide) rfl wf_X11_22 dX11_same_23 ?_
      refine r_iload_n B dX11_same_26 rfl rfl ?_
      obtain ⟨h25, v⟩ := v
      refine r_zld B a_241 (by decide) h25 dX11_same_27 ?_
      refine r_if_ne B (tgt := 34) dX11_same_28 (by decide) ((hI24 _ _)) (fun h => ?_) (fun h => ?_)
      · have v := v.1 h
        refine r_sipush B dX11_same_34 (by decide) ?_
        refine r_iload_n B dX11_same_37 rfl rfl ?_
        refine r_imul B dX11_same_38 ?_
        refine r_istore_n B dX11_same_39 rfl (by decide) (lv' := [(3, .int (i2 (980 * x1))), (0, .ref (eA E 236)), (1, .int (i2 x1)), (2, .int (i2 x2))]) rfl ?_
        refine r_sub [1, 2, 3, 0] rfl ?_
        refine r_iload_n B dX11_same_40 rfl rfl ?_
        refine r_if_ne B (tgt := 113) dX11_same_41 (by decide) h2 (fun h => ?_) (fun h => ?_)
        · have v := v.1 h
          refine r_aload_n B dX11_same_113 rfl rfl ?_
          refine r_iload_n B dX11_same_114 rfl rfl ?_
          refine r_iconst B dX11_same_115 ?_
          refine r_iconst B dX11_same_116 ?_
          obtain ⟨h26, v⟩ := v
          refine r_cI B (st := []) (as := [.int (i2 (980 * x1)), .int (i2 5), .int (i2 1)]) (T := TX11) (N := 25) (c_M_areAlike (980 * x1) 5 1 _ hI24 h26 ((rg_lit (by decide) (by decide))) ((rg_lit (by decide) (by decide)))) v o_236 rfl mw_M_areAlike wl_X11_222 ⟨Nat.le_of_ble_eq_true rfl, Nat.le_of_ble_eq_true rfl⟩ rfl rfl (Nat.le_of_ble_eq_true rfl) dX11_same_117 (fun z27 I28 hz27 hI28 v => ?_)
          refine r_if_eq B (tgt := 146) dX11_same_120 (by decide) hz27 (fun h => ?_) (fun h => ?_)
          · have v := v.1 h
            refine r_iconst B dX11_same_146 ?_
            refine r_istore B dX11_same_147 (by decide) (lv' := [(4, .int (i2 0)), (0, .ref (eA E 236)), (1, .int (i2 x1)), (2, .int (i2 x2)), (3, .int (i2 (980 * x1)))]) rfl ?_
            refine r_sub [1, 2, 3, 4, 0] rfl ?_
            refine r_iload B dX11_same_149 rfl ?_
            refine r_if_eq B (tgt := 158) dX11_same_151 (by decide) ((rg_lit (by decide) (by decide))) (fun _ => ?_) (fun h => absurd h (by decide))
            refine r_iconst B dX11_same_158 ?_
            exact r_iret B hr hk rfl ((rg_lit (by decide) (by decide))) hI28 v dX11_same_159
          · have v := v.2 h
            refine r_aload_n B dX11_same_123 rfl rfl ?_
            refine r_iload_n B dX11_same_124 rfl rfl ?_
            refine r_sipush B dX11_same_125 (by decide) ?_
            refine r_iconst B dX11_same_128 ?_
            refine r_aload_n B dX11_same_129 rfl rfl ?_
            refine r_getR B (C := RX11) (T := TX11) (N := 25) o_236 0 rfl win_X11 (by decide) rfl wf_X11_7 dX11_same_130 ?_
            refine r_iconst B dX11_same_133 ?_
            refine r_ald B a_237 (by decide) (by decide) dX11_same_134 ?_
            refine r_imul B dX11_same_135 ?_
            obtain ⟨h29, v⟩ := v
            refine r_cI B (st := []) (as := [.int (i2 (980 * x1)), .int (i2 144), .int (i2 (3 * I28 237 5))]) (T := TX11) (N := 25) (c_M_areAlike (980 * x1) 144 (3 * I28 237 5) _ hI28 h26 ((rg_lit (by decide) (by decide))) h29) v o_236 rfl mw_M_areAlike wl_X11_222 ⟨Nat.le_of_ble_eq_true rfl, Nat.le_of_ble_eq_true rfl⟩ rfl rfl (Nat.le_of_ble_eq_true rfl) dX11_same_136 (fun z30 I31 hz30 hI31 v => ?_)
            refine r_if_eq B (tgt := 146) dX11_same_139 (by decide) hz30 (fun h => ?_) (fun h => ?_)
            · have v := v.1 h
              refine r_iconst B dX11_same_146 ?_
              refine r_istore B dX11_same_147 (by decide) (lv' := [(4, .int (i2 0)), (0, .ref (eA E 236)), (1, .int (i2 x1)), (2, .int (i2 x2)), (3, .int (i2 (980 * x1)))]) rfl ?_
              refine r_sub [1, 2, 3, 4, 0] rfl ?_
              refine r_iload B dX11_same_149 rfl ?_
              refine r_if_eq B (tgt := 158) dX11_same_151 (by decide) ((rg_lit (by decide) (by decide))) (fun _ => ?_) (fun h => absurd h (by decide))
              refine r_iconst B dX11_same_158 ?_
              exact r_iret B hr hk rfl ((rg_lit (by decide) (by decide))) hI31 v dX11_same_159
            · have v := v.2 h
              refine r_iconst B dX11_same_142 ?_
              refine r_goto B (tgt := 147) dX11_same_143 (by decide) ?_
              refine r_istore B dX11_same_147 (by decide) (lv' := [(4, .int (i2 1)), (0, .ref (eA E 236)), (1, .int (i2 x1)), (2, .int (i2 x2)), (3, .int (i2 (980 * x1)))]) rfl ?_
              refine r_sub [1, 2, 3, 4, 0] rfl ?_
              refine r_iload B dX11_same_149 rfl ?_
              refine r_if_eq B (tgt := 158) dX11_same_151 (by decide) ((rg_lit (by decide) (by decide))) (fun h => absurd h (by decide)) (fun _ => ?_)
              refine r_iconst B dX11_same_154 ?_
              refine r_goto B (tgt := 159) dX11_same_155 (by decide) ?_
              exact r_iret B hr hk rfl ((rg_lit (by decide) (by decide))) hI31 v dX11_same_159
        · have v := v.2 h
          refine r_aload_n B dX11_same_44 rfl rfl ?_
          refine r_iload_n B dX11_same_45 rfl rfl ?_
          refine r_iconst B dX11_same_46 ?_
          refine r_iconst B dX11_same_47 ?_
          obtain ⟨h32, v⟩ := v
          refine r_cI B (st := []) (as := [.int (i2 (980 * x1)), .int (i2 0), .int (i2 1)]) (T := TX11) (N := 25) (c_M_areAlike (980 * x1) 0 1 _ hI24 h32 ((rg_lit (by decide) (by decide))) ((rg_lit (by decide) (by decide)))) v o_236 rfl mw_M_areAlike wl_X11_222 ⟨Nat.le_of_ble_eq_true rfl, Nat.le_of_ble_eq_true rfl⟩ rfl rfl (Nat.le_of_ble_eq_true rfl) dX11_same_48 (fun z33 I34 hz33 hI34 v => ?_)
          refine r_if_eq B (tgt := 109) dX11_same_51 (by decide) hz33 (fun h => ?_) (fun h => ?_)
          · have v := v.1 h
            refine r_iconst B dX11_same_109 ?_
            refine r_goto B (tgt := 147) dX11_same_110 (by decide) ?_
            refine r_istore B dX11_same_147 (by decide) (lv' := [(4, .int (i2 0)), (0, .ref (eA E 236)), (1, .int (i2 x1)), (2, .int (i2 x2)), (3, .int (i2 (980 * x1)))]) rfl ?_
            refine r_sub [1, 2, 3, 4, 0] rfl ?_
            refine r_iload B dX11_same_149 rfl ?_
            refine r_if_eq B (tgt := 158) dX11_same_151 (by decide) ((rg_lit (by decide) (by decide))) (fun _ => ?_) (fun h => absurd h (by decide))
            refine r_iconst B dX11_same_158 ?_
            exact r_iret B hr hk rfl ((rg_lit (by decide) (by decide))) hI34 v dX11_same_159
          · have v := v.2 h
            refine r_aload_n B dX11_same_54 rfl rfl ?_
            refine r_iload_n B dX11_same_55 rfl rfl ?_
            refine r_sipush B dX11_same_56 (by decide) ?_
            refine r_aload_n B dX11_same_59 rfl rfl ?_
            refine r_getR B (C := RX11) (T := TX11) (N := 25) o_236 0 rfl win_X11 (by decide) rfl wf_X11_7 dX11_same_60 ?_
            refine r_iconst B dX11_same_63 ?_
            refine r_ald B a_237 (by decide) (by decide) dX11_same_64 ?_
            refine r_cI B (st := []) (as := [.int (i2 (980 * x1)), .int (i2 380), .int (i2 (I34 237 0))]) (T := TX11) (N := 25) (c_M_areAlike (980 * x1) 380 (I34 237 0) _ hI34 h32 ((rg_lit (by decide) (by decide))) ((hI34 _ _))) v o_236 rfl mw_M_areAlike wl_X11_222 ⟨Nat.le_of_ble_eq_true rfl, Nat.le_of_ble_eq_true rfl⟩ rfl rfl (Nat.le_of_ble_eq_true rfl) dX11_same_65 (fun z35 I36 hz35 hI36 v => ?_)
            refine r_if_eq B (tgt := 109) dX11_same_68 (by decide) hz35 (fun h => ?_) (fun h => ?_)
            · have v := v.1 h
              refine r_iconst B dX11_same_109 ?_
              refine r_goto B (tgt := 147) dX11_same_110 (by decide) ?_
              refine r_istore B dX11_same_147 (by decide) (lv' := [(4, .int (i2 0)), (0, .ref (eA E 236)), (1, .int (i2 x1)), (2, .int (i2 x2)), (3, .int (i2 (980 * x1)))]) rfl ?_
              refine r_sub [1, 2, 3, 4, 0] rfl ?_
              refine r_iload B dX11_same_149 rfl ?_
              refine r_if_eq B (tgt := 158) dX11_same_151 (by decide) ((rg_lit (by decide) (by decide))) (fun _ => ?_) (fun h => absurd h (by decide))
              refine r_iconst B dX11_same_158 ?_
              exact r_iret B hr hk rfl ((rg_lit (by decide) (by decide))) hI36 v dX11_same_159
            · have v := v.2 h
              refine r_aload_n B dX11_same_71 rfl rfl ?_
              refine r_iload_n B dX11_same_72 rfl rfl ?_
              refine r_sipush B dX11_same_73 (by decide) ?_
              refine r_aload_n B dX11_same_76 rfl rfl ?_
              refine r_getR B (C := RX11) (T := TX11) (N := 25) o_236 0 rfl win_X11 (by decide) rfl wf_X11_7 dX11_same_77 ?_
              refine r_iconst B dX11_same_80 ?_
              refine r_ald B a_237 (by decide) (by decide) dX11_same_81 ?_
              refine r_cI B (st := []) (as := [.int (i2 (980 * x1)), .int (i2 580), .int (i2 (I36 237 0))]) (T := TX11) (N := 25) (c_M_areAlike (980 * x1) 580 (I36 237 0) _ hI36 h32 ((rg_lit (by decide) (by decide))) ((hI36 _ _))) v o_236 rfl mw_M_areAlike wl_X11_222 ⟨Nat.le_of_ble_eq_true rfl, Nat.le_of_ble_eq_true rfl⟩ rfl rfl (Nat.le_of_ble_eq_true rfl) dX11_same_82 (fun z37 I38 hz37 hI38 v => ?_)
              refine r_if_eq B (tgt := 109) dX11_same_85 (by decide) hz37 (fun h => ?_) (fun h => ?_)
              · have v := v.1 h
                refine r_iconst B dX11_same_109 ?_
                refine r_goto B (tgt := 147) dX11_same_110 (by decide) ?_
                refine r_istore B dX11_same_147 (by decide) (lv' := [(4, .int (i2 0)), (0, .ref (eA E 236)), (1, .int (i2 x1)), (2, .int (i2 x2)), (3, .int (i2 (980 * x1)))]) rfl ?_
                refine r_sub [1, 2, 3, 4, 0] rfl ?_
                refine r_iload B dX11_same_149 rfl ?_
                refine r_if_eq B (tgt := 158) dX11_same_151 (by decide) ((rg_lit (by decide) (by decide))) (fun _ => ?_) (fun h => absurd h (by decide))
                refine r_iconst B dX11_same_158 ?_
                exact r_iret B hr hk rfl ((rg_lit (by decide) (by decide))) hI38 v dX11_same_159
              · have v := v.2 h
                refine r_aload_n B dX11_same_88 rfl rfl ?_
                refine r_iload_n B dX11_same_89 rfl rfl ?_
                refine r_sipush B dX11_same_90 (by decide) ?_
                refine r_aload_n B dX11_same_93 rfl rfl ?_
                refine r_getR B (C := RX11) (T := TX11) (N := 25) o_236 0 rfl win_X11 (by decide) rfl wf_X11_7 dX11_same_94 ?_
                refine r_iconst B dX11_same_97 ?_
                refine r_ald B a_237 (by decide) (by decide) dX11_same_98 ?_
                refine r_cI B (st := []) (as := [.int (i2 (980 * x1)), .int (i2 780), .int (i2 (I38 237 0))]) (T := TX11) (N := 25) (c_M_areAlike (980 * x1) 780 (I38 237 0) _ hI38 h32 ((rg_lit (by decide) (by decide))) ((hI38 _ _))) v o_236 rfl mw_M_areAlike wl_X11_222 ⟨Nat.le_of_ble_eq_true rfl, Nat.le_of_ble_eq_true rfl⟩ rfl rfl (Nat.le_of_ble_eq_true rfl) dX11_same_99 (fun z39 I40 hz39 hI40 v => ?_)
                refine r_if_eq B (tgt := 109) dX11_same_102 (by decide) hz39 (fun h => ?_) (fun h => ?_)
                · have v := v.1 h
                  refine r_iconst B dX11_same_109 ?_
                  refine r_goto B (tgt := 147) dX11_same_110 (by decide) ?_
                  refine r_istore B dX11_same_147 (by decide) (lv' := [(4, .int (i2 0)), (0, .ref (eA E 236)), (1, .int (i2 x1)), (2, .int (i2 x2)), (3, .int (i2 (980 * x1)))]) rfl ?_
                  refine r_sub [1, 2, 3, 4, 0] rfl ?_
                  refine r_iload B dX11_same_149 rfl ?_
                  refine r_if_eq B (tgt := 158) dX11_same_151 (by decide) ((rg_lit (by decide) (by decide))) (fun _ => ?_) (fun h => absurd h (by decide))
                  refine r_iconst B dX11_same_158 ?_
                  exact r_iret B hr hk rfl ((rg_lit (by decide) (by decide))) hI40 v dX11_same_159
                · have v := v.2 h
                  refine r_iconst B dX11_same_105 ?_
                  refine r_goto B (tgt := 147) dX11_same_106 (by decide) ?_
                  refine r_istore B dX11_same_147 (by decide) (lv' := [(4, .int (i2 1)), (0, .ref (eA E 236)), (1, .int (i2 x1)), (2, .int (i2 x2)), (3, .int (i2 (980 * x1)))]) rfl ?_
                  refine r_sub [1, 2, 3, 4, 0] rfl ?_
                  refine r_iload B dX11_same_149 rfl ?_
                  refine r_if_eq B (tgt := 158) dX11_same_151 (by decide) ((rg_lit (by decide) (by decide))) (fun h => absurd h (by decide)) (fun _ => ?_)
                  refine r_iconst B dX11_same_154 ?_
                  refine r_goto B (tgt := 159) dX11_same_155 (by decide) ?_
                  exact r_iret B hr hk rfl ((rg_lit (by decide) (by decide))) hI40 v dX11_same_159
      · have v := v.2 h
        refine r_bipush B dX11_same_31 (by decide) ?_
        exact r_iret B hr hk rfl ((rg_lit (by decide) (by decide))) hI24 v dX11_same_33
    · have v := v.2 h
      refine r_iconst B dX11_same_20 ?_
      exact r_iret B hr hk rfl ((rg_lit (by decide) (by decide))) hI24 v dX11_same_21
set_option maxHeartbeats 4000000 in
set_option maxRecDepth 100000 in
theorem c_M_spell {l : Launch} {E : En} {A : Nat → Prop} (x1 : Int) (I : Mm)  (hI : rgM I) (h1 : r32 x1) : CV l E A yX11_spell cX11_spell 2 0 0 [.ref (eA E 236), .int (i2 x1)] I (V_M_spell x1 I) := by
  intro Q v
  refine mk_met (own := RX11) (lv0 := [(0, .ref (eA E 236)), (1, .int (i2 x1))]) (by decide) rfl (Nat.le_of_ble_eq_true rfl) rfl (fun p e s m args below meth c0 B hr hk => ?_)
  unfold V_M_spell at v
  refine r_aload_n B dX11_spell_0 rfl rfl ?_
  refine r_getI B (C := RX11) (T := TX11) (N := 25) o_236 12 rfl win_X11 (by decide) rfl wf_X11_226 dX11_spell_1 (jj := 12) rfl ?_
  refine r_aload_n B dX11_spell_4 rfl rfl ?_
  refine r_getI B (C := RX11) (T := TX11) (N := 25) o_236 13 rfl win_X11 (by decide) rfl wf_X11_229 dX11_spell_5 (jj := 13) rfl ?_
  refine r_icmp_ne B (tgt := 16) dX11_spell_8 (by decide) ((hI _ _)) ((hI _ _)) (fun h => ?_) (fun h => ?_)
  · have v := v.1 h
    refine r_aload_n B dX11_spell_16 rfl rfl ?_
    refine r_dup B dX11_spell_17 rfl ?_
    refine r_getI B (C := RX11) (T := TX11) (N := 25) o_236 12 rfl win_X11 (by decide) rfl wf_X11_226 dX11_spell_18 (jj := 12) rfl ?_
    refine r_iconst B dX11_spell_21 ?_
    refine r_iadd B dX11_spell_22 ?_
    obtain ⟨h21, v⟩ := v
    refine r_putI B (C := RX11) (T := TX11) (N := 25) o_236 12 rfl win_X11 tyX11 tyX11_ok nmX11 (by decide) rfl rfl rfl wf_X11_226 dX11_spell_23 (jj := 12) rfl ?_
    have hI22 : rgM (wrM I 236 12 (I 236 12 + 1)) := rg_wr hI h21
    exact r_vret B hr hk hI22 v dX11_spell_26
  · have v := v.2 h
    refine r_aload_n B dX11_spell_11 rfl rfl ?_
    refine r_iload_n B dX11_spell_12 rfl rfl ?_
    refine r_putI B (C := RX11) (T := TX11) (N := 25) o_236 14 rfl win_X11 tyX11 tyX11_ok nmX11 (by decide) rfl rfl rfl wf_X11_232 dX11_spell_13 (jj := 14) rfl ?_
    have hI23 : rgM (wrM I 236 14 x1) := rg_wr hI h1
    refine r_aload_n B dX11_spell_16 rfl rfl ?_
    refine r_dup B dX11_spell_17 rfl ?_
    refine r_getI B (C := RX11) (T := TX11) (N := 25) o_236 12 rfl win_X11 (by decide) rfl wf_X11_226 dX11_spell_18 (jj := 12) rfl ?_
    refine r_iconst B dX11_spell_21 ?_
    refine r_iadd B dX11_spell_22 ?_
    obtain ⟨h24, v⟩ := v
    refine r_putI B (C := RX11) (T := TX11) (N := 25) o_236 12 rfl win_X11 tyX11 tyX11_ok nmX11 (by decide) rfl rfl rfl wf_X11_226 dX11_spell_23 (jj := 12) rfl ?_
    have hI25 : rgM (wrM ((wrM I 236 14 x1)) 236 12 ((wrM I 236 14 x1) 236 12 + 1)) := rg_wr hI23 h24
    exact r_vret B hr hk hI25 v dX11_spell_26
set_option maxHeartbeats 4000000 in
set_option maxRecDepth 100000 in
theorem wL_M_spells_2 {p : Program} {l : Launch} {e : Env} {s : State} {m : MethodId} {args : Array Value} {below : List Frame} {meth : Method} {c0 : Code} {E : En} {A : Nat → Prop} {w1 : Nat} {Q : Mm → Prop}  (B : Bd p (rmm 4 120) s m args c0 cX11_spells 3 RX11 E A 0 0) (hr : meth.sig.returnType = none) (hk : meth.locks = false) (hw1 : w1 < slen.length)   : ∀ (n : Nat) (x2 : Int) (I : Mm), rgM I → r32 x2 → L_M_spells_2 w1 Q n x2 I → WI p l e (rmm 4 120) s m args below meth c0 E A 3 0 0 (qV below E A args s Q) I 2 [(0, .ref (eA E 236)), (1, .ref (eS E w1)), (2, .int (i2 x2))] [] := by
  intro n
  induction n with
  | zero => intro x2 I _ _ v; exact absurd v id
  | succ n ih =>
    intro x2 I hI h2 v
    unfold L_M_spells_2 at v
    refine r_iload_n B dX11_spells_2 rfl rfl ?_
    refine r_aload_n B dX11_spells_3 rfl rfl ?_
    refine r_strlen B hw1 hI ⟨Nat.le_of_ble_eq_true rfl, Nat.le_of_ble_eq_true rfl⟩ (Nat.le_of_ble_eq_true rfl) wl_X11_241 dX11_spells_4 ?_
    refine r_icmp_ge B (tgt := 25) dX11_spells_7 (by decide) h2 ((rg_slen hw1)) (fun h => ?_) (fun h => ?_)
    · have v := v.1 h
      exact r_vret B hr hk hI v dX11_spells_25
    · have v := v.2 h
      refine r_aload_n B dX11_spells_10 rfl rfl ?_
      refine r_aload_n B dX11_spells_11 rfl rfl ?_
      refine r_iload_n B dX11_spells_12 rfl rfl ?_
      obtain ⟨h22, v⟩ := v
      refine r_strchr B hw1 hI h2 h22 ⟨Nat.le_of_ble_eq_true rfl, Nat.le_of_ble_eq_true rfl⟩ (Nat.le_of_ble_eq_true rfl) wl_X11_246 dX11_spells_13 ?_
      refine r_cV B (st := []) (as := [.int (i2 (sch w1 x2))]) (T := TX11) (N := 25) (c_M_spell (sch w1 x2) _ hI ((rg_sch _ _))) v o_236 rfl mw_M_spell wl_X11_238 ⟨Nat.le_of_ble_eq_true rfl, Nat.le_of_ble_eq_true rfl⟩ rfl rfl (Nat.le_of_ble_eq_true rfl) dX11_spells_16 (fun I23 hI23 v => ?_)
      refine r_iinc B (q := 2) dX11_spells_19 (by decide) rfl (lv' := [(2, .int (i2 (x2 + 1))), (0, .ref (eA E 236)), (1, .ref (eS E w1))]) rfl ?_
      refine r_sub [1, 2, 0] rfl ?_
      refine r_goto B (tgt := 2) dX11_spells_22 (by decide) ?_
      obtain ⟨h24, v⟩ := v
      refine r_sub [0, 1, 2] rfl ?_
      exact ih (x2 + 1) _ hI23 h24 v
set_option maxHeartbeats 4000000 in
set_option maxRecDepth 100000 in
theorem c_M_spells {l : Launch} {E : En} {A : Nat → Prop} (w1 : Nat) (I : Mm) (hw1 : w1 < slen.length) (hI : rgM I)  : CV l E A yX11_spells cX11_spells 3 4 120 [.ref (eA E 236), .ref (eS E w1)] I (V_M_spells w1 I) := by
  intro Q v
  refine mk_met (own := RX11) (lv0 := [(0, .ref (eA E 236)), (1, .ref (eS E w1))]) (by decide) rfl (Nat.le_of_ble_eq_true rfl) rfl (fun p e s m args below meth c0 B hr hk => ?_)
  unfold V_M_spells at v
  refine r_iconst B dX11_spells_0 ?_
  refine r_istore_n B dX11_spells_1 rfl (by decide) (lv' := [(2, .int (i2 0)), (0, .ref (eA E 236)), (1, .ref (eS E w1))]) rfl ?_
  refine r_sub [1, 2, 0] rfl ?_
  obtain ⟨f25, v⟩ := v
  refine r_sub [0, 1, 2] rfl ?_
  exact wL_M_spells_2 B hr hk hw1 f25 0 I hI ((rg_lit (by decide) (by decide))) v
set_option maxHeartbeats 4000000 in
set_option maxRecDepth 100000 in
theorem c_M_spellNumber {l : Launch} {E : En} {A : Nat → Prop} : ∀ (d : Nat) (x1 : Int) (I : Mm), rgM I → r32 x1 → CV l E A yX11_spellNumber cX11_spellNumber 2 (d + 2) (d * 40 + 81) [.ref (eA E 236), .int (i2 x1)] I (V_M_spellNumber d x1 I) := by
  intro d
  induction d with
  | zero => intro x1 I hI _ Q v; exact absurd v id
  | succ d ihd =>
    intro x1 I hI h1 Q v
    refine mk_met (own := RX11) (lv0 := [(0, .ref (eA E 236)), (1, .int (i2 x1))]) (by decide) rfl (Nat.le_of_ble_eq_true rfl) rfl (fun p e s m args below meth c0 B hr hk => ?_)
    unfold V_M_spellNumber at v
    refine r_iload_n B dX11_spellNumber_0 rfl rfl ?_
    refine r_bipush B dX11_spellNumber_1 (by decide) ?_
    refine r_icmp_le B (tgt := 14) dX11_spellNumber_3 (by decide) h1 ((rg_lit (by decide) (by decide))) (fun h => ?_) (fun h => ?_)
    · have v := v.1 h
      refine r_aload_n B dX11_spellNumber_14 rfl rfl ?_
      refine r_bipush B dX11_spellNumber_15 (by decide) ?_
      refine r_iload_n B dX11_spellNumber_17 rfl rfl ?_
      refine r_bipush B dX11_spellNumber_18 (by decide) ?_
      obtain ⟨h21, v⟩ := v
      refine r_irem B dX11_spellNumber_20 h1 ((rg_lit (by decide) (by decide))) (show 0 ≤ x1 ∧ (0 : Int) < 10 from ⟨h21, by decide⟩) ?_
      refine r_iadd B dX11_spellNumber_21 ?_
      obtain ⟨h22, v⟩ := v
      refine r_cV B (st := []) (as := [.int (i2 (48 + (x1 % 10)))]) (T := TX11) (N := 25) (c_M_spell (48 + (x1 % 10)) _ hI h22) v o_236 rfl mw_M_spell wl_X11_238 ⟨Nat.le_of_ble_eq_true rfl, Nat.le_of_ble_eq_true rfl⟩ rfl rfl (Nat.le_of_ble_eq_true rfl) dX11_spellNumber_22 (fun I23 hI23 v => ?_)
      exact r_vret B hr hk hI23 v dX11_spellNumber_25
    · have v := v.2 h
      refine r_aload_n B dX11_spellNumber_6 rfl rfl ?_
      refine r_iload_n B dX11_spellNumber_7 rfl rfl ?_
      refine r_bipush B dX11_spellNumber_8 (by decide) ?_
      obtain ⟨h24, v⟩ := v
      refine r_idiv B dX11_spellNumber_10 h1 ((rg_lit (by decide) (by decide))) (show 0 ≤ x1 ∧ (0 : Int) < 10 from ⟨h24, by decide⟩) ?_
      refine r_cV B (st := []) (as := [.int (i2 (x1 / 10))]) (T := TX11) (N := 25) (ihd (x1 / 10) _ hI ((rg_div h1 (show 0 ≤ x1 ∧ (0 : Int) < 10 from ⟨h24, by decide⟩).1 (show 0 ≤ x1 ∧ (0 : Int) < 10 from ⟨h24, by decide⟩).2))) v o_236 rfl mw_M_spellNumber wl_X11_235 ⟨(by show d + 2 + 1 ≤ d + 1 + 2; omega), (by show 8 + (2 + 11) + (d * 40 + 81) ≤ (d + 1) * 40 + 81; omega)⟩ rfl rfl (Nat.le_of_ble_eq_true rfl) dX11_spellNumber_11 (fun I25 hI25 v => ?_)
      refine r_aload_n B dX11_spellNumber_14 rfl rfl ?_
      refine r_bipush B dX11_spellNumber_15 (by decide) ?_
      refine r_iload_n B dX11_spellNumber_17 rfl rfl ?_
      refine r_bipush B dX11_spellNumber_18 (by decide) ?_
      obtain ⟨h26, v⟩ := v
      refine r_irem B dX11_spellNumber_20 h1 ((rg_lit (by decide) (by decide))) (show 0 ≤ x1 ∧ (0 : Int) < 10 from ⟨h26, by decide⟩) ?_
      refine r_iadd B dX11_spellNumber_21 ?_
      obtain ⟨h27, v⟩ := v
      refine r_cV B (st := []) (as := [.int (i2 (48 + (x1 % 10)))]) (T := TX11) (N := 25) (c_M_spell (48 + (x1 % 10)) _ hI25 h27) v o_236 rfl mw_M_spell wl_X11_238 ⟨Nat.le_of_ble_eq_true rfl, Nat.le_of_ble_eq_true rfl⟩ rfl rfl (Nat.le_of_ble_eq_true rfl) dX11_spellNumber_22 (fun I28 hI28 v => ?_)
      exact r_vret B hr hk hI28 v dX11_spellNumber_25
set_option maxHeartbeats 4000000 in
set_option maxRecDepth 100000 in
theorem wL_M_spellName_2 {p : Program} {l : Launch} {e : Env} {s : State} {m : MethodId} {args : Array Value} {below : List Frame} {meth : Method} {c0 : Code} {E : En} {A : Nat → Prop} {x1 : Int} {Q : Mm → Prop}  (B : Bd p (rmm 1 22) s m args c0 cX11_spellName 3 RX11 E A 0 0) (hr : meth.sig.returnType = none) (hk : meth.locks = false) (h1 : r32 x1)   : ∀ (n : Nat) (x2 : Int) (I : Mm), rgM I → r32 x2 → L_M_spellName_2 x1 Q n x2 I → WI p l e (rmm 1 22) s m args below meth c0 E A 3 0 0 (qV below E A args s Q) I 2 [(0, .ref (eA E 236)), (1, .int (i2 x1)), (2, .int (i2 x2))] [] := by
  intro n
  induction n with
  | zero => intro x2 I _ _ v; exact absurd v id
  | succ n ih =>
    intro x2 I hI h2 v
    unfold L_M_spellName_2 at v
    refine r_iload_n B dX11_spellName_2 rfl rfl ?_
    refine r_aload_n B dX11_spellName_3 rfl rfl ?_
    refine r_iload_n B dX11_spellName_4 rfl rfl ?_
    refine r_cI B (st := [.int (i2 x2)]) (as := [.int (i2 x1)]) (T := TX11) (N := 25) (c_M_letters x1 _ hI h1) v o_236 rfl mw_M_letters wl_X11_164 ⟨Nat.le_of_ble_eq_true rfl, Nat.le_of_ble_eq_true rfl⟩ rfl rfl (Nat.le_of_ble_eq_true rfl) dX11_spellName_5 (fun z21 I22 hz21 hI22 v => ?_)
    refine r_icmp_ge B (tgt := 35) dX11_spellName_8 (by decide) h2 hz21 (fun h => ?_) (fun h => ?_)
    · have v := v.1 h
      exact r_vret B hr hk hI22 v dX11_spellName_35
    · have v := v.2 h
      refine r_aload_n B dX11_spellName_11 rfl rfl ?_
      refine r_aload_n B dX11_spellName_12 rfl rfl ?_
      refine r_getR B (C := RX11) (T := TX11) (N := 25) o_236 0 rfl win_X11 (by decide) rfl wf_X11_7 dX11_spellName_13 ?_
      refine r_bipush B dX11_spellName_16 (by decide) ?_
      refine r_bipush B dX11_spellName_18 (by decide) ?_
      refine r_iload_n B dX11_spellName_20 rfl rfl ?_
      refine r_imul B dX11_spellName_21 ?_
      refine r_iadd B dX11_spellName_22 ?_
      refine r_iload_n B dX11_spellName_23 rfl rfl ?_
      refine r_iadd B dX11_spellName_24 ?_
      obtain ⟨h23, v⟩ := v
      refine r_ald B a_237 (by decide) h23 dX11_spellName_25 ?_
      refine r_cV B (st := []) (as := [.int (i2 (I22 237 ((48 + (6 * x1)) + x2)))]) (T := TX11) (N := 25) (c_M_spell (I22 237 ((48 + (6 * x1)) + x2)) _ hI22 ((hI22 _ _))) v o_236 rfl mw_M_spell wl_X11_238 ⟨Nat.le_of_ble_eq_true rfl, Nat.le_of_ble_eq_true rfl⟩ rfl rfl (Nat.le_of_ble_eq_true rfl) dX11_spellName_26 (fun I24 hI24 v => ?_)
      refine r_iinc B (q := 2) dX11_spellName_29 (by decide) rfl (lv' := [(2, .int (i2 (x2 + 1))), (0, .ref (eA E 236)), (1, .int (i2 x1))]) rfl ?_
      refine r_sub [1, 2, 0] rfl ?_
      refine r_goto B (tgt := 2) dX11_spellName_32 (by decide) ?_
      obtain ⟨h25, v⟩ := v
      refine r_sub [0, 1, 2] rfl ?_
      exact ih (x2 + 1) _ hI24 h25 v
set_option maxHeartbeats 4000000 in
set_option maxRecDepth 100000 in
theorem c_M_spellName {l : Launch} {E : En} {A : Nat → Prop} (x1 : Int) (I : Mm)  (hI : rgM I) (h1 : r32 x1) : CV l E A yX11_spellName cX11_spellName 3 1 22 [.ref (eA E 236), .int (i2 x1)] I (V_M_spellName x1 I) := by
  intro Q v
  refine mk_met (own := RX11) (lv0 := [(0, .ref (eA E 236)), (1, .int (i2 x1))]) (by decide) rfl (Nat.le_of_ble_eq_true rfl) rfl (fun p e s m args below meth c0 B hr hk => ?_)
  unfold V_M_spellName at v
  refine r_iconst B dX11_spellName_0 ?_
  refine r_istore_n B dX11_spellName_1 rfl (by decide) (lv' := [(2, .int (i2 0)), (0, .ref (eA E 236)), (1, .int (i2 x1))]) rfl ?_
  refine r_sub [1, 2, 0] rfl ?_
  obtain ⟨f26, v⟩ := v
  refine r_sub [0, 1, 2] rfl ?_
  exact wL_M_spellName_2 B hr hk h1 f26 0 I hI ((rg_lit (by decide) (by decide))) v
set_option maxHeartbeats 4000000 in
set_option maxRecDepth 100000 in
theorem wL_M_spellAll_35 {p : Program} {l : Launch} {e : Env} {s : State} {m : MethodId} {args : Array Value} {below : List Frame} {meth : Method} {c0 : Code} {E : En} {A : Nat → Prop}  {Q : Mm → Prop} {K92 : Mm → Prop} (B : Bd p (rmm 15 582) s m args c0 cX11_spellAll 2 RX11 E A 0 0) (hr : meth.sig.returnType = none) (hk : meth.locks = false)   (k92 : ∀ (I : Mm), rgM I → K92 I → WI p l e (rmm 15 582) s m args below meth c0 E A 2 0 0 (qV below E A args s Q) I 92 [(0, .ref (eA E 236))] []) : ∀ (n : Nat) (x1 : Int) (I : Mm), rgM I → r32 x1 → L_M_spellAll_35 Q K92 n x1 I → WI p l e (rmm 15 582) s m args below meth c0 E A 2 0 0 (qV below E A args s Q) I 35 [(0, .ref (eA E 236)), (1, .int (i2 x1))] [] := by
  intro n
  induction n with
  | zero => intro x1 I _ _ v; exact absurd v id
  | succ n ih =>
    intro x1 I hI h1 v
    unfold L_M_spellAll_35 at v
    refine r_iload_n B dX11_spellAll_35 rfl rfl ?_
    refine r_aload_n B dX11_spellAll_36 rfl rfl ?_
    refine r_getR B (C := RX11) (T := TX11) (N := 25) o_236 0 rfl win_X11 (by decide) rfl wf_X11_7 dX11_spellAll_37 ?_
    refine r_iconst B dX11_spellAll_40 ?_
    refine r_ald B a_237 (by decide) (by decide) dX11_spellAll_41 ?_
    refine r_icmp_ge B (tgt := 92) dX11_spellAll_42 (by decide) h1 ((hI _ _)) (fun h => ?_) (fun h => ?_)
    · have v := v.1 h
      refine r_sub [0] rfl ?_
      exact k92 _ hI v
    · have v := v.2 h
      refine r_aload_n B dX11_spellAll_45 rfl rfl ?_
      refine r_ldcSW B (i := 10) (tx := ";at ") (by decide) dX11_spellAll_46 ?_
      refine r_cV B (st := []) (as := [.ref (eS E 10)]) (T := TX11) (N := 25) (c_M_spells 10 _ ((by decide)) hI ) v o_236 rfl mw_M_spells wl_X11_252 ⟨Nat.le_of_ble_eq_true rfl, Nat.le_of_ble_eq_true rfl⟩ rfl rfl (Nat.le_of_ble_eq_true rfl) dX11_spellAll_49 (fun I25 hI25 v => ?_)
      refine r_aload_n B dX11_spellAll_52 rfl rfl ?_
      refine r_aload_n B dX11_spellAll_53 rfl rfl ?_
      refine r_getR B (C := RX11) (T := TX11) (N := 25) o_236 0 rfl win_X11 (by decide) rfl wf_X11_7 dX11_spellAll_54 ?_
      refine r_sipush B dX11_spellAll_57 (by decide) ?_
      refine r_iload_n B dX11_spellAll_60 rfl rfl ?_
      refine r_iadd B dX11_spellAll_61 ?_
      obtain ⟨h26, v⟩ := v
      refine r_ald B a_237 (by decide) h26 dX11_spellAll_62 ?_
      refine r_cV B (st := []) (as := [.int (i2 (I25 237 (780 + x1)))]) (T := TX11) (N := 25) (c_M_spellNumber 12 (I25 237 (780 + x1)) _ hI25 ((hI25 _ _))) v o_236 rfl mw_M_spellNumber wl_X11_235 ⟨Nat.le_of_ble_eq_true rfl, Nat.le_of_ble_eq_true rfl⟩ rfl rfl (Nat.le_of_ble_eq_true rfl) dX11_spellAll_63 (fun I27 hI27 v => ?_)
      refine r_aload_n B dX11_spellAll_66 rfl rfl ?_
      refine r_bipush B dX11_spellAll_67 (by decide) ?_
      refine r_cV B (st := []) (as := [.int (i2 32)]) (T := TX11) (N := 25) (c_M_spell 32 _ hI27 ((rg_lit (by decide) (by decide)))) v o_236 rfl mw_M_spell wl_X11_238 ⟨Nat.le_of_ble_eq_true rfl, Nat.le_of_ble_eq_true rfl⟩ rfl rfl (Nat.le_of_ble_eq_true rfl) dX11_spellAll_69 (fun I28 hI28 v => ?_)
      refine r_aload_n B dX11_spellAll_72 rfl rfl ?_
      refine r_aload_n B dX11_spellAll_73 rfl rfl ?_
      refine r_getR B (C := RX11) (T := TX11) (N := 25) o_236 0 rfl win_X11 (by decide) rfl wf_X11_7 dX11_spellAll_74 ?_
      refine r_sipush B dX11_spellAll_77 (by decide) ?_
      refine r_iload_n B dX11_spellAll_80 rfl rfl ?_
      refine r_iadd B dX11_spellAll_81 ?_
      obtain ⟨h29, v⟩ := v
      refine r_ald B a_237 (by decide) h29 dX11_spellAll_82 ?_
      refine r_cV B (st := []) (as := [.int (i2 (I28 237 (580 + x1)))]) (T := TX11) (N := 25) (c_M_spellName (I28 237 (580 + x1)) _ hI28 ((hI28 _ _))) v o_236 rfl mw_M_spellName wl_X11_260 ⟨Nat.le_of_ble_eq_true rfl, Nat.le_of_ble_eq_true rfl⟩ rfl rfl (Nat.le_of_ble_eq_true rfl) dX11_spellAll_83 (fun I30 hI30 v => ?_)
      refine r_iinc B (q := 1) dX11_spellAll_86 (by decide) rfl (lv' := [(1, .int (i2 (x1 + 1))), (0, .ref (eA E 236))]) rfl ?_
      refine r_sub [1, 0] rfl ?_
      refine r_goto B (tgt := 35) dX11_spellAll_89 (by decide) ?_
      obtain ⟨h31, v⟩ := v
      refine r_sub [0, 1] rfl ?_
      exact ih (x1 + 1) _ hI30 h31 v
set_option maxHeartbeats 4000000 in
set_option maxRecDepth 100000 in
theorem wL_M_spellAll_94 {p : Program} {l : Launch} {e : Env} {s : State} {m : MethodId} {args : Array Value} {below : List Frame} {meth : Method} {c0 : Code} {E : En} {A : Nat → Prop}  {Q : Mm → Prop}  (B : Bd p (rmm 15 582) s m args c0 cX11_spellAll 2 RX11 E A 0 0) (hr : meth.sig.returnType = none) (hk : meth.locks = false)    : ∀ (n : Nat) (x1 : Int) (I : Mm), rgM I → r32 x1 → L_M_spellAll_94 Q n x1 I → WI p l e (rmm 15 582) s m args below meth c0 E A 2 0 0 (qV below E A args s Q) I 94 [(0, .ref (eA E 236)), (1, .int (i2 x1))] [] := by
  intro n
  induction n with
  | zero => intro x1 I _ _ v; exact absurd v id
  | succ n ih =>
    intro x1 I hI h1 v
    unfold L_M_spellAll_94 at v
    refine r_iload_n B dX11_spellAll_94 rfl rfl ?_
    refine r_aload_n B dX11_spellAll_95 rfl rfl ?_
    refine r_getR B (C := RX11) (T := TX11) (N := 25) o_236 0 rfl win_X11 (by decide) rfl wf_X11_7 dX11_spellAll_96 ?_
    refine r_iconst B dX11_spellAll_99 ?_
    refine r_ald B a_237 (by decide) (by decide) dX11_spellAll_100 ?_
    refine r_icmp_ge B (tgt := 182) dX11_spellAll_101 (by decide) h1 ((hI _ _)) (fun h => ?_) (fun h => ?_)
    · have v := v.1 h
      exact r_vret B hr hk hI v dX11_spellAll_182
    · have v := v.2 h
      refine r_aload_n B dX11_spellAll_104 rfl rfl ?_
      refine r_ldcSW B (i := 12) (tx := ";after ") (by decide) dX11_spellAll_105 ?_
      refine r_cV B (st := []) (as := [.ref (eS E 12)]) (T := TX11) (N := 25) (c_M_spells 12 _ ((by decide)) hI ) v o_236 rfl mw_M_spells wl_X11_252 ⟨Nat.le_of_ble_eq_true rfl, Nat.le_of_ble_eq_true rfl⟩ rfl rfl (Nat.le_of_ble_eq_true rfl) dX11_spellAll_108 (fun I33 hI33 v => ?_)
      refine r_aload_n B dX11_spellAll_111 rfl rfl ?_
      refine r_aload_n B dX11_spellAll_112 rfl rfl ?_
      refine r_getR B (C := RX11) (T := TX11) (N := 25) o_236 0 rfl win_X11 (by decide) rfl wf_X11_7 dX11_spellAll_113 ?_
      refine r_sipush B dX11_spellAll_116 (by decide) ?_
      refine r_iconst B dX11_spellAll_119 ?_
      refine r_iload_n B dX11_spellAll_120 rfl rfl ?_
      refine r_imul B dX11_spellAll_121 ?_
      refine r_iadd B dX11_spellAll_122 ?_
      obtain ⟨h34, v⟩ := v
      refine r_ald B a_237 (by decide) h34 dX11_spellAll_123 ?_
      refine r_cV B (st := []) (as := [.int (i2 (I33 237 (144 + (3 * x1))))]) (T := TX11) (N := 25) (c_M_spellName (I33 237 (144 + (3 * x1))) _ hI33 ((hI33 _ _))) v o_236 rfl mw_M_spellName wl_X11_260 ⟨Nat.le_of_ble_eq_true rfl, Nat.le_of_ble_eq_true rfl⟩ rfl rfl (Nat.le_of_ble_eq_true rfl) dX11_spellAll_124 (fun I35 hI35 v => ?_)
      refine r_aload_n B dX11_spellAll_127 rfl rfl ?_
      refine r_ldcSW B (i := 13) (tx := " in ") (by decide) dX11_spellAll_128 ?_
      refine r_cV B (st := []) (as := [.ref (eS E 13)]) (T := TX11) (N := 25) (c_M_spells 13 _ ((by decide)) hI35 ) v o_236 rfl mw_M_spells wl_X11_252 ⟨Nat.le_of_ble_eq_true rfl, Nat.le_of_ble_eq_true rfl⟩ rfl rfl (Nat.le_of_ble_eq_true rfl) dX11_spellAll_131 (fun I36 hI36 v => ?_)
      refine r_aload_n B dX11_spellAll_134 rfl rfl ?_
      refine r_aload_n B dX11_spellAll_135 rfl rfl ?_
      refine r_getR B (C := RX11) (T := TX11) (N := 25) o_236 0 rfl win_X11 (by decide) rfl wf_X11_7 dX11_spellAll_136 ?_
      refine r_sipush B dX11_spellAll_139 (by decide) ?_
      refine r_iconst B dX11_spellAll_142 ?_
      refine r_iload_n B dX11_spellAll_143 rfl rfl ?_
      refine r_imul B dX11_spellAll_144 ?_
      refine r_iadd B dX11_spellAll_145 ?_
      refine r_iconst B dX11_spellAll_146 ?_
      refine r_iadd B dX11_spellAll_147 ?_
      obtain ⟨h37, v⟩ := v
      refine r_ald B a_237 (by decide) h37 dX11_spellAll_148 ?_
      refine r_cV B (st := []) (as := [.int (i2 (I36 237 ((144 + (3 * x1)) + 2)))]) (T := TX11) (N := 25) (c_M_spellNumber 12 (I36 237 ((144 + (3 * x1)) + 2)) _ hI36 ((hI36 _ _))) v o_236 rfl mw_M_spellNumber wl_X11_235 ⟨Nat.le_of_ble_eq_true rfl, Nat.le_of_ble_eq_true rfl⟩ rfl rfl (Nat.le_of_ble_eq_true rfl) dX11_spellAll_149 (fun I38 hI38 v => ?_)
      refine r_aload_n B dX11_spellAll_152 rfl rfl ?_
      refine r_bipush B dX11_spellAll_153 (by decide) ?_
      refine r_cV B (st := []) (as := [.int (i2 32)]) (T := TX11) (N := 25) (c_M_spell 32 _ hI38 ((rg_lit (by decide) (by decide)))) v o_236 rfl mw_M_spell wl_X11_238 ⟨Nat.le_of_ble_eq_true rfl, Nat.le_of_ble_eq_true rfl⟩ rfl rfl (Nat.le_of_ble_eq_true rfl) dX11_spellAll_155 (fun I39 hI39 v => ?_)
      refine r_aload_n B dX11_spellAll_158 rfl rfl ?_
      refine r_aload_n B dX11_spellAll_159 rfl rfl ?_
      refine r_getR B (C := RX11) (T := TX11) (N := 25) o_236 0 rfl win_X11 (by decide) rfl wf_X11_7 dX11_spellAll_160 ?_
      refine r_sipush B dX11_spellAll_163 (by decide) ?_
      refine r_iconst B dX11_spellAll_166 ?_
      refine r_iload_n B dX11_spellAll_167 rfl rfl ?_
      refine r_imul B dX11_spellAll_168 ?_
      refine r_iadd B dX11_spellAll_169 ?_
      refine r_iconst B dX11_spellAll_170 ?_
      refine r_iadd B dX11_spellAll_171 ?_
      obtain ⟨h40, v⟩ := v
      refine r_ald B a_237 (by decide) h40 dX11_spellAll_172 ?_
      refine r_cV B (st := []) (as := [.int (i2 (I39 237 ((144 + (3 * x1)) + 1)))]) (T := TX11) (N := 25) (c_M_spellName (I39 237 ((144 + (3 * x1)) + 1)) _ hI39 ((hI39 _ _))) v o_236 rfl mw_M_spellName wl_X11_260 ⟨Nat.le_of_ble_eq_true rfl, Nat.le_of_ble_eq_true rfl⟩ rfl rfl (Nat.le_of_ble_eq_true rfl) dX11_spellAll_173 (fun I41 hI41 v => ?_)
      refine r_iinc B (q := 1) dX11_spellAll_176 (by decide) rfl (lv' := [(1, .int (i2 (x1 + 1))), (0, .ref (eA E 236))]) rfl ?_
      refine r_sub [1, 0] rfl ?_
      refine r_goto B (tgt := 94) dX11_spellAll_179 (by decide) ?_
      obtain ⟨h42, v⟩ := v
      refine r_sub [0, 1] rfl ?_
      exact ih (x1 + 1) _ hI41 h42 v
set_option maxHeartbeats 4000000 in
set_option maxRecDepth 100000 in
theorem c_M_spellAll {l : Launch} {E : En} {A : Nat → Prop}  (I : Mm)  (hI : rgM I)  : CV l E A yX11_spellAll cX11_spellAll 2 15 582 [.ref (eA E 236)] I (V_M_spellAll  I) := by
  intro Q v
  refine mk_met (own := RX11) (lv0 := [(0, .ref (eA E 236))]) (by decide) rfl (Nat.le_of_ble_eq_true rfl) rfl (fun p e s m args below meth c0 B hr hk => ?_)
  unfold V_M_spellAll at v
  refine r_aload_n B dX11_spellAll_0 rfl rfl ?_
  refine r_ldcS B (i := 8) (tx := "rows ") (by decide) dX11_spellAll_1 ?_
  refine r_cV B (st := []) (as := [.ref (eS E 8)]) (T := TX11) (N := 25) (c_M_spells 8 _ ((by decide)) hI ) v o_236 rfl mw_M_spells wl_X11_252 ⟨Nat.le_of_ble_eq_true rfl, Nat.le_of_ble_eq_true rfl⟩ rfl rfl (Nat.le_of_ble_eq_true rfl) dX11_spellAll_3 (fun I21 hI21 v => ?_)
  refine r_aload_n B dX11_spellAll_6 rfl rfl ?_
  refine r_aload_n B dX11_spellAll_7 rfl rfl ?_
  refine r_getR B (C := RX11) (T := TX11) (N := 25) o_236 0 rfl win_X11 (by decide) rfl wf_X11_7 dX11_spellAll_8 ?_
  refine r_iconst B dX11_spellAll_11 ?_
  refine r_ald B a_237 (by decide) (by decide) dX11_spellAll_12 ?_
  refine r_cV B (st := []) (as := [.int (i2 (I21 237 1))]) (T := TX11) (N := 25) (c_M_spellNumber 12 (I21 237 1) _ hI21 ((hI21 _ _))) v o_236 rfl mw_M_spellNumber wl_X11_235 ⟨Nat.le_of_ble_eq_true rfl, Nat.le_of_ble_eq_true rfl⟩ rfl rfl (Nat.le_of_ble_eq_true rfl) dX11_spellAll_13 (fun I22 hI22 v => ?_)
  refine r_aload_n B dX11_spellAll_16 rfl rfl ?_
  refine r_ldcSW B (i := 9) (tx := ";wide ") (by decide) dX11_spellAll_17 ?_
  refine r_cV B (st := []) (as := [.ref (eS E 9)]) (T := TX11) (N := 25) (c_M_spells 9 _ ((by decide)) hI22 ) v o_236 rfl mw_M_spells wl_X11_252 ⟨Nat.le_of_ble_eq_true rfl, Nat.le_of_ble_eq_true rfl⟩ rfl rfl (Nat.le_of_ble_eq_true rfl) dX11_spellAll_20 (fun I23 hI23 v => ?_)
  refine r_aload_n B dX11_spellAll_23 rfl rfl ?_
  refine r_aload_n B dX11_spellAll_24 rfl rfl ?_
  refine r_getR B (C := RX11) (T := TX11) (N := 25) o_236 0 rfl win_X11 (by decide) rfl wf_X11_7 dX11_spellAll_25 ?_
  refine r_iconst B dX11_spellAll_28 ?_
  refine r_ald B a_237 (by decide) (by decide) dX11_spellAll_29 ?_
  refine r_cV B (st := []) (as := [.int (i2 (I23 237 2))]) (T := TX11) (N := 25) (c_M_spellNumber 12 (I23 237 2) _ hI23 ((hI23 _ _))) v o_236 rfl mw_M_spellNumber wl_X11_235 ⟨Nat.le_of_ble_eq_true rfl, Nat.le_of_ble_eq_true rfl⟩ rfl rfl (Nat.le_of_ble_eq_true rfl) dX11_spellAll_30 (fun I24 hI24 v => ?_)
  refine r_iconst B dX11_spellAll_33 ?_
  refine r_istore_n B dX11_spellAll_34 rfl (by decide) (lv' := [(1, .int (i2 0)), (0, .ref (eA E 236))]) rfl ?_
  refine r_sub [1, 0] rfl ?_
  obtain ⟨f44, v⟩ := v
  refine r_sub [0, 1] rfl ?_
  refine wL_M_spellAll_35 B hr hk (fun I32 hI32 v => ?_) f44 0 I24 hI24 ((rg_lit (by decide) (by decide))) v
  · refine r_iconst B dX11_spellAll_92 ?_
    refine r_istore_n B dX11_spellAll_93 rfl (by decide) (lv' := [(1, .int (i2 0)), (0, .ref (eA E 236))]) rfl ?_
    refine r_sub [1, 0] rfl ?_
    obtain ⟨f43, v⟩ := v
    refine r_sub [0, 1] rfl ?_
    exact wL_M_spellAll_94 B hr hk f43 0 I32 hI32 ((rg_lit (by decide) (by decide))) v
set_option maxHeartbeats 4000000 in
set_option maxRecDepth 100000 in
theorem c_M_told {l : Launch} {E : En} {A : Nat → Prop} (x1 : Int) (I : Mm)  (hI : rgM I) (h1 : r32 x1) : CI l E A yX11_told cX11_told 2 .int 16 603 [.ref (eA E 236), .int (i2 x1)] I (V_M_told x1 I) := by
  intro Q v
  refine mk_met (own := RX11) (lv0 := [(0, .ref (eA E 236)), (1, .int (i2 x1))]) (by decide) rfl (Nat.le_of_ble_eq_true rfl) rfl (fun p e s m args below meth c0 B hr hk => ?_)
  unfold V_M_told at v
  refine r_iload_n B dX11_told_0 rfl rfl ?_
  refine r_iconst B dX11_told_1 ?_
  refine r_icmp_ge B (tgt := 7) dX11_told_2 (by decide) h1 ((rg_lit (by decide) (by decide))) (fun h => ?_) (fun h => ?_)
  · have v := v.1 h
    refine r_aload_n B dX11_told_7 rfl rfl ?_
    refine r_iconst B dX11_told_8 ?_
    refine r_putI B (C := RX11) (T := TX11) (N := 25) o_236 12 rfl win_X11 tyX11 tyX11_ok nmX11 (by decide) rfl rfl rfl wf_X11_226 dX11_told_9 (jj := 12) rfl ?_
    have hI21 : rgM (wrM I 236 12 0) := rg_wr hI ((rg_lit (by decide) (by decide)))
    refine r_aload_n B dX11_told_12 rfl rfl ?_
    refine r_iload_n B dX11_told_13 rfl rfl ?_
    refine r_putI B (C := RX11) (T := TX11) (N := 25) o_236 13 rfl win_X11 tyX11 tyX11_ok nmX11 (by decide) rfl rfl rfl wf_X11_229 dX11_told_14 (jj := 13) rfl ?_
    have hI22 : rgM (wrM ((wrM I 236 12 0)) 236 13 x1) := rg_wr hI21 h1
    refine r_aload_n B dX11_told_17 rfl rfl ?_
    refine r_bipush B dX11_told_18 (by decide) ?_
    refine r_putI B (C := RX11) (T := TX11) (N := 25) o_236 14 rfl win_X11 tyX11 tyX11_ok nmX11 (by decide) rfl rfl rfl wf_X11_232 dX11_told_20 (jj := 14) rfl ?_
    have hI23 : rgM (wrM ((wrM ((wrM I 236 12 0)) 236 13 x1)) 236 14 (-2)) := rg_wr hI22 ((rg_lit (by decide) (by decide)))
    refine r_aload_n B dX11_told_23 rfl rfl ?_
    refine r_cV B (st := []) (as := []) (T := TX11) (N := 25) (c_M_spellAll _ hI23 ) v o_236 rfl mw_M_spellAll wl_X11_267 ⟨Nat.le_of_ble_eq_true rfl, Nat.le_of_ble_eq_true rfl⟩ rfl rfl (Nat.le_of_ble_eq_true rfl) dX11_told_24 (fun I24 hI24 v => ?_)
    refine r_iload_n B dX11_told_27 rfl rfl ?_
    refine r_iconst B dX11_told_28 ?_
    refine r_icmp_ne B (tgt := 39) dX11_told_29 (by decide) h1 ((rg_lit (by decide) (by decide))) (fun h => ?_) (fun h => ?_)
    · have v := v.1 h
      refine r_aload_n B dX11_told_39 rfl rfl ?_
      refine r_getI B (C := RX11) (T := TX11) (N := 25) o_236 14 rfl win_X11 (by decide) rfl wf_X11_232 dX11_told_40 (jj := 14) rfl ?_
      exact r_iret B hr hk rfl ((hI24 _ _)) hI24 v dX11_told_43
    · have v := v.2 h
      refine r_aload_n B dX11_told_32 rfl rfl ?_
      refine r_getI B (C := RX11) (T := TX11) (N := 25) o_236 12 rfl win_X11 (by decide) rfl wf_X11_226 dX11_told_33 (jj := 12) rfl ?_
      refine r_goto B (tgt := 43) dX11_told_36 (by decide) ?_
      exact r_iret B hr hk rfl ((hI24 _ _)) hI24 v dX11_told_43
  · have v := v.2 h
    refine r_iconst B dX11_told_5 ?_
    exact r_iret B hr hk rfl ((rg_lit (by decide) (by decide))) hI v dX11_told_6
set_option maxHeartbeats 4000000 in
set_option maxRecDepth 100000 in
theorem wL_M_digest_6 {p : Program} {l : Launch} {e : Env} {s : State} {m : MethodId} {args : Array Value} {below : List Frame} {meth : Method} {c0 : Code} {E : En} {A : Nat → Prop}  {Q : Int → Mm → Prop}  (B : Bd p (rmm 0 0) s m args c0 cX11_digest 4 RX11 E A 0 0) (hr : meth.sig.returnType = some .long) (hk : meth.locks = false)    : ∀ (n : Nat) (x1 : Int) (x3 : Int) (I : Mm), rgM I → r32 x3 → L_M_digest_6 Q n x1 x3 I → WI p l e (rmm 0 0) s m args below meth c0 E A 4 0 0 (qL below E A args s Q) I 6 [(0, .ref (eA E 236)), (1, .long (l2 x1)), (3, .int (i2 x3))] [] := by
  intro n
  induction n with
  | zero => intro x1 x3 I _ _ v; exact absurd v id
  | succ n ih =>
    intro x1 x3 I hI h3 v
    unfold L_M_digest_6 at v
    refine r_iload_n B dX11_digest_6 rfl rfl ?_
    refine r_aload_n B dX11_digest_7 rfl rfl ?_
    refine r_getR B (C := RX11) (T := TX11) (N := 25) o_236 0 rfl win_X11 (by decide) rfl wf_X11_7 dX11_digest_8 ?_
    refine r_iconst B dX11_digest_11 ?_
    refine r_ald B a_237 (by decide) (by decide) dX11_digest_12 ?_
    refine r_icmp_ge B (tgt := 76) dX11_digest_13 (by decide) h3 ((hI _ _)) (fun h => ?_) (fun h => ?_)
    · have v := v.1 h
      refine r_lload_n B dX11_digest_76 rfl rfl ?_
      exact r_lret B hr hk hI v dX11_digest_77
    · have v := v.2 h
      refine r_ldc2 B (31) dX11_digest_16 wc_X11_272 (by decide) ?_
      refine r_lload_n B dX11_digest_19 rfl rfl ?_
      refine r_lmul B dX11_digest_20 ?_
      refine r_aload_n B dX11_digest_21 rfl rfl ?_
      refine r_getR B (C := RX11) (T := TX11) (N := 25) o_236 0 rfl win_X11 (by decide) rfl wf_X11_7 dX11_digest_22 ?_
      refine r_sipush B dX11_digest_25 (by decide) ?_
      refine r_iload_n B dX11_digest_28 rfl rfl ?_
      refine r_iadd B dX11_digest_29 ?_
      obtain ⟨h21, v⟩ := v
      refine r_ald B a_237 (by decide) h21 dX11_digest_30 ?_
      refine r_i2l B dX11_digest_31 ((hI _ _)) ?_
      refine r_ladd B dX11_digest_32 ?_
      refine r_lstore_n B dX11_digest_33 rfl (by decide) (lv' := [(1, .long (l2 ((31 * x1) + I 237 (380 + x3)))), (0, .ref (eA E 236)), (3, .int (i2 x3))]) rfl ?_
      refine r_sub [1, 0, 2] rfl ?_
      refine r_ldc2 B (31) dX11_digest_34 wc_X11_272 (by decide) ?_
      refine r_lload_n B dX11_digest_37 rfl rfl ?_
      refine r_lmul B dX11_digest_38 ?_
      refine r_aload_n B dX11_digest_39 rfl rfl ?_
      refine r_getR B (C := RX11) (T := TX11) (N := 25) o_236 0 rfl win_X11 (by decide) rfl wf_X11_7 dX11_digest_40 ?_
      refine r_sipush B dX11_digest_43 (by decide) ?_
      refine r_iload_n B dX11_digest_46 rfl rfl ?_
      refine r_iadd B dX11_digest_47 ?_
      obtain ⟨h22, v⟩ := v
      refine r_ald B a_237 (by decide) h22 dX11_digest_48 ?_
      refine r_i2l B dX11_digest_49 ((hI _ _)) ?_
      refine r_ladd B dX11_digest_50 ?_
      refine r_lstore_n B dX11_digest_51 rfl (by decide) (lv' := [(1, .long (l2 ((31 * ((31 * x1) + I 237 (380 + x3))) + I 237 (580 + x3)))), (0, .ref (eA E 236)), (3, .int (i2 x3))]) rfl ?_
      refine r_sub [1, 0, 2] rfl ?_
      refine r_ldc2 B (31) dX11_digest_52 wc_X11_272 (by decide) ?_
      refine r_lload_n B dX11_digest_55 rfl rfl ?_
      refine r_lmul B dX11_digest_56 ?_
      refine r_aload_n B dX11_digest_57 rfl rfl ?_
      refine r_getR B (C := RX11) (T := TX11) (N := 25) o_236 0 rfl win_X11 (by decide) rfl wf_X11_7 dX11_digest_58 ?_
      refine r_sipush B dX11_digest_61 (by decide) ?_
      refine r_iload_n B dX11_digest_64 rfl rfl ?_
      refine r_iadd B dX11_digest_65 ?_
      obtain ⟨h23, v⟩ := v
      refine r_ald B a_237 (by decide) h23 dX11_digest_66 ?_
      refine r_i2l B dX11_digest_67 ((hI _ _)) ?_
      refine r_ladd B dX11_digest_68 ?_
      refine r_lstore_n B dX11_digest_69 rfl (by decide) (lv' := [(1, .long (l2 ((31 * ((31 * ((31 * x1) + I 237 (380 + x3))) + I 237 (580 + x3))) + I 237 (780 + x3)))), (0, .ref (eA E 236)), (3, .int (i2 x3))]) rfl ?_
      refine r_sub [1, 0, 2] rfl ?_
      refine r_iinc B (q := 2) dX11_digest_70 (by decide) rfl (lv' := [(3, .int (i2 (x3 + 1))), (0, .ref (eA E 236)), (1, .long (l2 ((31 * ((31 * ((31 * x1) + I 237 (380 + x3))) + I 237 (580 + x3))) + I 237 (780 + x3))))]) rfl ?_
      refine r_sub [1, 2, 0] rfl ?_
      refine r_goto B (tgt := 6) dX11_digest_73 (by decide) ?_
      obtain ⟨h24, v⟩ := v
      refine r_sub [0, 1, 2] rfl ?_
      exact ih ((31 * ((31 * ((31 * x1) + I 237 (380 + x3))) + I 237 (580 + x3))) + I 237 (780 + x3)) (x3 + 1) _ hI h24 v
set_option maxHeartbeats 4000000 in
set_option maxRecDepth 100000 in
theorem c_M_digest {l : Launch} {E : En} {A : Nat → Prop}  (I : Mm)  (hI : rgM I)  : CL l E A yX11_digest cX11_digest 4 0 0 [.ref (eA E 236)] I (V_M_digest  I) := by
  intro Q v
  refine mk_met (own := RX11) (lv0 := [(0, .ref (eA E 236))]) (by decide) rfl (Nat.le_of_ble_eq_true rfl) rfl (fun p e s m args below meth c0 B hr hk => ?_)
  unfold V_M_digest at v
  refine r_ldc2 B (17) dX11_digest_0 wc_X11_270 (by decide) ?_
  refine r_lstore_n B dX11_digest_3 rfl (by decide) (lv' := [(1, .long (l2 17)), (0, .ref (eA E 236))]) rfl ?_
  refine r_sub [1, 0] rfl ?_
  refine r_iconst B dX11_digest_4 ?_
  refine r_istore_n B dX11_digest_5 rfl (by decide) (lv' := [(3, .int (i2 0)), (0, .ref (eA E 236)), (1, .long (l2 17))]) rfl ?_
  refine r_sub [1, 2, 0] rfl ?_
  obtain ⟨f25, v⟩ := v
  refine r_sub [0, 1, 2] rfl ?_
  exact wL_M_digest_6 B hr hk f25 17 0 I hI ((rg_lit (by decide) (by decide))) v
set_option maxHeartbeats 4000000 in
set_option maxRecDepth 100000 in
theorem wL_M_laysFour_3 {p : Program} {l : Launch} {e : Env} {s : State} {m : MethodId} {args : Array Value} {below : List Frame} {meth : Method} {c0 : Code} {E : En} {A : Nat → Prop} {x1 : Int} {Q : Mm → Prop}  (B : Bd p (rmm 0 0) s m args c0 cX11_laysFour 3 RX11 E A 0 0) (hr : meth.sig.returnType = none) (hk : meth.locks = false) (h1 : r32 x1)   : ∀ (n : Nat) (x2 : Int) (I : Mm), rgM I → r32 x2 → L_M_laysFour_3 x1 Q n x2 I → WI p l e (rmm 0 0) s m args below meth c0 E A 3 0 0 (qV below E A args s Q) I 3 [(0, .ref (eA E 236)), (1, .int (i2 x1)), (2, .int (i2 x2))] [] := by
  intro n
  induction n with
  | zero => intro x2 I _ _ v; exact absurd v id
  | succ n ih =>
    intro x2 I hI h2 v
    unfold L_M_laysFour_3 at v
    refine r_iload_n B dX11_laysFour_3 rfl rfl ?_
    refine r_if_lt B (tgt := 36) dX11_laysFour_4 (by decide) h2 (fun h => ?_) (fun h => ?_)
    · have v := v.1 h
      exact r_vret B hr hk hI v dX11_laysFour_36
    · have v := v.2 h
      refine r_aload_n B dX11_laysFour_7 rfl rfl ?_
      refine r_getR B (C := RX11) (T := TX11) (N := 25) o_236 15 rfl win_X11 (by decide) rfl wf_X11_38 dX11_laysFour_8 ?_
      refine r_aload_n B dX11_laysFour_11 rfl rfl ?_
      refine r_getI B (C := RX11) (T := TX11) (N := 25) o_236 16 rfl win_X11 (by decide) rfl wf_X11_172 dX11_laysFour_12 (jj := 16) rfl ?_
      refine r_iload_n B dX11_laysFour_15 rfl rfl ?_
      refine r_iload_n B dX11_laysFour_16 rfl rfl ?_
      refine r_ishr B dX11_laysFour_17 ?_
      refine r_i2b B dX11_laysFour_18 ?_
      obtain ⟨h21, v⟩ := v
      refine r_bst B a_246 (by decide) h21 dX11_laysFour_19 ?_
      have hI22 : rgM (wrM I 246 (I 236 16) (bByte (bShr x1 x2))) := rg_wr hI ((rg_byte _))
      refine r_aload_n B dX11_laysFour_20 rfl rfl ?_
      refine r_dup B dX11_laysFour_21 rfl ?_
      refine r_getI B (C := RX11) (T := TX11) (N := 25) o_236 16 rfl win_X11 (by decide) rfl wf_X11_172 dX11_laysFour_22 (jj := 16) rfl ?_
      refine r_iconst B dX11_laysFour_25 ?_
      refine r_iadd B dX11_laysFour_26 ?_
      obtain ⟨h23, v⟩ := v
      refine r_putI B (C := RX11) (T := TX11) (N := 25) o_236 16 rfl win_X11 tyX11 tyX11_ok nmX11 (by decide) rfl rfl rfl wf_X11_172 dX11_laysFour_27 (jj := 16) rfl ?_
      have hI24 : rgM (wrM ((wrM I 246 (I 236 16) (bByte (bShr x1 x2)))) 236 16 ((wrM I 246 (I 236 16) (bByte (bShr x1 x2))) 236 16 + 1)) := rg_wr hI22 h23
      refine r_iinc B (q := 2) dX11_laysFour_30 (by decide) rfl (lv' := [(2, .int (i2 (x2 + (-8)))), (0, .ref (eA E 236)), (1, .int (i2 x1))]) rfl ?_
      refine r_sub [1, 2, 0] rfl ?_
      refine r_goto B (tgt := 3) dX11_laysFour_33 (by decide) ?_
      obtain ⟨h25, v⟩ := v
      refine r_sub [0, 1, 2] rfl ?_
      exact ih (x2 + (-8)) _ hI24 h25 v
set_option maxHeartbeats 4000000 in
set_option maxRecDepth 100000 in
theorem c_M_laysFour {l : Launch} {E : En} {A : Nat → Prop} (x1 : Int) (I : Mm)  (hI : rgM I) (h1 : r32 x1) : CV l E A yX11_laysFour cX11_laysFour 3 0 0 [.ref (eA E 236), .int (i2 x1)] I (V_M_laysFour x1 I) := by
  intro Q v
  refine mk_met (own := RX11) (lv0 := [(0, .ref (eA E 236)), (1, .int (i2 x1))]) (by decide) rfl (Nat.le_of_ble_eq_true rfl) rfl (fun p e s m args below meth c0 B hr hk => ?_)
  unfold V_M_laysFour at v
  refine r_bipush B dX11_laysFour_0 (by decide) ?_
  refine r_istore_n B dX11_laysFour_2 rfl (by decide) (lv' := [(2, .int (i2 24)), (0, .ref (eA E 236)), (1, .int (i2 x1))]) rfl ?_
  refine r_sub [1, 2, 0] rfl ?_
  obtain ⟨f26, v⟩ := v
  refine r_sub [0, 1, 2] rfl ?_
  exact wL_M_laysFour_3 B hr hk h1 f26 24 I hI ((rg_lit (by decide) (by decide))) v
set_option maxHeartbeats 4000000 in
set_option maxRecDepth 100000 in
theorem c_M_feed {l : Launch} {E : En} {A : Nat → Prop} (x1 : Int) (x2 : Int) (x3 : Int) (x4 : Int) (x5 : Int) (I : Mm)  (hI : rgM I) (h1 : r32 x1) (h2 : r32 x2) (h3 : r32 x3) (h4 : r32 x4) (h5 : r32 x5) : CI l E A yX11_feed cX11_feed 6 .int 1 22 [.ref (eA E 236), .int (i2 x1), .int (i2 x2), .int (i2 x3), .int (i2 x4), .int (i2 x5)] I (V_M_feed x1 x2 x3 x4 x5 I) := by
  intro Q v
  refine mk_met (own := RX11) (lv0 := [(0, .ref (eA E 236)), (1, .int (i2 x1)), (2, .int (i2 x2)), (3, .int (i2 x3)), (4, .int (i2 x4)), (5, .int (i2 x5))]) (by decide) rfl (Nat.le_of_ble_eq_true rfl) rfl (fun p e s m args below meth c0 B hr hk => ?_)
  unfold V_M_feed at v
  refine r_aload_n B dX11_feed_0 rfl rfl ?_
  refine r_getI B (C := RX11) (T := TX11) (N := 25) o_236 16 rfl win_X11 (by decide) rfl wf_X11_172 dX11_feed_1 (jj := 16) rfl ?_
  refine r_sipush B dX11_feed_4 (by decide) ?_
  refine r_icmp_le B (tgt := 12) dX11_feed_7 (by decide) ((hI _ _)) ((rg_lit (by decide) (by decide))) (fun h => ?_) (fun h => ?_)
  · have v := v.1 h
    refine r_aload_n B dX11_feed_12 rfl rfl ?_
    refine r_iload_n B dX11_feed_13 rfl rfl ?_
    refine r_cV B (st := []) (as := [.int (i2 x1)]) (T := TX11) (N := 25) (c_M_laysFour x1 _ hI h1) v o_236 rfl mw_M_laysFour wl_X11_274 ⟨Nat.le_of_ble_eq_true rfl, Nat.le_of_ble_eq_true rfl⟩ rfl rfl (Nat.le_of_ble_eq_true rfl) dX11_feed_14 (fun I21 hI21 v => ?_)
    refine r_aload_n B dX11_feed_17 rfl rfl ?_
    refine r_iload_n B dX11_feed_18 rfl rfl ?_
    refine r_cV B (st := []) (as := [.int (i2 x2)]) (T := TX11) (N := 25) (c_M_laysFour x2 _ hI21 h2) v o_236 rfl mw_M_laysFour wl_X11_274 ⟨Nat.le_of_ble_eq_true rfl, Nat.le_of_ble_eq_true rfl⟩ rfl rfl (Nat.le_of_ble_eq_true rfl) dX11_feed_19 (fun I22 hI22 v => ?_)
    refine r_aload_n B dX11_feed_22 rfl rfl ?_
    refine r_iload_n B dX11_feed_23 rfl rfl ?_
    refine r_cV B (st := []) (as := [.int (i2 x3)]) (T := TX11) (N := 25) (c_M_laysFour x3 _ hI22 h3) v o_236 rfl mw_M_laysFour wl_X11_274 ⟨Nat.le_of_ble_eq_true rfl, Nat.le_of_ble_eq_true rfl⟩ rfl rfl (Nat.le_of_ble_eq_true rfl) dX11_feed_24 (fun I23 hI23 v => ?_)
    refine r_aload_n B dX11_feed_27 rfl rfl ?_
    refine r_iload B dX11_feed_28 rfl ?_
    refine r_cV B (st := []) (as := [.int (i2 x4)]) (T := TX11) (N := 25) (c_M_laysFour x4 _ hI23 h4) v o_236 rfl mw_M_laysFour wl_X11_274 ⟨Nat.le_of_ble_eq_true rfl, Nat.le_of_ble_eq_true rfl⟩ rfl rfl (Nat.le_of_ble_eq_true rfl) dX11_feed_30 (fun I24 hI24 v => ?_)
    refine r_aload_n B dX11_feed_33 rfl rfl ?_
    refine r_iload B dX11_feed_34 rfl ?_
    refine r_cV B (st := []) (as := [.int (i2 x5)]) (T := TX11) (N := 25) (c_M_laysFour x5 _ hI24 h5) v o_236 rfl mw_M_laysFour wl_X11_274 ⟨Nat.le_of_ble_eq_true rfl, Nat.le_of_ble_eq_true rfl⟩ rfl rfl (Nat.le_of_ble_eq_true rfl) dX11_feed_36 (fun I25 hI25 v => ?_)
    refine r_aload_n B dX11_feed_39 rfl rfl ?_
    refine r_getI B (C := RX11) (T := TX11) (N := 25) o_236 16 rfl win_X11 (by decide) rfl wf_X11_172 dX11_feed_40 (jj := 16) rfl ?_
    exact r_iret B hr hk rfl ((hI25 _ _)) hI25 v dX11_feed_43
  · have v := v.2 h
    refine r_iconst B dX11_feed_10 ?_
    exact r_iret B hr hk rfl ((rg_lit (by decide) (by decide))) hI v dX11_feed_11
set_option maxHeartbeats 4000000 in
set_option maxRecDepth 100000 in
theorem c_M_end {l : Launch} {E : En} {A : Nat → Prop} (x1 : Int) (I : Mm)  (hI : rgM I) (h1 : r32 x1) : CI l E A yX11_end cX11_end 2 .int 1 25 [.ref (eA E 236), .int (i2 x1)] I (V_M_end x1 I) := by
  intro Q v
  refine mk_met (own := RX11) (lv0 := [(0, .ref (eA E 236)), (1, .int (i2 x1))]) (by decide) rfl (Nat.le_of_ble_eq_true rfl) rfl (fun p e s m args below meth c0 B hr hk => ?_)
  unfold V_M_end at v
  refine r_iload_n B dX11_end_0 rfl rfl ?_
  refine r_i2l B dX11_end_1 h1 ?_
  refine r_lconst B 0 dX11_end_2 (by decide) ?_
  refine r_aload_n B dX11_end_3 rfl rfl ?_
  refine r_getI B (C := RX11) (T := TX11) (N := 25) o_236 16 rfl win_X11 (by decide) rfl wf_X11_172 dX11_end_4 (jj := 16) rfl ?_
  refine r_i2l B dX11_end_7 ((hI _ _)) ?_
  refine r_sI B (st := []) (as := [.long (l2 x1), .long (l2 0), .long (l2 (I 236 16))]) (c_M_in x1 0 (I 236 16) _ hI ((rg_64 h1)) ((show r64 (0) by exact ⟨by decide, by decide⟩)) ((rg_64 ((hI _ _))))) v mw_M_in wl_X11_55 ⟨Nat.le_of_ble_eq_true rfl, Nat.le_of_ble_eq_true rfl⟩ rfl rfl (Nat.le_of_ble_eq_true rfl) dX11_end_8 (fun z21 I22 hz21 hI22 v => ?_)
  refine r_if_ne B (tgt := 16) dX11_end_11 (by decide) hz21 (fun h => ?_) (fun h => ?_)
  · have v := v.1 h
    refine r_aload_n B dX11_end_16 rfl rfl ?_
    refine r_iload_n B dX11_end_17 rfl rfl ?_
    refine r_putI B (C := RX11) (T := TX11) (N := 25) o_236 16 rfl win_X11 tyX11 tyX11_ok nmX11 (by decide) rfl rfl rfl wf_X11_172 dX11_end_18 (jj := 16) rfl ?_
    have hI23 : rgM (wrM I22 236 16 x1) := rg_wr hI22 h1
    refine r_iload_n B dX11_end_21 rfl rfl ?_
    exact r_iret B hr hk rfl h1 hI23 v dX11_end_22
  · have v := v.2 h
    refine r_iconst B dX11_end_14 ?_
    exact r_iret B hr hk rfl ((rg_lit (by decide) (by decide))) hI22 v dX11_end_15
set_option maxHeartbeats 4000000 in
set_option maxRecDepth 100000 in
theorem c_M_byteAt {l : Launch} {E : En} {A : Nat → Prop} (x1 : Int) (I : Mm)  (hI : rgM I) (h1 : r32 x1) : CI l E A yX11_byteAt cX11_byteAt 2 .int 0 0 [.ref (eA E 236), .int (i2 x1)] I (V_M_byteAt x1 I) := by
  intro Q v
  refine mk_met (own := RX11) (lv0 := [(0, .ref (eA E 236)), (1, .int (i2 x1))]) (by decide) rfl (Nat.le_of_ble_eq_true rfl) rfl (fun p e s m args below meth c0 B hr hk => ?_)
  unfold V_M_byteAt at v
  refine r_iload_n B dX11_byteAt_0 rfl rfl ?_
  refine r_aload_n B dX11_byteAt_1 rfl rfl ?_
  refine r_getI B (C := RX11) (T := TX11) (N := 25) o_236 16 rfl win_X11 (by decide) rfl wf_X11_172 dX11_byteAt_2 (jj := 16) rfl ?_
  refine r_icmp_ge B (tgt := 21) dX11_byteAt_5 (by decide) h1 ((hI _ _)) (fun h => ?_) (fun h => ?_)
  · have v := v.1 h
    refine r_iconst B dX11_byteAt_21 ?_
    exact r_iret B hr hk rfl ((rg_lit (by decide) (by decide))) hI v dX11_byteAt_22
  · have v := v.2 h
    refine r_aload_n B dX11_byteAt_8 rfl rfl ?_
    refine r_getR B (C := RX11) (T := TX11) (N := 25) o_236 15 rfl win_X11 (by decide) rfl wf_X11_38 dX11_byteAt_9 ?_
    refine r_iload_n B dX11_byteAt_12 rfl rfl ?_
    obtain ⟨h21, v⟩ := v
    refine r_bld B a_246 (by decide) h21 dX11_byteAt_13 ?_
    refine r_sipush B dX11_byteAt_14 (by decide) ?_
    refine r_iand B dX11_byteAt_17 ?_
    refine r_goto B (tgt := 22) dX11_byteAt_18 (by decide) ?_
    exact r_iret B hr hk rfl ((rg_and _ _)) hI v dX11_byteAt_22
