set_option maxHeartbeats 4000000 in
set_option maxRecDepth 100000 in
theorem wL_M_nextByte_0 {p : Program} {l : Launch} {e : Env} {s : State} {m : MethodId} {args : Array Value} {below : List Frame} {meth : Method} {c0 : Code} {E : En} {A : Nat → Prop}  {Q : Int → Mm → Prop}  (B : Bd p (rmm 1 21) s m args c0 cX11_nextByte 1 RX11 E A 0 0) (hr : meth.sig.returnType = some .int) (hk : meth.locks = false)    : ∀ (n : Nat) (I : Mm), rgM I → L_M_nextByte_0 Q n I → WI p l e (rmm 1 21) s m args below meth c0 E A 1 0 0 (qI below E A args s Q) I 0 [(0, .ref (eA E 236))] [] := by
  intro n
  induction n with
  | zero => intro  I _  v; exact absurd v id
  | succ n ih =>
    intro  I hI  v
    unfold L_M_nextByte_0 at v
    refine r_aload_n B dX11_nextByte_0 rfl rfl ?_
    refine r_aload_n B dX11_nextByte_1 rfl rfl ?_
    refine r_getI B (C := RX11) (T := TX11) (N := 25) o_236 17 rfl win_X11 (by decide) rfl wf_X11_277 dX11_nextByte_2 (jj := 17) rfl ?_
    refine r_cI B (st := []) (as := [.int (i2 (I 236 17))]) (T := TX11) (N := 25) (c_M_byteAt (I 236 17) _ hI ((hI _ _))) v o_236 rfl mw_M_byteAt wl_X11_280 ⟨Nat.le_of_ble_eq_true rfl, Nat.le_of_ble_eq_true rfl⟩ rfl rfl (Nat.le_of_ble_eq_true rfl) dX11_nextByte_5 (fun z21 I22 hz21 hI22 v => ?_)
    refine r_bipush B dX11_nextByte_8 (by decide) ?_
    refine r_icmp_ne B (tgt := 26) dX11_nextByte_10 (by decide) hz21 ((rg_lit (by decide) (by decide))) (fun h => ?_) (fun h => ?_)
    · have v := v.1 h
      refine r_aload_n B dX11_nextByte_26 rfl rfl ?_
      refine r_aload_n B dX11_nextByte_27 rfl rfl ?_
      refine r_getI B (C := RX11) (T := TX11) (N := 25) o_236 17 rfl win_X11 (by decide) rfl wf_X11_277 dX11_nextByte_28 (jj := 17) rfl ?_
      refine r_cI B (st := []) (as := [.int (i2 (I22 236 17))]) (T := TX11) (N := 25) (c_M_byteAt (I22 236 17) _ hI22 ((hI22 _ _))) v o_236 rfl mw_M_byteAt wl_X11_280 ⟨Nat.le_of_ble_eq_true rfl, Nat.le_of_ble_eq_true rfl⟩ rfl rfl (Nat.le_of_ble_eq_true rfl) dX11_nextByte_31 (fun z23 I24 hz23 hI24 v => ?_)
      exact r_iret B hr hk rfl hz23 hI24 v dX11_nextByte_34
    · have v := v.2 h
      refine r_aload_n B dX11_nextByte_13 rfl rfl ?_
      refine r_dup B dX11_nextByte_14 rfl ?_
      refine r_getI B (C := RX11) (T := TX11) (N := 25) o_236 17 rfl win_X11 (by decide) rfl wf_X11_277 dX11_nextByte_15 (jj := 17) rfl ?_
      refine r_iconst B dX11_nextByte_18 ?_
      refine r_iadd B dX11_nextByte_19 ?_
      obtain ⟨h25, v⟩ := v
      refine r_putI B (C := RX11) (T := TX11) (N := 25) o_236 17 rfl win_X11 tyX11 tyX11_ok nmX11 (by decide) rfl rfl rfl wf_X11_277 dX11_nextByte_20 (jj := 17) rfl ?_
      have hI26 : rgM (wrM I22 236 17 (I22 236 17 + 1)) := rg_wr hI22 h25
      refine r_goto B (tgt := 0) dX11_nextByte_23 (by decide) ?_
      refine r_sub [0] rfl ?_
      exact ih _ hI26 v
set_option maxHeartbeats 4000000 in
set_option maxRecDepth 100000 in
theorem c_M_nextByte {l : Launch} {E : En} {A : Nat → Prop}  (I : Mm)  (hI : rgM I)  : CI l E A yX11_nextByte cX11_nextByte 1 .int 1 21 [.ref (eA E 236)] I (V_M_nextByte  I) := by
  intro Q v
  refine mk_met (own := RX11) (lv0 := [(0, .ref (eA E 236))]) (by decide) rfl (Nat.le_of_ble_eq_true rfl) rfl (fun p e s m args below meth c0 B hr hk => ?_)
  unfold V_M_nextByte at v
  obtain ⟨f27, v⟩ := v
  refine r_sub [0] rfl ?_
  exact wL_M_nextByte_0 B hr hk f27 I hI v
set_option maxHeartbeats 4000000 in
set_option maxRecDepth 100000 in
theorem wL_M_takesWord_22 {p : Program} {l : Launch} {e : Env} {s : State} {m : MethodId} {args : Array Value} {below : List Frame} {meth : Method} {c0 : Code} {E : En} {A : Nat → Prop} {w1 : Nat} {x2 : Int} {Q : Int → Mm → Prop} {K51 : Int → Mm → Prop} (B : Bd p (rmm 4 120) s m args c0 cX11_takesWord 5 RX11 E A 0 0) (hr : meth.sig.returnType = some .boolean) (hk : meth.locks = false) (hw1 : w1 < slen.length) (h2 : r32 x2) (k51 : ∀ (x3 : Int) (I : Mm), rgM I → r32 x3 → K51 x3 I → WI p l e (rmm 4 120) s m args below meth c0 E A 5 0 0 (qI below E A args s Q) I 51 [(0, .ref (eA E 236)), (1, .ref (eS E w1)), (2, .int (i2 x2)), (3, .int (i2 x3))] []) : ∀ (n : Nat) (x3 : Int) (I : Mm), rgM I → r32 x3 → L_M_takesWord_22 w1 x2 Q K51 n x3 I → WI p l e (rmm 4 120) s m args below meth c0 E A 5 0 0 (qI below E A args s Q) I 22 [(0, .ref (eA E 236)), (1, .ref (eS E w1)), (2, .int (i2 x2)), (3, .int (i2 x3))] [] := by
  intro n
  induction n with
  | zero => intro x3 I _ _ v; exact absurd v id
  | succ n ih =>
    intro x3 I hI h3 v
    unfold L_M_takesWord_22 at v
    refine r_iload_n B dX11_takesWord_22 rfl rfl ?_
    refine r_aload_n B dX11_takesWord_23 rfl rfl ?_
    refine r_strlen B hw1 hI ⟨Nat.le_of_ble_eq_true rfl, Nat.le_of_ble_eq_true rfl⟩ (Nat.le_of_ble_eq_true rfl) wl_X11_241 dX11_takesWord_24 ?_
    refine r_icmp_ge B (tgt := 51) dX11_takesWord_27 (by decide) h3 ((rg_slen hw1)) (fun h => ?_) (fun h => ?_)
    · have v := v.1 h
      refine r_sub [0, 1, 2, 3] rfl ?_
      exact k51 x3 _ hI h3 v
    · have v := v.2 h
      refine r_aload_n B dX11_takesWord_30 rfl rfl ?_
      refine r_iload_n B dX11_takesWord_31 rfl rfl ?_
      refine r_iload_n B dX11_takesWord_32 rfl rfl ?_
      refine r_iadd B dX11_takesWord_33 ?_
      obtain ⟨h24, v⟩ := v
      refine r_cI B (st := []) (as := [.int (i2 (x2 + x3))]) (T := TX11) (N := 25) (c_M_byteAt (x2 + x3) _ hI h24) v o_236 rfl mw_M_byteAt wl_X11_280 ⟨Nat.le_of_ble_eq_true rfl, Nat.le_of_ble_eq_true rfl⟩ rfl rfl (Nat.le_of_ble_eq_true rfl) dX11_takesWord_34 (fun z25 I26 hz25 hI26 v => ?_)
      refine r_aload_n B dX11_takesWord_37 rfl rfl ?_
      refine r_iload_n B dX11_takesWord_38 rfl rfl ?_
      obtain ⟨h27, v⟩ := v
      refine r_strchr B hw1 hI26 h3 h27 ⟨Nat.le_of_ble_eq_true rfl, Nat.le_of_ble_eq_true rfl⟩ (Nat.le_of_ble_eq_true rfl) wl_X11_246 dX11_takesWord_39 ?_
      refine r_icmp_ne B (tgt := 51) dX11_takesWord_42 (by decide) hz25 ((rg_sch _ _)) (fun h => ?_) (fun h => ?_)
      · have v := v.1 h
        refine r_sub [0, 1, 2, 3] rfl ?_
        exact k51 x3 _ hI26 h3 v
      · have v := v.2 h
        refine r_iinc B (q := 3) dX11_takesWord_45 (by decide) rfl (lv' := [(3, .int (i2 (x3 + 1))), (0, .ref (eA E 236)), (1, .ref (eS E w1)), (2, .int (i2 x2))]) rfl ?_
        refine r_sub [1, 2, 3, 0] rfl ?_
        refine r_goto B (tgt := 22) dX11_takesWord_48 (by decide) ?_
        obtain ⟨h28, v⟩ := v
        refine r_sub [0, 1, 2, 3] rfl ?_
        exact ih (x3 + 1) _ hI26 h28 v
set_option maxHeartbeats 4000000 in
set_option maxRecDepth 100000 in
theorem wJ_M_takesWord_19 {p : Program} {l : Launch} {e : Env} {s : State} {m : MethodId} {args : Array Value} {below : List Frame} {meth : Method} {c0 : Code} {E : En} {A : Nat → Prop} {w1 : Nat} {Q : Int → Mm → Prop}  (B : Bd p (rmm 4 120) s m args c0 cX11_takesWord 5 RX11 E A 0 0) (hr : meth.sig.returnType = some .boolean) (hk : meth.locks = false) (hw1 : w1 < slen.length)   : ∀ (t0 : Int) (I : Mm), rgM I → r32 t0 → J_M_takesWord_19 w1 Q t0 I → WI p l e (rmm 4 120) s m args below meth c0 E A 5 0 0 (qI below E A args s Q) I 19 [(0, .ref (eA E 236)), (1, .ref (eS E w1))] [.int (i2 t0)] := by
  intro t0 I hI ht0 v
  unfold J_M_takesWord_19 at v
  refine r_istore_n B dX11_takesWord_19 rfl (by decide) (lv' := [(2, .int (i2 t0)), (0, .ref (eA E 236)), (1, .ref (eS E w1))]) rfl ?_
  refine r_sub [1, 2, 0] rfl ?_
  refine r_iconst B dX11_takesWord_20 ?_
  refine r_istore_n B dX11_takesWord_21 rfl (by decide) (lv' := [(3, .int (i2 0)), (0, .ref (eA E 236)), (1, .ref (eS E w1)), (2, .int (i2 t0))]) rfl ?_
  refine r_sub [1, 2, 3, 0] rfl ?_
  obtain ⟨f40, v⟩ := v
  refine r_sub [0, 1, 2, 3] rfl ?_
  refine wL_M_takesWord_22 B hr hk hw1 ht0 (fun y29 I30 hI30 hy29 v => ?_) f40 0 I hI ((rg_lit (by decide) (by decide))) v
  · refine r_iload_n B dX11_takesWord_51 rfl rfl ?_
    refine r_aload_n B dX11_takesWord_52 rfl rfl ?_
    refine r_strlen B hw1 hI30 ⟨Nat.le_of_ble_eq_true rfl, Nat.le_of_ble_eq_true rfl⟩ (Nat.le_of_ble_eq_true rfl) wl_X11_241 dX11_takesWord_53 ?_
    refine r_icmp_ne B (tgt := 83) dX11_takesWord_56 (by decide) hy29 ((rg_slen hw1)) (fun h => ?_) (fun h => ?_)
    · have v := v.1 h
      refine r_iconst B dX11_takesWord_83 ?_
      refine r_istore B dX11_takesWord_84 (by decide) (lv' := [(4, .int (i2 0)), (0, .ref (eA E 236)), (1, .ref (eS E w1)), (2, .int (i2 t0)), (3, .int (i2 y29))]) rfl ?_
      refine r_sub [1, 2, 3, 4, 0] rfl ?_
      refine r_iload B dX11_takesWord_86 rfl ?_
      refine r_if_eq B (tgt := 104) dX11_takesWord_88 (by decide) ((rg_lit (by decide) (by decide))) (fun _ => ?_) (fun h => absurd h (by decide))
      refine r_iload B dX11_takesWord_104 rfl ?_
      exact r_iret B hr hk rfl ((rg_lit (by decide) (by decide))) hI30 v dX11_takesWord_106
    · have v := v.2 h
      refine r_aload_n B dX11_takesWord_59 rfl rfl ?_
      refine r_iload_n B dX11_takesWord_60 rfl rfl ?_
      refine r_iload_n B dX11_takesWord_61 rfl rfl ?_
      refine r_iadd B dX11_takesWord_62 ?_
      obtain ⟨h32, v⟩ := v
      refine r_cI B (st := []) (as := [.int (i2 (t0 + y29))]) (T := TX11) (N := 25) (c_M_byteAt (t0 + y29) _ hI30 h32) v o_236 rfl mw_M_byteAt wl_X11_280 ⟨Nat.le_of_ble_eq_true rfl, Nat.le_of_ble_eq_true rfl⟩ rfl rfl (Nat.le_of_ble_eq_true rfl) dX11_takesWord_63 (fun z33 I34 hz33 hI34 v => ?_)
      refine r_i2l B dX11_takesWord_66 hz33 ?_
      refine r_ldc2 B (97) dX11_takesWord_67 wc_X11_289 (by decide) ?_
      refine r_ldc2 B (122) dX11_takesWord_70 wc_X11_291 (by decide) ?_
      refine r_sI B (st := []) (as := [.long (l2 z33), .long (l2 97), .long (l2 122)]) (c_M_in z33 97 122 _ hI34 ((rg_64 hz33)) ((show r64 (97) by exact ⟨by decide, by decide⟩)) ((show r64 (122) by exact ⟨by decide, by decide⟩))) v mw_M_in wl_X11_55 ⟨Nat.le_of_ble_eq_true rfl, Nat.le_of_ble_eq_true rfl⟩ rfl rfl (Nat.le_of_ble_eq_true rfl) dX11_takesWord_73 (fun z35 I36 hz35 hI36 v => ?_)
      refine r_if_ne B (tgt := 83) dX11_takesWord_76 (by decide) hz35 (fun h => ?_) (fun h => ?_)
      · have v := v.1 h
        refine r_iconst B dX11_takesWord_83 ?_
        refine r_istore B dX11_takesWord_84 (by decide) (lv' := [(4, .int (i2 0)), (0, .ref (eA E 236)), (1, .ref (eS E w1)), (2, .int (i2 t0)), (3, .int (i2 y29))]) rfl ?_
        refine r_sub [1, 2, 3, 4, 0] rfl ?_
        refine r_iload B dX11_takesWord_86 rfl ?_
        refine r_if_eq B (tgt := 104) dX11_takesWord_88 (by decide) ((rg_lit (by decide) (by decide))) (fun _ => ?_) (fun h => absurd h (by decide))
        refine r_iload B dX11_takesWord_104 rfl ?_
        exact r_iret B hr hk rfl ((rg_lit (by decide) (by decide))) hI36 v dX11_takesWord_106
      · have v := v.2 h
        refine r_iconst B dX11_takesWord_79 ?_
        refine r_goto B (tgt := 84) dX11_takesWord_80 (by decide) ?_
        refine r_istore B dX11_takesWord_84 (by decide) (lv' := [(4, .int (i2 1)), (0, .ref (eA E 236)), (1, .ref (eS E w1)), (2, .int (i2 t0)), (3, .int (i2 y29))]) rfl ?_
        refine r_sub [1, 2, 3, 4, 0] rfl ?_
        refine r_iload B dX11_takesWord_86 rfl ?_
        refine r_if_eq B (tgt := 104) dX11_takesWord_88 (by decide) ((rg_lit (by decide) (by decide))) (fun h => absurd h (by decide)) (fun _ => ?_)
        refine r_aload_n B dX11_takesWord_91 rfl rfl ?_
        refine r_dup B dX11_takesWord_92 rfl ?_
        refine r_getI B (C := RX11) (T := TX11) (N := 25) o_236 17 rfl win_X11 (by decide) rfl wf_X11_277 dX11_takesWord_93 (jj := 17) rfl ?_
        refine r_aload_n B dX11_takesWord_96 rfl rfl ?_
        refine r_strlen B hw1 hI36 ⟨Nat.le_of_ble_eq_true rfl, Nat.le_of_ble_eq_true rfl⟩ (Nat.le_of_ble_eq_true rfl) wl_X11_241 dX11_takesWord_97 ?_
        refine r_iadd B dX11_takesWord_100 ?_
        obtain ⟨h38, v⟩ := v
        refine r_putI B (C := RX11) (T := TX11) (N := 25) o_236 17 rfl win_X11 tyX11 tyX11_ok nmX11 (by decide) rfl rfl rfl wf_X11_277 dX11_takesWord_101 (jj := 17) rfl ?_
        have hI39 : rgM (wrM I36 236 17 (I36 236 17 + slenI w1)) := rg_wr hI36 h38
        refine r_iload B dX11_takesWord_104 rfl ?_
        exact r_iret B hr hk rfl ((rg_lit (by decide) (by decide))) hI39 v dX11_takesWord_106
set_option maxHeartbeats 4000000 in
set_option maxRecDepth 100000 in
theorem c_M_takesWord {l : Launch} {E : En} {A : Nat → Prop} (w1 : Nat) (I : Mm) (hw1 : w1 < slen.length) (hI : rgM I)  : CI l E A yX11_takesWord cX11_takesWord 5 .boolean 4 120 [.ref (eA E 236), .ref (eS E w1)] I (V_M_takesWord w1 I) := by
  intro Q v
  refine mk_met (own := RX11) (lv0 := [(0, .ref (eA E 236)), (1, .ref (eS E w1))]) (by decide) rfl (Nat.le_of_ble_eq_true rfl) rfl (fun p e s m args below meth c0 B hr hk => ?_)
  unfold V_M_takesWord at v
  refine r_aload_n B dX11_takesWord_0 rfl rfl ?_
  refine r_cI B (st := []) (as := []) (T := TX11) (N := 25) (c_M_nextByte _ hI ) v o_236 rfl mw_M_nextByte wl_X11_286 ⟨Nat.le_of_ble_eq_true rfl, Nat.le_of_ble_eq_true rfl⟩ rfl rfl (Nat.le_of_ble_eq_true rfl) dX11_takesWord_1 (fun z21 I22 hz21 hI22 v => ?_)
  refine r_iconst B dX11_takesWord_4 ?_
  refine r_icmp_ne B (tgt := 15) dX11_takesWord_5 (by decide) hz21 ((rg_lit (by decide) (by decide))) (fun h => ?_) (fun h => ?_)
  · have v := v.1 h
    refine r_aload_n B dX11_takesWord_15 rfl rfl ?_
    refine r_getI B (C := RX11) (T := TX11) (N := 25) o_236 17 rfl win_X11 (by decide) rfl wf_X11_277 dX11_takesWord_16 (jj := 17) rfl ?_
    refine r_sub [0, 1] rfl ?_
    exact wJ_M_takesWord_19 B hr hk hw1 (I22 236 17) I22 hI22 ((hI22 _ _)) v
  · have v := v.2 h
    refine r_aload_n B dX11_takesWord_8 rfl rfl ?_
    refine r_getI B (C := RX11) (T := TX11) (N := 25) o_236 16 rfl win_X11 (by decide) rfl wf_X11_172 dX11_takesWord_9 (jj := 16) rfl ?_
    refine r_goto B (tgt := 19) dX11_takesWord_12 (by decide) ?_
    refine r_sub [0, 1] rfl ?_
    exact wJ_M_takesWord_19 B hr hk hw1 (I22 236 16) I22 hI22 ((hI22 _ _)) v
set_option maxHeartbeats 4000000 in
set_option maxRecDepth 100000 in
theorem c_M_fails {l : Launch} {E : En} {A : Nat → Prop} (x1 : Int) (x2 : Int) (I : Mm)  (hI : rgM I) (h1 : r32 x1) (h2 : r32 x2) : CI l E A yX11_fails cX11_fails 3 .boolean 0 0 [.ref (eA E 236), .int (i2 x1), .int (i2 x2)] I (V_M_fails x1 x2 I) := by
  intro Q v
  refine mk_met (own := RX11) (lv0 := [(0, .ref (eA E 236)), (1, .int (i2 x1)), (2, .int (i2 x2))]) (by decide) rfl (Nat.le_of_ble_eq_true rfl) rfl (fun p e s m args below meth c0 B hr hk => ?_)
  unfold V_M_fails at v
  refine r_aload_n B dX11_fails_0 rfl rfl ?_
  refine r_bipush B dX11_fails_1 (by decide) ?_
  refine r_iload_n B dX11_fails_3 rfl rfl ?_
  refine r_imul B dX11_fails_4 ?_
  refine r_iload_n B dX11_fails_5 rfl rfl ?_
  refine r_iadd B dX11_fails_6 ?_
  obtain ⟨h21, v⟩ := v
  refine r_putI B (C := RX11) (T := TX11) (N := 25) o_236 18 rfl win_X11 tyX11 tyX11_ok nmX11 (by decide) rfl rfl rfl wf_X11_283 dX11_fails_7 (jj := 18) rfl ?_
  have hI22 : rgM (wrM I 236 18 ((8 * x2) + x1)) := rg_wr hI h21
  refine r_iconst B dX11_fails_10 ?_
  exact r_iret B hr hk rfl ((rg_lit (by decide) (by decide))) hI22 v dX11_fails_11
set_option maxHeartbeats 4000000 in
set_option maxRecDepth 100000 in
theorem wL_M_readsNumber_37 {p : Program} {l : Launch} {e : Env} {s : State} {m : MethodId} {args : Array Value} {below : List Frame} {meth : Method} {c0 : Code} {E : En} {A : Nat → Prop} {x1 : Int} {x2 : Int} {Q : Int → Mm → Prop} {K99 : Int → Mm → Prop} (B : Bd p (rmm 2 41) s m args c0 cX11_readsNumber 5 RX11 E A 0 0) (hr : meth.sig.returnType = some .boolean) (hk : meth.locks = false) (h1 : r32 x1) (h2 : r32 x2)  (k99 : ∀ (x3 : Int) (I : Mm), rgM I → K99 x3 I → WI p l e (rmm 2 41) s m args below meth c0 E A 5 0 0 (qI below E A args s Q) I 99 [(0, .ref (eA E 236)), (1, .int (i2 x1)), (2, .int (i2 x2)), (3, .long (l2 x3))] []) : ∀ (n : Nat) (x3 : Int) (I : Mm), rgM I → L_M_readsNumber_37 x1 x2 Q K99 n x3 I → WI p l e (rmm 2 41) s m args below meth c0 E A 5 0 0 (qI below E A args s Q) I 37 [(0, .ref (eA E 236)), (1, .int (i2 x1)), (2, .int (i2 x2)), (3, .long (l2 x3))] [] := by
  intro n
  induction n with
  | zero => intro x3 I _  v; exact absurd v id
  | succ n ih =>
    intro x3 I hI  v
    unfold L_M_readsNumber_37 at v
    refine r_aload_n B dX11_readsNumber_37 rfl rfl ?_
    refine r_aload_n B dX11_readsNumber_38 rfl rfl ?_
    refine r_getI B (C := RX11) (T := TX11) (N := 25) o_236 17 rfl win_X11 (by decide) rfl wf_X11_277 dX11_readsNumber_39 (jj := 17) rfl ?_
    refine r_cI B (st := []) (as := [.int (i2 (I 236 17))]) (T := TX11) (N := 25) (c_M_byteAt (I 236 17) _ hI ((hI _ _))) v o_236 rfl mw_M_byteAt wl_X11_280 ⟨Nat.le_of_ble_eq_true rfl, Nat.le_of_ble_eq_true rfl⟩ rfl rfl (Nat.le_of_ble_eq_true rfl) dX11_readsNumber_42 (fun z26 I27 hz26 hI27 v => ?_)
    refine r_i2l B dX11_readsNumber_45 hz26 ?_
    refine r_ldc2 B (48) dX11_readsNumber_46 wc_X11_300 (by decide) ?_
    refine r_ldc2 B (57) dX11_readsNumber_49 wc_X11_302 (by decide) ?_
    refine r_sI B (st := []) (as := [.long (l2 z26), .long (l2 48), .long (l2 57)]) (c_M_in z26 48 57 _ hI27 ((rg_64 hz26)) ((show r64 (48) by exact ⟨by decide, by decide⟩)) ((show r64 (57) by exact ⟨by decide, by decide⟩))) v mw_M_in wl_X11_55 ⟨Nat.le_of_ble_eq_true rfl, Nat.le_of_ble_eq_true rfl⟩ rfl rfl (Nat.le_of_ble_eq_true rfl) dX11_readsNumber_52 (fun z28 I29 hz28 hI29 v => ?_)
    refine r_if_eq B (tgt := 99) dX11_readsNumber_55 (by decide) hz28 (fun h => ?_) (fun h => ?_)
    · have v := v.1 h
      refine r_sub [0, 1, 2, 3] rfl ?_
      exact k99 x3 _ hI29 v
    · have v := v.2 h
      refine r_lload_n B dX11_readsNumber_58 rfl rfl ?_
      refine r_ldc2 B (10000000000) dX11_readsNumber_59 wc_X11_307 (by decide) ?_
      obtain ⟨h30, v⟩ := v
      refine r_lcmp_ge B (tgt := 86) dX11_readsNumber_62 dX11_readsNumber_63 (by decide) h30 ((show r64 (10000000000) by exact ⟨by decide, by decide⟩)) (fun h => ?_) (fun h => ?_)
      · have v := v.1 h
        refine r_aload_n B dX11_readsNumber_86 rfl rfl ?_
        refine r_dup B dX11_readsNumber_87 rfl ?_
        refine r_getI B (C := RX11) (T := TX11) (N := 25) o_236 17 rfl win_X11 (by decide) rfl wf_X11_277 dX11_readsNumber_88 (jj := 17) rfl ?_
        refine r_iconst B dX11_readsNumber_91 ?_
        refine r_iadd B dX11_readsNumber_92 ?_
        obtain ⟨h31, v⟩ := v
        refine r_putI B (C := RX11) (T := TX11) (N := 25) o_236 17 rfl win_X11 tyX11 tyX11_ok nmX11 (by decide) rfl rfl rfl wf_X11_277 dX11_readsNumber_93 (jj := 17) rfl ?_
        have hI32 : rgM (wrM I29 236 17 (I29 236 17 + 1)) := rg_wr hI29 h31
        refine r_goto B (tgt := 37) dX11_readsNumber_96 (by decide) ?_
        refine r_sub [0, 1, 2, 3] rfl ?_
        exact ih x3 _ hI32 v
      · have v := v.2 h
        refine r_ldc2 B (10) dX11_readsNumber_66 wc_X11_309 (by decide) ?_
        refine r_lload_n B dX11_readsNumber_69 rfl rfl ?_
        refine r_lmul B dX11_readsNumber_70 ?_
        refine r_aload_n B dX11_readsNumber_71 rfl rfl ?_
        refine r_aload_n B dX11_readsNumber_72 rfl rfl ?_
        refine r_getI B (C := RX11) (T := TX11) (N := 25) o_236 17 rfl win_X11 (by decide) rfl wf_X11_277 dX11_readsNumber_73 (jj := 17) rfl ?_
        refine r_cI B (st := [.long (l2 (10 * x3))]) (as := [.int (i2 (I29 236 17))]) (T := TX11) (N := 25) (c_M_byteAt (I29 236 17) _ hI29 ((hI29 _ _))) v o_236 rfl mw_M_byteAt wl_X11_280 ⟨Nat.le_of_ble_eq_true rfl, Nat.le_of_ble_eq_true rfl⟩ rfl rfl (Nat.le_of_ble_eq_true rfl) dX11_readsNumber_76 (fun z33 I34 hz33 hI34 v => ?_)
        refine r_i2l B dX11_readsNumber_79 hz33 ?_
        refine r_ladd B dX11_readsNumber_80 ?_
        refine r_ldc2 B (48) dX11_readsNumber_81 wc_X11_300 (by decide) ?_
        refine r_lsub B dX11_readsNumber_84 ?_
        refine r_lstore_n B dX11_readsNumber_85 rfl (by decide) (lv' := [(3, .long (l2 (((10 * x3) + z33) - 48))), (0, .ref (eA E 236)), (1, .int (i2 x1)), (2, .int (i2 x2))]) rfl ?_
        refine r_sub [1, 2, 3, 0] rfl ?_
        refine r_aload_n B dX11_readsNumber_86 rfl rfl ?_
        refine r_dup B dX11_readsNumber_87 rfl ?_
        refine r_getI B (C := RX11) (T := TX11) (N := 25) o_236 17 rfl win_X11 (by decide) rfl wf_X11_277 dX11_readsNumber_88 (jj := 17) rfl ?_
        refine r_iconst B dX11_readsNumber_91 ?_
        refine r_iadd B dX11_readsNumber_92 ?_
        obtain ⟨h35, v⟩ := v
        refine r_putI B (C := RX11) (T := TX11) (N := 25) o_236 17 rfl win_X11 tyX11 tyX11_ok nmX11 (by decide) rfl rfl rfl wf_X11_277 dX11_readsNumber_93 (jj := 17) rfl ?_
        have hI36 : rgM (wrM I34 236 17 (I34 236 17 + 1)) := rg_wr hI34 h35
        refine r_goto B (tgt := 37) dX11_readsNumber_96 (by decide) ?_
        refine r_sub [0, 1, 2, 3] rfl ?_
        exact ih (((10 * x3) + z33) - 48) _ hI36 v
set_option maxHeartbeats 4000000 in
set_option maxRecDepth 100000 in
theorem wJ_M_readsNumber_116 {p : Program} {l : Launch} {e : Env} {s : State} {m : MethodId} {args : Array Value} {below : List Frame} {meth : Method} {c0 : Code} {E : En} {A : Nat → Prop} {x1 : Int} {x2 : Int} {Q : Int → Mm → Prop}  (B : Bd p (rmm 2 41) s m args c0 cX11_readsNumber 5 RX11 E A 0 0) (hr : meth.sig.returnType = some .boolean) (hk : meth.locks = false) (h1 : r32 x1) (h2 : r32 x2)   : ∀ (x3 : Int) (t1 : Int) (I : Mm), rgM I → r32 t1 → J_M_readsNumber_116 x1 x2 Q x3 t1 I → WI p l e (rmm 2 41) s m args below meth c0 E A 5 0 0 (qI below E A args s Q) I 116 [(0, .ref (eA E 236)), (1, .int (i2 x1)), (2, .int (i2 x2)), (3, .long (l2 x3))] [.int (i2 t1), .ref (eA E 236)] := by
  intro x3 t1 I hI ht1 v
  unfold J_M_readsNumber_116 at v
  refine r_putI B (C := RX11) (T := TX11) (N := 25) o_236 19 rfl win_X11 tyX11 tyX11_ok nmX11 (by decide) rfl rfl rfl wf_X11_314 dX11_readsNumber_116 (jj := 19) rfl ?_
  have hI40 : rgM (wrM I 236 19 t1) := rg_wr hI ht1
  refine r_lload_n B dX11_readsNumber_119 rfl rfl ?_
  refine r_iload_n B dX11_readsNumber_120 rfl rfl ?_
  refine r_i2l B dX11_readsNumber_121 h1 ?_
  refine r_iload_n B dX11_readsNumber_122 rfl rfl ?_
  refine r_i2l B dX11_readsNumber_123 h2 ?_
  obtain ⟨h41, v⟩ := v
  refine r_sI B (st := []) (as := [.long (l2 x3), .long (l2 x1), .long (l2 x2)]) (c_M_in x3 x1 x2 _ hI40 h41 ((rg_64 h1)) ((rg_64 h2))) v mw_M_in wl_X11_55 ⟨Nat.le_of_ble_eq_true rfl, Nat.le_of_ble_eq_true rfl⟩ rfl rfl (Nat.le_of_ble_eq_true rfl) dX11_readsNumber_124 (fun z42 I43 hz42 hI43 v => ?_)
  refine r_if_ne B (tgt := 142) dX11_readsNumber_127 (by decide) hz42 (fun h => ?_) (fun h => ?_)
  · have v := v.1 h
    refine r_iconst B dX11_readsNumber_142 ?_
    refine r_goto B (tgt := 147) dX11_readsNumber_143 (by decide) ?_
    exact r_iret B hr hk rfl ((rg_lit (by decide) (by decide))) hI43 v dX11_readsNumber_147
  · have v := v.2 h
    refine r_aload_n B dX11_readsNumber_130 rfl rfl ?_
    refine r_iconst B dX11_readsNumber_131 ?_
    refine r_aload_n B dX11_readsNumber_132 rfl rfl ?_
    refine r_getI B (C := RX11) (T := TX11) (N := 25) o_236 20 rfl win_X11 (by decide) rfl wf_X11_304 dX11_readsNumber_133 (jj := 20) rfl ?_
    refine r_cI B (st := []) (as := [.int (i2 2), .int (i2 (I43 236 20))]) (T := TX11) (N := 25) (c_M_fails 2 (I43 236 20) _ hI43 ((rg_lit (by decide) (by decide))) ((hI43 _ _))) v o_236 rfl mw_M_fails wl_X11_297 ⟨Nat.le_of_ble_eq_true rfl, Nat.le_of_ble_eq_true rfl⟩ rfl rfl (Nat.le_of_ble_eq_true rfl) dX11_readsNumber_136 (fun z44 I45 hz44 hI45 v => ?_)
    refine r_if_eq B (tgt := 146) dX11_readsNumber_139 (by decide) hz44 (fun h => ?_) (fun h => ?_)
    · have v := v.1 h
      refine r_iconst B dX11_readsNumber_146 ?_
      exact r_iret B hr hk rfl ((rg_lit (by decide) (by decide))) hI45 v dX11_readsNumber_147
    · have v := v.2 h
      refine r_iconst B dX11_readsNumber_142 ?_
      refine r_goto B (tgt := 147) dX11_readsNumber_143 (by decide) ?_
      exact r_iret B hr hk rfl ((rg_lit (by decide) (by decide))) hI45 v dX11_readsNumber_147
set_option maxHeartbeats 4000000 in
set_option maxRecDepth 100000 in
theorem c_M_readsNumber {l : Launch} {E : En} {A : Nat → Prop} (x1 : Int) (x2 : Int) (I : Mm)  (hI : rgM I) (h1 : r32 x1) (h2 : r32 x2) : CI l E A yX11_readsNumber cX11_readsNumber 5 .boolean 2 41 [.ref (eA E 236), .int (i2 x1), .int (i2 x2)] I (V_M_readsNumber x1 x2 I) := by
  intro Q v
  refine mk_met (own := RX11) (lv0 := [(0, .ref (eA E 236)), (1, .int (i2 x1)), (2, .int (i2 x2))]) (by decide) rfl (Nat.le_of_ble_eq_true rfl) rfl (fun p e s m args below meth c0 B hr hk => ?_)
  unfold V_M_readsNumber at v
  refine r_aload_n B dX11_readsNumber_0 rfl rfl ?_
  refine r_cI B (st := []) (as := []) (T := TX11) (N := 25) (c_M_nextByte _ hI ) v o_236 rfl mw_M_nextByte wl_X11_286 ⟨Nat.le_of_ble_eq_true rfl, Nat.le_of_ble_eq_true rfl⟩ rfl rfl (Nat.le_of_ble_eq_true rfl) dX11_readsNumber_1 (fun z21 I22 hz21 hI22 v => ?_)
  refine r_i2l B dX11_readsNumber_4 hz21 ?_
  refine r_ldc2 B (48) dX11_readsNumber_5 wc_X11_300 (by decide) ?_
  refine r_ldc2 B (57) dX11_readsNumber_8 wc_X11_302 (by decide) ?_
  refine r_sI B (st := []) (as := [.long (l2 z21), .long (l2 48), .long (l2 57)]) (c_M_in z21 48 57 _ hI22 ((rg_64 hz21)) ((show r64 (48) by exact ⟨by decide, by decide⟩)) ((show r64 (57) by exact ⟨by decide, by decide⟩))) v mw_M_in wl_X11_55 ⟨Nat.le_of_ble_eq_true rfl, Nat.le_of_ble_eq_true rfl⟩ rfl rfl (Nat.le_of_ble_eq_true rfl) dX11_readsNumber_11 (fun z23 I24 hz23 hI24 v => ?_)
  refine r_if_ne B (tgt := 27) dX11_readsNumber_14 (by decide) hz23 (fun h => ?_) (fun h => ?_)
  · have v := v.1 h
    refine r_aload_n B dX11_readsNumber_27 rfl rfl ?_
    refine r_aload_n B dX11_readsNumber_28 rfl rfl ?_
    refine r_getI B (C := RX11) (T := TX11) (N := 25) o_236 17 rfl win_X11 (by decide) rfl wf_X11_277 dX11_readsNumber_29 (jj := 17) rfl ?_
    refine r_putI B (C := RX11) (T := TX11) (N := 25) o_236 20 rfl win_X11 tyX11 tyX11_ok nmX11 (by decide) rfl rfl rfl wf_X11_304 dX11_readsNumber_32 (jj := 20) rfl ?_
    have hI25 : rgM (wrM I24 236 20 (I24 236 17)) := rg_wr hI24 ((hI24 _ _))
    refine r_lconst B 0 dX11_readsNumber_35 (by decide) ?_
    refine r_lstore_n B dX11_readsNumber_36 rfl (by decide) (lv' := [(3, .long (l2 0)), (0, .ref (eA E 236)), (1, .int (i2 x1)), (2, .int (i2 x2))]) rfl ?_
    refine r_sub [1, 2, 3, 0] rfl ?_
    obtain ⟨f49, v⟩ := v
    refine r_sub [0, 1, 2, 3] rfl ?_
    refine wL_M_readsNumber_37 B hr hk h1 h2 (fun y37 I38 hI38 v => ?_) f49 0 _ hI25 v
    · refine r_aload_n B dX11_readsNumber_99 rfl rfl ?_
      refine r_lload_n B dX11_readsNumber_100 rfl rfl ?_
      refine r_ldc2 B (2000000000) dX11_readsNumber_101 wc_X11_311 (by decide) ?_
      obtain ⟨h39, v⟩ := v
      refine r_lcmp_le B (tgt := 114) dX11_readsNumber_104 dX11_readsNumber_105 (by decide) h39 ((show r64 (2000000000) by exact ⟨by decide, by decide⟩)) (fun h => ?_) (fun h => ?_)
      · have v := v.1 h
        refine r_lload_n B dX11_readsNumber_114 rfl rfl ?_
        refine r_l2i B dX11_readsNumber_115 ?_
        obtain ⟨h46, v⟩ := v
        refine r_sub [0, 1, 2, 3] rfl ?_
        exact wJ_M_readsNumber_116 B hr hk h1 h2 y37 y37 I38 hI38 h46 v
      · have v := v.2 h
        refine r_ldcw B (2000000000) dX11_readsNumber_108 wc_X11_313 (by decide) ?_
        refine r_goto B (tgt := 116) dX11_readsNumber_111 (by decide) ?_
        refine r_sub [0, 1, 2, 3] rfl ?_
        exact wJ_M_readsNumber_116 B hr hk h1 h2 y37 2000000000 I38 hI38 ((rg_lit (by decide) (by decide))) v
  · have v := v.2 h
    refine r_aload_n B dX11_readsNumber_17 rfl rfl ?_
    refine r_iconst B dX11_readsNumber_18 ?_
    refine r_aload_n B dX11_readsNumber_19 rfl rfl ?_
    refine r_getI B (C := RX11) (T := TX11) (N := 25) o_236 17 rfl win_X11 (by decide) rfl wf_X11_277 dX11_readsNumber_20 (jj := 17) rfl ?_
    refine r_cI B (st := []) (as := [.int (i2 1), .int (i2 (I24 236 17))]) (T := TX11) (N := 25) (c_M_fails 1 (I24 236 17) _ hI24 ((rg_lit (by decide) (by decide))) ((hI24 _ _))) v o_236 rfl mw_M_fails wl_X11_297 ⟨Nat.le_of_ble_eq_true rfl, Nat.le_of_ble_eq_true rfl⟩ rfl rfl (Nat.le_of_ble_eq_true rfl) dX11_readsNumber_23 (fun z50 I51 hz50 hI51 v => ?_)
    obtain ⟨h52, v⟩ := v
    exact r_iret B hr hk (nar_z h52) ((bl01 h52)) hI51 v dX11_readsNumber_26
set_option maxHeartbeats 4000000 in
set_option maxRecDepth 100000 in
theorem c_M_readsRows {l : Launch} {E : En} {A : Nat → Prop}  (I : Mm)  (hI : rgM I)  : CI l E A yX11_readsRows cX11_readsRows 1 .boolean 3 65 [.ref (eA E 236)] I (V_M_readsRows  I) := by
  intro Q v
  refine mk_met (own := RX11) (lv0 := [(0, .ref (eA E 236))]) (by decide) rfl (Nat.le_of_ble_eq_true rfl) rfl (fun p e s m args below meth c0 B hr hk => ?_)
  unfold V_M_readsRows at v
  refine r_aload_n B dX11_readsRows_0 rfl rfl ?_
  refine r_iconst B dX11_readsRows_1 ?_
  refine r_bipush B dX11_readsRows_2 (by decide) ?_
  refine r_cI B (st := []) (as := [.int (i2 2), .int (i2 64)]) (T := TX11) (N := 25) (c_M_readsNumber 2 64 _ hI ((rg_lit (by decide) (by decide))) ((rg_lit (by decide) (by decide)))) v o_236 rfl mw_M_readsNumber wl_X11_326 ⟨Nat.le_of_ble_eq_true rfl, Nat.le_of_ble_eq_true rfl⟩ rfl rfl (Nat.le_of_ble_eq_true rfl) dX11_readsRows_4 (fun z21 I22 hz21 hI22 v => ?_)
  refine r_if_ne B (tgt := 12) dX11_readsRows_7 (by decide) hz21 (fun h => ?_) (fun h => ?_)
  · have v := v.1 h
    refine r_aload_n B dX11_readsRows_12 rfl rfl ?_
    refine r_getI B (C := RX11) (T := TX11) (N := 25) o_236 19 rfl win_X11 (by decide) rfl wf_X11_314 dX11_readsRows_13 (jj := 19) rfl ?_
    refine r_sI B (st := []) (as := [.int (i2 (I22 236 19))]) (c_M_areRows (I22 236 19) _ hI22 ((hI22 _ _))) v mw_M_areRows wl_X11_149 ⟨Nat.le_of_ble_eq_true rfl, Nat.le_of_ble_eq_true rfl⟩ rfl rfl (Nat.le_of_ble_eq_true rfl) dX11_readsRows_16 (fun z23 I24 hz23 hI24 v => ?_)
    refine r_if_ne B (tgt := 32) dX11_readsRows_19 (by decide) hz23 (fun h => ?_) (fun h => ?_)
    · have v := v.1 h
      refine r_aload_n B dX11_readsRows_32 rfl rfl ?_
      refine r_aload_n B dX11_readsRows_33 rfl rfl ?_
      refine r_getI B (C := RX11) (T := TX11) (N := 25) o_236 19 rfl win_X11 (by decide) rfl wf_X11_314 dX11_readsRows_34 (jj := 19) rfl ?_
      refine r_aload_n B dX11_readsRows_37 rfl rfl ?_
      refine r_getR B (C := RX11) (T := TX11) (N := 25) o_236 0 rfl win_X11 (by decide) rfl wf_X11_7 dX11_readsRows_38 ?_
      refine r_iconst B dX11_readsRows_41 ?_
      refine r_ald B a_237 (by decide) (by decide) dX11_readsRows_42 ?_
      refine r_cV B (st := []) (as := [.int (i2 (I24 236 19)), .int (i2 (I24 237 2))]) (T := TX11) (N := 25) (c_M_resizes (I24 236 19) (I24 237 2) _ hI24 ((hI24 _ _)) ((hI24 _ _))) v o_236 rfl mw_M_resizes wl_X11_152 ⟨Nat.le_of_ble_eq_true rfl, Nat.le_of_ble_eq_true rfl⟩ rfl rfl (Nat.le_of_ble_eq_true rfl) dX11_readsRows_43 (fun I25 hI25 v => ?_)
      refine r_iconst B dX11_readsRows_46 ?_
      exact r_iret B hr hk rfl ((rg_lit (by decide) (by decide))) hI25 v dX11_readsRows_47
    · have v := v.2 h
      refine r_aload_n B dX11_readsRows_22 rfl rfl ?_
      refine r_iconst B dX11_readsRows_23 ?_
      refine r_aload_n B dX11_readsRows_24 rfl rfl ?_
      refine r_getI B (C := RX11) (T := TX11) (N := 25) o_236 20 rfl win_X11 (by decide) rfl wf_X11_304 dX11_readsRows_25 (jj := 20) rfl ?_
      refine r_cI B (st := []) (as := [.int (i2 2), .int (i2 (I24 236 20))]) (T := TX11) (N := 25) (c_M_fails 2 (I24 236 20) _ hI24 ((rg_lit (by decide) (by decide))) ((hI24 _ _))) v o_236 rfl mw_M_fails wl_X11_297 ⟨Nat.le_of_ble_eq_true rfl, Nat.le_of_ble_eq_true rfl⟩ rfl rfl (Nat.le_of_ble_eq_true rfl) dX11_readsRows_28 (fun z26 I27 hz26 hI27 v => ?_)
      obtain ⟨h28, v⟩ := v
      exact r_iret B hr hk (nar_z h28) ((bl01 h28)) hI27 v dX11_readsRows_31
  · have v := v.2 h
    refine r_iconst B dX11_readsRows_10 ?_
    exact r_iret B hr hk rfl ((rg_lit (by decide) (by decide))) hI22 v dX11_readsRows_11
set_option maxHeartbeats 4000000 in
set_option maxRecDepth 100000 in
theorem c_M_readsWide {l : Launch} {E : En} {A : Nat → Prop}  (I : Mm)  (hI : rgM I)  : CI l E A yX11_readsWide cX11_readsWide 1 .boolean 3 65 [.ref (eA E 236)] I (V_M_readsWide  I) := by
  intro Q v
  refine mk_met (own := RX11) (lv0 := [(0, .ref (eA E 236))]) (by decide) rfl (Nat.le_of_ble_eq_true rfl) rfl (fun p e s m args below meth c0 B hr hk => ?_)
  unfold V_M_readsWide at v
  refine r_aload_n B dX11_readsWide_0 rfl rfl ?_
  refine r_iconst B dX11_readsWide_1 ?_
  refine r_ldcw B (99999999) dX11_readsWide_2 wc_X11_329 (by decide) ?_
  refine r_cI B (st := []) (as := [.int (i2 1), .int (i2 99999999)]) (T := TX11) (N := 25) (c_M_readsNumber 1 99999999 _ hI ((rg_lit (by decide) (by decide))) ((rg_lit (by decide) (by decide)))) v o_236 rfl mw_M_readsNumber wl_X11_326 ⟨Nat.le_of_ble_eq_true rfl, Nat.le_of_ble_eq_true rfl⟩ rfl rfl (Nat.le_of_ble_eq_true rfl) dX11_readsWide_5 (fun z21 I22 hz21 hI22 v => ?_)
  refine r_if_ne B (tgt := 13) dX11_readsWide_8 (by decide) hz21 (fun h => ?_) (fun h => ?_)
  · have v := v.1 h
    refine r_aload_n B dX11_readsWide_13 rfl rfl ?_
    refine r_aload_n B dX11_readsWide_14 rfl rfl ?_
    refine r_getR B (C := RX11) (T := TX11) (N := 25) o_236 0 rfl win_X11 (by decide) rfl wf_X11_7 dX11_readsWide_15 ?_
    refine r_iconst B dX11_readsWide_18 ?_
    refine r_ald B a_237 (by decide) (by decide) dX11_readsWide_19 ?_
    refine r_aload_n B dX11_readsWide_20 rfl rfl ?_
    refine r_getI B (C := RX11) (T := TX11) (N := 25) o_236 19 rfl win_X11 (by decide) rfl wf_X11_314 dX11_readsWide_21 (jj := 19) rfl ?_
    refine r_cV B (st := []) (as := [.int (i2 (I22 237 1)), .int (i2 (I22 236 19))]) (T := TX11) (N := 25) (c_M_resizes (I22 237 1) (I22 236 19) _ hI22 ((hI22 _ _)) ((hI22 _ _))) v o_236 rfl mw_M_resizes wl_X11_152 ⟨Nat.le_of_ble_eq_true rfl, Nat.le_of_ble_eq_true rfl⟩ rfl rfl (Nat.le_of_ble_eq_true rfl) dX11_readsWide_24 (fun I23 hI23 v => ?_)
    refine r_iconst B dX11_readsWide_27 ?_
    exact r_iret B hr hk rfl ((rg_lit (by decide) (by decide))) hI23 v dX11_readsWide_28
  · have v := v.2 h
    refine r_iconst B dX11_readsWide_11 ?_
    exact r_iret B hr hk rfl ((rg_lit (by decide) (by decide))) hI22 v dX11_readsWide_12
set_option maxHeartbeats 4000000 in
set_option maxRecDepth 100000 in
theorem wL_M_isNamed_14 {p : Program} {l : Launch} {e : Env} {s : State} {m : MethodId} {args : Array Value} {below : List Frame} {meth : Method} {c0 : Code} {E : En} {A : Nat → Prop} {x1 : Int} {x2 : Int} {x3 : Int} {Q : Int → Mm → Prop}  (B : Bd p (rmm 1 22) s m args c0 cX11_isNamed 5 RX11 E A 0 0) (hr : meth.sig.returnType = some .boolean) (hk : meth.locks = false) (h1 : r32 x1) (h2 : r32 x2) (h3 : r32 x3)   : ∀ (n : Nat) (x4 : Int) (I : Mm), rgM I → r32 x4 → L_M_isNamed_14 x1 x2 x3 Q n x4 I → WI p l e (rmm 1 22) s m args below meth c0 E A 5 0 0 (qI below E A args s Q) I 14 [(0, .ref (eA E 236)), (1, .int (i2 x1)), (2, .int (i2 x2)), (3, .int (i2 x3)), (4, .int (i2 x4))] [] := by
  intro n
  induction n with
  | zero => intro x4 I _ _ v; exact absurd v id
  | succ n ih =>
    intro x4 I hI h4 v
    unfold L_M_isNamed_14 at v
    refine r_iload B dX11_isNamed_14 rfl ?_
    refine r_iload_n B dX11_isNamed_16 rfl rfl ?_
    refine r_icmp_ge B (tgt := 54) dX11_isNamed_17 (by decide) h4 h3 (fun h => ?_) (fun h => ?_)
    · have v := v.1 h
      refine r_iconst B dX11_isNamed_54 ?_
      exact r_iret B hr hk rfl ((rg_lit (by decide) (by decide))) hI v dX11_isNamed_55
    · have v := v.2 h
      refine r_aload_n B dX11_isNamed_20 rfl rfl ?_
      refine r_getR B (C := RX11) (T := TX11) (N := 25) o_236 0 rfl win_X11 (by decide) rfl wf_X11_7 dX11_isNamed_21 ?_
      refine r_bipush B dX11_isNamed_24 (by decide) ?_
      refine r_bipush B dX11_isNamed_26 (by decide) ?_
      refine r_iload_n B dX11_isNamed_28 rfl rfl ?_
      refine r_imul B dX11_isNamed_29 ?_
      refine r_iadd B dX11_isNamed_30 ?_
      refine r_iload B dX11_isNamed_31 rfl ?_
      refine r_iadd B dX11_isNamed_33 ?_
      obtain ⟨h23, v⟩ := v
      refine r_ald B a_237 (by decide) h23 dX11_isNamed_34 ?_
      refine r_aload_n B dX11_isNamed_35 rfl rfl ?_
      refine r_iload_n B dX11_isNamed_36 rfl rfl ?_
      refine r_iload B dX11_isNamed_37 rfl ?_
      refine r_iadd B dX11_isNamed_39 ?_
      obtain ⟨h24, v⟩ := v
      refine r_cI B (st := [.int (i2 (I 237 ((48 + (6 * x1)) + x4)))]) (as := [.int (i2 (x2 + x4))]) (T := TX11) (N := 25) (c_M_byteAt (x2 + x4) _ hI h24) v o_236 rfl mw_M_byteAt wl_X11_280 ⟨Nat.le_of_ble_eq_true rfl, Nat.le_of_ble_eq_true rfl⟩ rfl rfl (Nat.le_of_ble_eq_true rfl) dX11_isNamed_40 (fun z25 I26 hz25 hI26 v => ?_)
      refine r_icmp_eq B (tgt := 48) dX11_isNamed_43 (by decide) ((hI _ _)) hz25 (fun h => ?_) (fun h => ?_)
      · have v := v.1 h
        refine r_iinc B (q := 4) dX11_isNamed_48 (by decide) rfl (lv' := [(4, .int (i2 (x4 + 1))), (0, .ref (eA E 236)), (1, .int (i2 x1)), (2, .int (i2 x2)), (3, .int (i2 x3))]) rfl ?_
        refine r_sub [1, 2, 3, 4, 0] rfl ?_
        refine r_goto B (tgt := 14) dX11_isNamed_51 (by decide) ?_
        obtain ⟨h27, v⟩ := v
        refine r_sub [0, 1, 2, 3, 4] rfl ?_
        exact ih (x4 + 1) _ hI26 h27 v
      · have v := v.2 h
        refine r_iconst B dX11_isNamed_46 ?_
        exact r_iret B hr hk rfl ((rg_lit (by decide) (by decide))) hI26 v dX11_isNamed_47
set_option maxHeartbeats 4000000 in
set_option maxRecDepth 100000 in
theorem c_M_isNamed {l : Launch} {E : En} {A : Nat → Prop} (x1 : Int) (x2 : Int) (x3 : Int) (I : Mm)  (hI : rgM I) (h1 : r32 x1) (h2 : r32 x2) (h3 : r32 x3) : CI l E A yX11_isNamed cX11_isNamed 5 .boolean 1 22 [.ref (eA E 236), .int (i2 x1), .int (i2 x2), .int (i2 x3)] I (V_M_isNamed x1 x2 x3 I) := by
  intro Q v
  refine mk_met (own := RX11) (lv0 := [(0, .ref (eA E 236)), (1, .int (i2 x1)), (2, .int (i2 x2)), (3, .int (i2 x3))]) (by decide) rfl (Nat.le_of_ble_eq_true rfl) rfl (fun p e s m args below meth c0 B hr hk => ?_)
  unfold V_M_isNamed at v
  refine r_aload_n B dX11_isNamed_0 rfl rfl ?_
  refine r_iload_n B dX11_isNamed_1 rfl rfl ?_
  refine r_cI B (st := []) (as := [.int (i2 x1)]) (T := TX11) (N := 25) (c_M_letters x1 _ hI h1) v o_236 rfl mw_M_letters wl_X11_164 ⟨Nat.le_of_ble_eq_true rfl, Nat.le_of_ble_eq_true rfl⟩ rfl rfl (Nat.le_of_ble_eq_true rfl) dX11_isNamed_2 (fun z21 I22 hz21 hI22 v => ?_)
  refine r_iload_n B dX11_isNamed_5 rfl rfl ?_
  refine r_icmp_eq B (tgt := 11) dX11_isNamed_6 (by decide) hz21 h3 (fun h => ?_) (fun h => ?_)
  · have v := v.1 h
    refine r_iconst B dX11_isNamed_11 ?_
    refine r_istore B dX11_isNamed_12 (by decide) (lv' := [(4, .int (i2 0)), (0, .ref (eA E 236)), (1, .int (i2 x1)), (2, .int (i2 x2)), (3, .int (i2 x3))]) rfl ?_
    refine r_sub [1, 2, 3, 4, 0] rfl ?_
    obtain ⟨f28, v⟩ := v
    refine r_sub [0, 1, 2, 3, 4] rfl ?_
    exact wL_M_isNamed_14 B hr hk h1 h2 h3 f28 0 I22 hI22 ((rg_lit (by decide) (by decide))) v
  · have v := v.2 h
    refine r_iconst B dX11_isNamed_9 ?_
    exact r_iret B hr hk rfl ((rg_lit (by decide) (by decide))) hI22 v dX11_isNamed_10
set_option maxHeartbeats 4000000 in
set_option maxRecDepth 100000 in
theorem wL_M_nameAt_2 {p : Program} {l : Launch} {e : Env} {s : State} {m : MethodId} {args : Array Value} {below : List Frame} {meth : Method} {c0 : Code} {E : En} {A : Nat → Prop} {x1 : Int} {x2 : Int} {Q : Int → Mm → Prop} {K30 : Mm → Prop} (B : Bd p (rmm 2 46) s m args c0 cX11_nameAt 4 RX11 E A 0 0) (hr : meth.sig.returnType = some .int) (hk : meth.locks = false) (h1 : r32 x1) (h2 : r32 x2)  (k30 : ∀ (I : Mm), rgM I → K30 I → WI p l e (rmm 2 46) s m args below meth c0 E A 4 0 0 (qI below E A args s Q) I 30 [(0, .ref (eA E 236)), (1, .int (i2 x1)), (2, .int (i2 x2))] []) : ∀ (n : Nat) (x3 : Int) (I : Mm), rgM I → r32 x3 → L_M_nameAt_2 x1 x2 Q K30 n x3 I → WI p l e (rmm 2 46) s m args below meth c0 E A 4 0 0 (qI below E A args s Q) I 2 [(0, .ref (eA E 236)), (1, .int (i2 x1)), (2, .int (i2 x2)), (3, .int (i2 x3))] [] := by
  intro n
  induction n with
  | zero => intro x3 I _ _ v; exact absurd v id
  | succ n ih =>
    intro x3 I hI h3 v
    unfold L_M_nameAt_2 at v
    refine r_iload_n B dX11_nameAt_2 rfl rfl ?_
    refine r_aload_n B dX11_nameAt_3 rfl rfl ?_
    refine r_getR B (C := RX11) (T := TX11) (N := 25) o_236 0 rfl win_X11 (by decide) rfl wf_X11_7 dX11_nameAt_4 ?_
    refine r_iconst B dX11_nameAt_7 ?_
    refine r_ald B a_237 (by decide) (by decide) dX11_nameAt_8 ?_
    refine r_icmp_ge B (tgt := 30) dX11_nameAt_9 (by decide) h3 ((hI _ _)) (fun h => ?_) (fun h => ?_)
    · have v := v.1 h
      refine r_sub [0, 1, 2] rfl ?_
      exact k30 _ hI v
    · have v := v.2 h
      refine r_aload_n B dX11_nameAt_12 rfl rfl ?_
      refine r_iload_n B dX11_nameAt_13 rfl rfl ?_
      refine r_iload_n B dX11_nameAt_14 rfl rfl ?_
      refine r_iload_n B dX11_nameAt_15 rfl rfl ?_
      refine r_cI B (st := []) (as := [.int (i2 x3), .int (i2 x1), .int (i2 x2)]) (T := TX11) (N := 25) (c_M_isNamed x3 x1 x2 _ hI h3 h1 h2) v o_236 rfl mw_M_isNamed wl_X11_317 ⟨Nat.le_of_ble_eq_true rfl, Nat.le_of_ble_eq_true rfl⟩ rfl rfl (Nat.le_of_ble_eq_true rfl) dX11_nameAt_16 (fun z21 I22 hz21 hI22 v => ?_)
      refine r_if_eq B (tgt := 24) dX11_nameAt_19 (by decide) hz21 (fun h => ?_) (fun h => ?_)
      · have v := v.1 h
        refine r_iinc B (q := 3) dX11_nameAt_24 (by decide) rfl (lv' := [(3, .int (i2 (x3 + 1))), (0, .ref (eA E 236)), (1, .int (i2 x1)), (2, .int (i2 x2))]) rfl ?_
        refine r_sub [1, 2, 3, 0] rfl ?_
        refine r_goto B (tgt := 2) dX11_nameAt_27 (by decide) ?_
        obtain ⟨h23, v⟩ := v
        refine r_sub [0, 1, 2, 3] rfl ?_
        exact ih (x3 + 1) _ hI22 h23 v
      · have v := v.2 h
        refine r_iload_n B dX11_nameAt_22 rfl rfl ?_
        exact r_iret B hr hk rfl h3 hI22 v dX11_nameAt_23
set_option maxHeartbeats 4000000 in
set_option maxRecDepth 100000 in
theorem wL_M_nameAt_45 {p : Program} {l : Launch} {e : Env} {s : State} {m : MethodId} {args : Array Value} {below : List Frame} {meth : Method} {c0 : Code} {E : En} {A : Nat → Prop} {x1 : Int} {x2 : Int} {Q : Int → Mm → Prop} {K92 : Mm → Prop} (B : Bd p (rmm 2 46) s m args c0 cX11_nameAt 4 RX11 E A 0 0) (hr : meth.sig.returnType = some .int) (hk : meth.locks = false) (h1 : r32 x1) (h2 : r32 x2)  (k92 : ∀ (I : Mm), rgM I → K92 I → WI p l e (rmm 2 46) s m args below meth c0 E A 4 0 0 (qI below E A args s Q) I 92 [(0, .ref (eA E 236))] []) : ∀ (n : Nat) (x3 : Int) (I : Mm), rgM I → r32 x3 → L_M_nameAt_45 x1 x2 Q K92 n x3 I → WI p l e (rmm 2 46) s m args below meth c0 E A 4 0 0 (qI below E A args s Q) I 45 [(0, .ref (eA E 236)), (1, .int (i2 x1)), (2, .int (i2 x2)), (3, .int (i2 x3))] [] := by
  intro n
  induction n with
  | zero => intro x3 I _ _ v; exact absurd v id
  | succ n ih =>
    intro x3 I hI h3 v
    unfold L_M_nameAt_45 at v
    refine r_iload_n B dX11_nameAt_45 rfl rfl ?_
    refine r_bipush B dX11_nameAt_46 (by decide) ?_
    refine r_icmp_ge B (tgt := 92) dX11_nameAt_48 (by decide) h3 ((rg_lit (by decide) (by decide))) (fun h => ?_) (fun h => ?_)
    · have v := v.1 h
      refine r_sub [0] rfl ?_
      exact k92 _ hI v
    · have v := v.2 h
      refine r_aload_n B dX11_nameAt_51 rfl rfl ?_
      refine r_getR B (C := RX11) (T := TX11) (N := 25) o_236 0 rfl win_X11 (by decide) rfl wf_X11_7 dX11_nameAt_52 ?_
      refine r_bipush B dX11_nameAt_55 (by decide) ?_
      refine r_bipush B dX11_nameAt_57 (by decide) ?_
      refine r_aload_n B dX11_nameAt_59 rfl rfl ?_
      refine r_getR B (C := RX11) (T := TX11) (N := 25) o_236 0 rfl win_X11 (by decide) rfl wf_X11_7 dX11_nameAt_60 ?_
      refine r_iconst B dX11_nameAt_63 ?_
      refine r_ald B a_237 (by decide) (by decide) dX11_nameAt_64 ?_
      refine r_imul B dX11_nameAt_65 ?_
      refine r_iadd B dX11_nameAt_66 ?_
      refine r_iload_n B dX11_nameAt_67 rfl rfl ?_
      refine r_iadd B dX11_nameAt_68 ?_
      refine r_iload_n B dX11_nameAt_69 rfl rfl ?_
      refine r_iload_n B dX11_nameAt_70 rfl rfl ?_
      refine r_icmp_ge B (tgt := 84) dX11_nameAt_71 (by decide) h3 h2 (fun h => ?_) (fun h => ?_)
      · have v := v.1 h
        refine r_iconst B dX11_nameAt_84 ?_
        obtain ⟨h25, v⟩ := v
        refine r_ast B a_237 (by decide) h25 dX11_nameAt_85 ?_
        have hI26 : rgM (wrM I 237 ((48 + (6 * I 237 4)) + x3) 0) := rg_wr hI ((rg_lit (by decide) (by decide)))
        refine r_iinc B (q := 3) dX11_nameAt_86 (by decide) rfl (lv' := [(3, .int (i2 (x3 + 1))), (0, .ref (eA E 236)), (1, .int (i2 x1)), (2, .int (i2 x2))]) rfl ?_
        refine r_sub [1, 2, 3, 0] rfl ?_
        refine r_goto B (tgt := 45) dX11_nameAt_89 (by decide) ?_
        obtain ⟨h27, v⟩ := v
        refine r_sub [0, 1, 2, 3] rfl ?_
        exact ih (x3 + 1) _ hI26 h27 v
      · have v := v.2 h
        refine r_aload_n B dX11_nameAt_74 rfl rfl ?_
        refine r_iload_n B dX11_nameAt_75 rfl rfl ?_
        refine r_iload_n B dX11_nameAt_76 rfl rfl ?_
        refine r_iadd B dX11_nameAt_77 ?_
        obtain ⟨h28, v⟩ := v
        refine r_cI B (st := [.int (i2 ((48 + (6 * I 237 4)) + x3)), .ref (eA E 237)]) (as := [.int (i2 (x1 + x3))]) (T := TX11) (N := 25) (c_M_byteAt (x1 + x3) _ hI h28) v o_236 rfl mw_M_byteAt wl_X11_280 ⟨Nat.le_of_ble_eq_true rfl, Nat.le_of_ble_eq_true rfl⟩ rfl rfl (Nat.le_of_ble_eq_true rfl) dX11_nameAt_78 (fun z29 I30 hz29 hI30 v => ?_)
        refine r_goto B (tgt := 85) dX11_nameAt_81 (by decide) ?_
        obtain ⟨h31, v⟩ := v
        refine r_ast B a_237 (by decide) h31 dX11_nameAt_85 ?_
        have hI32 : rgM (wrM I30 237 ((48 + (6 * I 237 4)) + x3) z29) := rg_wr hI30 hz29
        refine r_iinc B (q := 3) dX11_nameAt_86 (by decide) rfl (lv' := [(3, .int (i2 (x3 + 1))), (0, .ref (eA E 236)), (1, .int (i2 x1)), (2, .int (i2 x2))]) rfl ?_
        refine r_sub [1, 2, 3, 0] rfl ?_
        refine r_goto B (tgt := 45) dX11_nameAt_89 (by decide) ?_
        obtain ⟨h33, v⟩ := v
        refine r_sub [0, 1, 2, 3] rfl ?_
        exact ih (x3 + 1) _ hI32 h33 v
set_option maxHeartbeats 4000000 in
set_option maxRecDepth 100000 in
theorem c_M_nameAt {l : Launch} {E : En} {A : Nat → Prop} (x1 : Int) (x2 : Int) (I : Mm)  (hI : rgM I) (h1 : r32 x1) (h2 : r32 x2) : CI l E A yX11_nameAt cX11_nameAt 4 .int 2 46 [.ref (eA E 236), .int (i2 x1), .int (i2 x2)] I (V_M_nameAt x1 x2 I) := by
  intro Q v
  refine mk_met (own := RX11) (lv0 := [(0, .ref (eA E 236)), (1, .int (i2 x1)), (2, .int (i2 x2))]) (by decide) rfl (Nat.le_of_ble_eq_true rfl) rfl (fun p e s m args below meth c0 B hr hk => ?_)
  unfold V_M_nameAt at v
  refine r_iconst B dX11_nameAt_0 ?_
  refine r_istore_n B dX11_nameAt_1 rfl (by decide) (lv' := [(3, .int (i2 0)), (0, .ref (eA E 236)), (1, .int (i2 x1)), (2, .int (i2 x2))]) rfl ?_
  refine r_sub [1, 2, 3, 0] rfl ?_
  obtain ⟨f39, v⟩ := v
  refine r_sub [0, 1, 2, 3] rfl ?_
  refine wL_M_nameAt_2 B hr hk h1 h2 (fun I24 hI24 v => ?_) f39 0 I hI ((rg_lit (by decide) (by decide))) v
  · refine r_aload_n B dX11_nameAt_30 rfl rfl ?_
    refine r_getR B (C := RX11) (T := TX11) (N := 25) o_236 0 rfl win_X11 (by decide) rfl wf_X11_7 dX11_nameAt_31 ?_
    refine r_iconst B dX11_nameAt_34 ?_
    refine r_ald B a_237 (by decide) (by decide) dX11_nameAt_35 ?_
    refine r_bipush B dX11_nameAt_36 (by decide) ?_
    refine r_icmp_ne B (tgt := 43) dX11_nameAt_38 (by decide) ((hI24 _ _)) ((rg_lit (by decide) (by decide))) (fun h => ?_) (fun h => ?_)
    · have v := v.1 h
      refine r_iconst B dX11_nameAt_43 ?_
      refine r_istore_n B dX11_nameAt_44 rfl (by decide) (lv' := [(3, .int (i2 0)), (0, .ref (eA E 236)), (1, .int (i2 x1)), (2, .int (i2 x2))]) rfl ?_
      refine r_sub [1, 2, 3, 0] rfl ?_
      obtain ⟨f38, v⟩ := v
      refine r_sub [0, 1, 2, 3] rfl ?_
      refine wL_M_nameAt_45 B hr hk h1 h2 (fun I34 hI34 v => ?_) f38 0 I24 hI24 ((rg_lit (by decide) (by decide))) v
      · refine r_aload_n B dX11_nameAt_92 rfl rfl ?_
        refine r_getR B (C := RX11) (T := TX11) (N := 25) o_236 0 rfl win_X11 (by decide) rfl wf_X11_7 dX11_nameAt_93 ?_
        refine r_iconst B dX11_nameAt_96 ?_
        refine r_dup2 B dX11_nameAt_97 rfl rfl ?_
        refine r_ald B a_237 (by decide) (by decide) dX11_nameAt_98 ?_
        refine r_iconst B dX11_nameAt_99 ?_
        refine r_iadd B dX11_nameAt_100 ?_
        obtain ⟨h35, v⟩ := v
        refine r_ast B a_237 (by decide) (by decide) dX11_nameAt_101 ?_
        have hI36 : rgM (wrM I34 237 4 (I34 237 4 + 1)) := rg_wr hI34 h35
        refine r_aload_n B dX11_nameAt_102 rfl rfl ?_
        refine r_getR B (C := RX11) (T := TX11) (N := 25) o_236 0 rfl win_X11 (by decide) rfl wf_X11_7 dX11_nameAt_103 ?_
        refine r_iconst B dX11_nameAt_106 ?_
        refine r_ald B a_237 (by decide) (by decide) dX11_nameAt_107 ?_
        refine r_iconst B dX11_nameAt_108 ?_
        refine r_isub B dX11_nameAt_109 ?_
        obtain ⟨h37, v⟩ := v
        exact r_iret B hr hk rfl h37 hI36 v dX11_nameAt_110
    · have v := v.2 h
      refine r_iconst B dX11_nameAt_41 ?_
      exact r_iret B hr hk rfl ((rg_lit (by decide) (by decide))) hI24 v dX11_nameAt_42
set_option maxHeartbeats 4000000 in
set_option maxRecDepth 100000 in
theorem wL_M_readsName_32 {p : Program} {l : Launch} {e : Env} {s : State} {m : MethodId} {args : Array Value} {below : List Frame} {meth : Method} {c0 : Code} {E : En} {A : Nat → Prop} {x1 : Int} {Q : Int → Mm → Prop} {K87 : Mm → Prop} (B : Bd p (rmm 3 69) s m args c0 cX11_readsName 2 RX11 E A 0 0) (hr : meth.sig.returnType = some .boolean) (hk : meth.locks = false)  (h1 : r32 x1) (k87 : ∀ (I : Mm), rgM I → K87 I → WI p l e (rmm 3 69) s m args below meth c0 E A 2 0 0 (qI below E A args s Q) I 87 [(0, .ref (eA E 236)), (1, .int (i2 x1))] []) : ∀ (n : Nat) (I : Mm), rgM I → L_M_readsName_32 x1 Q K87 n I → WI p l e (rmm 3 69) s m args below meth c0 E A 2 0 0 (qI below E A args s Q) I 32 [(0, .ref (eA E 236)), (1, .int (i2 x1))] [] := by
  intro n
  induction n with
  | zero => intro  I _  v; exact absurd v id
  | succ n ih =>
    intro  I hI  v
    unfold L_M_readsName_32 at v
    refine r_aload_n B dX11_readsName_32 rfl rfl ?_
    refine r_aload_n B dX11_readsName_33 rfl rfl ?_
    refine r_getI B (C := RX11) (T := TX11) (N := 25) o_236 17 rfl win_X11 (by decide) rfl wf_X11_277 dX11_readsName_34 (jj := 17) rfl ?_
    refine r_cI B (st := []) (as := [.int (i2 (I 236 17))]) (T := TX11) (N := 25) (c_M_byteAt (I 236 17) _ hI ((hI _ _))) v o_236 rfl mw_M_byteAt wl_X11_280 ⟨Nat.le_of_ble_eq_true rfl, Nat.le_of_ble_eq_true rfl⟩ rfl rfl (Nat.le_of_ble_eq_true rfl) dX11_readsName_37 (fun z25 I26 hz25 hI26 v => ?_)
    refine r_i2l B dX11_readsName_40 hz25 ?_
    refine r_ldc2 B (97) dX11_readsName_41 wc_X11_289 (by decide) ?_
    refine r_ldc2 B (122) dX11_readsName_44 wc_X11_291 (by decide) ?_
    refine r_sI B (st := []) (as := [.long (l2 z25), .long (l2 97), .long (l2 122)]) (c_M_in z25 97 122 _ hI26 ((rg_64 hz25)) ((show r64 (97) by exact ⟨by decide, by decide⟩)) ((show r64 (122) by exact ⟨by decide, by decide⟩))) v mw_M_in wl_X11_55 ⟨Nat.le_of_ble_eq_true rfl, Nat.le_of_ble_eq_true rfl⟩ rfl rfl (Nat.le_of_ble_eq_true rfl) dX11_readsName_47 (fun z27 I28 hz27 hI28 v => ?_)
    refine r_if_eq B (tgt := 87) dX11_readsName_50 (by decide) hz27 (fun h => ?_) (fun h => ?_)
    · have v := v.1 h
      refine r_sub [0, 1] rfl ?_
      exact k87 _ hI28 v
    · have v := v.2 h
      refine r_aload_n B dX11_readsName_53 rfl rfl ?_
      refine r_getI B (C := RX11) (T := TX11) (N := 25) o_236 17 rfl win_X11 (by decide) rfl wf_X11_277 dX11_readsName_54 (jj := 17) rfl ?_
      refine r_iload_n B dX11_readsName_57 rfl rfl ?_
      refine r_isub B dX11_readsName_58 ?_
      refine r_bipush B dX11_readsName_59 (by decide) ?_
      obtain ⟨h29, v⟩ := v
      refine r_icmp_ne B (tgt := 74) dX11_readsName_61 (by decide) h29 ((rg_lit (by decide) (by decide))) (fun h => ?_) (fun h => ?_)
      · have v := v.1 h
        refine r_aload_n B dX11_readsName_74 rfl rfl ?_
        refine r_dup B dX11_readsName_75 rfl ?_
        refine r_getI B (C := RX11) (T := TX11) (N := 25) o_236 17 rfl win_X11 (by decide) rfl wf_X11_277 dX11_readsName_76 (jj := 17) rfl ?_
        refine r_iconst B dX11_readsName_79 ?_
        refine r_iadd B dX11_readsName_80 ?_
        obtain ⟨h30, v⟩ := v
        refine r_putI B (C := RX11) (T := TX11) (N := 25) o_236 17 rfl win_X11 tyX11 tyX11_ok nmX11 (by decide) rfl rfl rfl wf_X11_277 dX11_readsName_81 (jj := 17) rfl ?_
        have hI31 : rgM (wrM I28 236 17 (I28 236 17 + 1)) := rg_wr hI28 h30
        refine r_goto B (tgt := 32) dX11_readsName_84 (by decide) ?_
        refine r_sub [0, 1] rfl ?_
        exact ih _ hI31 v
      · have v := v.2 h
        refine r_aload_n B dX11_readsName_64 rfl rfl ?_
        refine r_iconst B dX11_readsName_65 ?_
        refine r_aload_n B dX11_readsName_66 rfl rfl ?_
        refine r_getI B (C := RX11) (T := TX11) (N := 25) o_236 17 rfl win_X11 (by decide) rfl wf_X11_277 dX11_readsName_67 (jj := 17) rfl ?_
        refine r_cI B (st := []) (as := [.int (i2 2), .int (i2 (I28 236 17))]) (T := TX11) (N := 25) (c_M_fails 2 (I28 236 17) _ hI28 ((rg_lit (by decide) (by decide))) ((hI28 _ _))) v o_236 rfl mw_M_fails wl_X11_297 ⟨Nat.le_of_ble_eq_true rfl, Nat.le_of_ble_eq_true rfl⟩ rfl rfl (Nat.le_of_ble_eq_true rfl) dX11_readsName_70 (fun z32 I33 hz32 hI33 v => ?_)
        obtain ⟨h34, v⟩ := v
        exact r_iret B hr hk (nar_z h34) ((bl01 h34)) hI33 v dX11_readsName_73
set_option maxHeartbeats 4000000 in
set_option maxRecDepth 100000 in
theorem c_M_readsName {l : Launch} {E : En} {A : Nat → Prop}  (I : Mm)  (hI : rgM I)  : CI l E A yX11_readsName cX11_readsName 2 .boolean 3 69 [.ref (eA E 236)] I (V_M_readsName  I) := by
  intro Q v
  refine mk_met (own := RX11) (lv0 := [(0, .ref (eA E 236))]) (by decide) rfl (Nat.le_of_ble_eq_true rfl) rfl (fun p e s m args below meth c0 B hr hk => ?_)
  unfold V_M_readsName at v
  refine r_aload_n B dX11_readsName_0 rfl rfl ?_
  refine r_cI B (st := []) (as := []) (T := TX11) (N := 25) (c_M_nextByte _ hI ) v o_236 rfl mw_M_nextByte wl_X11_286 ⟨Nat.le_of_ble_eq_true rfl, Nat.le_of_ble_eq_true rfl⟩ rfl rfl (Nat.le_of_ble_eq_true rfl) dX11_readsName_1 (fun z21 I22 hz21 hI22 v => ?_)
  refine r_i2l B dX11_readsName_4 hz21 ?_
  refine r_ldc2 B (97) dX11_readsName_5 wc_X11_289 (by decide) ?_
  refine r_ldc2 B (122) dX11_readsName_8 wc_X11_291 (by decide) ?_
  refine r_sI B (st := []) (as := [.long (l2 z21), .long (l2 97), .long (l2 122)]) (c_M_in z21 97 122 _ hI22 ((rg_64 hz21)) ((show r64 (97) by exact ⟨by decide, by decide⟩)) ((show r64 (122) by exact ⟨by decide, by decide⟩))) v mw_M_in wl_X11_55 ⟨Nat.le_of_ble_eq_true rfl, Nat.le_of_ble_eq_true rfl⟩ rfl rfl (Nat.le_of_ble_eq_true rfl) dX11_readsName_11 (fun z23 I24 hz23 hI24 v => ?_)
  refine r_if_ne B (tgt := 27) dX11_readsName_14 (by decide) hz23 (fun h => ?_) (fun h => ?_)
  · have v := v.1 h
    refine r_aload_n B dX11_readsName_27 rfl rfl ?_
    refine r_getI B (C := RX11) (T := TX11) (N := 25) o_236 17 rfl win_X11 (by decide) rfl wf_X11_277 dX11_readsName_28 (jj := 17) rfl ?_
    refine r_istore_n B dX11_readsName_31 rfl (by decide) (lv' := [(1, .int (i2 (I24 236 17))), (0, .ref (eA E 236))]) rfl ?_
    refine r_sub [1, 0] rfl ?_
    obtain ⟨f42, v⟩ := v
    refine r_sub [0, 1] rfl ?_
    refine wL_M_readsName_32 B hr hk ((hI24 _ _)) (fun I35 hI35 v => ?_) f42 I24 hI24 v
    · refine r_aload_n B dX11_readsName_87 rfl rfl ?_
      refine r_aload_n B dX11_readsName_88 rfl rfl ?_
      refine r_iload_n B dX11_readsName_89 rfl rfl ?_
      refine r_aload_n B dX11_readsName_90 rfl rfl ?_
      refine r_getI B (C := RX11) (T := TX11) (N := 25) o_236 17 rfl win_X11 (by decide) rfl wf_X11_277 dX11_readsName_91 (jj := 17) rfl ?_
      refine r_iload_n B dX11_readsName_94 rfl rfl ?_
      refine r_isub B dX11_readsName_95 ?_
      obtain ⟨h36, v⟩ := v
      refine r_cI B (st := [.ref (eA E 236)]) (as := [.int (i2 (I24 236 17)), .int (i2 (I35 236 17 - I24 236 17))]) (T := TX11) (N := 25) (c_M_nameAt (I24 236 17) (I35 236 17 - I24 236 17) _ hI35 ((hI24 _ _)) h36) v o_236 rfl mw_M_nameAt wl_X11_320 ⟨Nat.le_of_ble_eq_true rfl, Nat.le_of_ble_eq_true rfl⟩ rfl rfl (Nat.le_of_ble_eq_true rfl) dX11_readsName_96 (fun z37 I38 hz37 hI38 v => ?_)
      refine r_putI B (C := RX11) (T := TX11) (N := 25) o_236 21 rfl win_X11 tyX11 tyX11_ok nmX11 (by decide) rfl rfl rfl wf_X11_323 dX11_readsName_99 (jj := 21) rfl ?_
      have hI39 : rgM (wrM I38 236 21 z37) := rg_wr hI38 hz37
      refine r_aload_n B dX11_readsName_102 rfl rfl ?_
      refine r_getI B (C := RX11) (T := TX11) (N := 25) o_236 21 rfl win_X11 (by decide) rfl wf_X11_323 dX11_readsName_103 (jj := 21) rfl ?_
      refine r_if_ge B (tgt := 118) dX11_readsName_106 (by decide) ((hI39 _ _)) (fun h => ?_) (fun h => ?_)
      · have v := v.1 h
        refine r_iconst B dX11_readsName_118 ?_
        refine r_goto B (tgt := 123) dX11_readsName_119 (by decide) ?_
        exact r_iret B hr hk rfl ((rg_lit (by decide) (by decide))) hI39 v dX11_readsName_123
      · have v := v.2 h
        refine r_aload_n B dX11_readsName_109 rfl rfl ?_
        refine r_iconst B dX11_readsName_110 ?_
        refine r_iload_n B dX11_readsName_111 rfl rfl ?_
        refine r_cI B (st := []) (as := [.int (i2 3), .int (i2 (I24 236 17))]) (T := TX11) (N := 25) (c_M_fails 3 (I24 236 17) _ hI39 ((rg_lit (by decide) (by decide))) ((hI24 _ _))) v o_236 rfl mw_M_fails wl_X11_297 ⟨Nat.le_of_ble_eq_true rfl, Nat.le_of_ble_eq_true rfl⟩ rfl rfl (Nat.le_of_ble_eq_true rfl) dX11_readsName_112 (fun z40 I41 hz40 hI41 v => ?_)
        refine r_if_eq B (tgt := 122) dX11_readsName_115 (by decide) hz40 (fun h => ?_) (fun h => ?_)
        · have v := v.1 h
          refine r_iconst B dX11_readsName_122 ?_
          exact r_iret B hr hk rfl ((rg_lit (by decide) (by decide))) hI41 v dX11_readsName_123
        · have v := v.2 h
          refine r_iconst B dX11_readsName_118 ?_
          refine r_goto B (tgt := 123) dX11_readsName_119 (by decide) ?_
          exact r_iret B hr hk rfl ((rg_lit (by decide) (by decide))) hI41 v dX11_readsName_123
  · have v := v.2 h
    refine r_aload_n B dX11_readsName_17 rfl rfl ?_
    refine r_iconst B dX11_readsName_18 ?_
    refine r_aload_n B dX11_readsName_19 rfl rfl ?_
    refine r_getI B (C := RX11) (T := TX11) (N := 25) o_236 17 rfl win_X11 (by decide) rfl wf_X11_277 dX11_readsName_20 (jj := 17) rfl ?_
    refine r_cI B (st := []) (as := [.int (i2 1), .int (i2 (I24 236 17))]) (T := TX11) (N := 25) (c_M_fails 1 (I24 236 17) _ hI24 ((rg_lit (by decide) (by decide))) ((hI24 _ _))) v o_236 rfl mw_M_fails wl_X11_297 ⟨Nat.le_of_ble_eq_true rfl, Nat.le_of_ble_eq_true rfl⟩ rfl rfl (Nat.le_of_ble_eq_true rfl) dX11_readsName_23 (fun z43 I44 hz43 hI44 v => ?_)
    obtain ⟨h45, v⟩ := v
    exact r_iret B hr hk (nar_z h45) ((bl01 h45)) hI44 v dX11_readsName_26
set_option maxHeartbeats 4000000 in
set_option maxRecDepth 100000 in
theorem wL_M_bringsSome_44 {p : Program} {l : Launch} {e : Env} {s : State} {m : MethodId} {args : Array Value} {below : List Frame} {meth : Method} {c0 : Code} {E : En} {A : Nat → Prop} {x1 : Int} {x2 : Int} {x3 : Int} {x4 : Int} {x5 : Int} {Q : Int → Mm → Prop}  (B : Bd p (rmm 5 115) s m args c0 cX11_bringsSome 8 RX11 E A 0 0) (hr : meth.sig.returnType = some .boolean) (hk : meth.locks = false) (h1 : r32 x1) (h2 : r32 x2) (h3 : r32 x3) (h4 : r32 x4) (h5 : r32 x5)   : ∀ (n : Nat) (x6 : Int) (I : Mm), rgM I → r32 x6 → L_M_bringsSome_44 x1 x2 x3 x4 x5 Q n x6 I → WI p l e (rmm 5 115) s m args below meth c0 E A 8 0 0 (qI below E A args s Q) I 44 [(0, .ref (eA E 236)), (2, .int (i2 x2)), (3, .int (i2 x3)), (4, .int (i2 x4)), (5, .int (i2 x5)), (6, .int (i2 x6))] [] := by
  intro n
  induction n with
  | zero => intro x6 I _ _ v; exact absurd v id
  | succ n ih =>
    intro x6 I hI h6 v
    unfold L_M_bringsSome_44 at v
    refine r_iload B dX11_bringsSome_44 rfl ?_
    refine r_iload B dX11_bringsSome_46 rfl ?_
    refine r_icmp_ge B (tgt := 71) dX11_bringsSome_48 (by decide) h6 h5 (fun h => ?_) (fun h => ?_)
    · have v := v.1 h
      refine r_iconst B dX11_bringsSome_71 ?_
      exact r_iret B hr hk rfl ((rg_lit (by decide) (by decide))) hI v dX11_bringsSome_72
    · have v := v.2 h
      refine r_aload_n B dX11_bringsSome_51 rfl rfl ?_
      refine r_iload_n B dX11_bringsSome_52 rfl rfl ?_
      refine r_iload_n B dX11_bringsSome_53 rfl rfl ?_
      refine r_iload B dX11_bringsSome_54 rfl ?_
      refine r_iload B dX11_bringsSome_56 rfl ?_
      refine r_imul B dX11_bringsSome_58 ?_
      refine r_iadd B dX11_bringsSome_59 ?_
      obtain ⟨h27, v⟩ := v
      refine r_cI B (st := []) (as := [.int (i2 x2), .int (i2 (x3 + (x4 * x6)))]) (T := TX11) (N := 25) (c_M_comesNew x2 (x3 + (x4 * x6)) _ hI h2 h27) v o_236 rfl mw_M_comesNew wl_X11_104 ⟨Nat.le_of_ble_eq_true rfl, Nat.le_of_ble_eq_true rfl⟩ rfl rfl (Nat.le_of_ble_eq_true rfl) dX11_bringsSome_60 (fun z28 I29 hz28 hI29 v => ?_)
      refine r_istore B dX11_bringsSome_63 (by decide) (lv' := [(7, .int (i2 z28)), (0, .ref (eA E 236)), (2, .int (i2 x2)), (3, .int (i2 x3)), (4, .int (i2 x4)), (5, .int (i2 x5)), (6, .int (i2 x6))]) rfl ?_
      refine r_sub [1, 2, 3, 4, 5, 6, 0] rfl ?_
      refine r_iinc B (q := 5) dX11_bringsSome_65 (by decide) rfl (lv' := [(6, .int (i2 (x6 + 1))), (0, .ref (eA E 236)), (2, .int (i2 x2)), (3, .int (i2 x3)), (4, .int (i2 x4)), (5, .int (i2 x5)), (7, .int (i2 z28))]) rfl ?_
      refine r_sub [1, 2, 3, 4, 5, 0, 6] rfl ?_
      refine r_goto B (tgt := 44) dX11_bringsSome_68 (by decide) ?_
      obtain ⟨h30, v⟩ := v
      refine r_sub [0, 1, 2, 3, 4, 5] rfl ?_
      exact ih (x6 + 1) _ hI29 h30 v
set_option maxHeartbeats 4000000 in
set_option maxRecDepth 100000 in
theorem c_M_bringsSome {l : Launch} {E : En} {A : Nat → Prop} (x1 : Int) (x2 : Int) (x3 : Int) (x4 : Int) (x5 : Int) (I : Mm)  (hI : rgM I) (h1 : r32 x1) (h2 : r32 x2) (h3 : r32 x3) (h4 : r32 x4) (h5 : r32 x5) : CI l E A yX11_bringsSome cX11_bringsSome 8 .boolean 5 115 [.ref (eA E 236), .int (i2 x1), .int (i2 x2), .int (i2 x3), .int (i2 x4), .int (i2 x5)] I (V_M_bringsSome x1 x2 x3 x4 x5 I) := by
  intro Q v
  refine mk_met (own := RX11) (lv0 := [(0, .ref (eA E 236)), (1, .int (i2 x1)), (2, .int (i2 x2)), (3, .int (i2 x3)), (4, .int (i2 x4)), (5, .int (i2 x5))]) (by decide) rfl (Nat.le_of_ble_eq_true rfl) rfl (fun p e s m args below meth c0 B hr hk => ?_)
  unfold V_M_bringsSome at v
  refine r_aload_n B dX11_bringsSome_0 rfl rfl ?_
  refine r_getR B (C := RX11) (T := TX11) (N := 25) o_236 0 rfl win_X11 (by decide) rfl wf_X11_7 dX11_bringsSome_1 ?_
  refine r_iconst B dX11_bringsSome_4 ?_
  refine r_ald B a_237 (by decide) (by decide) dX11_bringsSome_5 ?_
  refine r_iload B dX11_bringsSome_6 rfl ?_
  refine r_iadd B dX11_bringsSome_8 ?_
  refine r_sipush B dX11_bringsSome_9 (by decide) ?_
  obtain ⟨h21, v⟩ := v
  refine r_icmp_gt B (tgt := 34) dX11_bringsSome_12 (by decide) h21 ((rg_lit (by decide) (by decide))) (fun h => ?_) (fun h => ?_)
  · have v := v.1 h
    refine r_aload_n B dX11_bringsSome_34 rfl rfl ?_
    refine r_iconst B dX11_bringsSome_35 ?_
    refine r_iload_n B dX11_bringsSome_36 rfl rfl ?_
    refine r_cI B (st := []) (as := [.int (i2 4), .int (i2 x1)]) (T := TX11) (N := 25) (c_M_fails 4 x1 _ hI ((rg_lit (by decide) (by decide))) h1) v o_236 rfl mw_M_fails wl_X11_297 ⟨Nat.le_of_ble_eq_true rfl, Nat.le_of_ble_eq_true rfl⟩ rfl rfl (Nat.le_of_ble_eq_true rfl) dX11_bringsSome_37 (fun z22 I23 hz22 hI23 v => ?_)
    obtain ⟨h24, v⟩ := v
    exact r_iret B hr hk (nar_z h24) ((bl01 h24)) hI23 v dX11_bringsSome_40
  · have v := v.2 h
    refine r_iload_n B dX11_bringsSome_15 rfl rfl ?_
    refine r_i2l B dX11_bringsSome_16 h3 ?_
    refine r_iload B dX11_bringsSome_17 rfl ?_
    refine r_i2l B dX11_bringsSome_19 h4 ?_
    refine r_iload B dX11_bringsSome_20 rfl ?_
    refine r_iconst B dX11_bringsSome_22 ?_
    refine r_isub B dX11_bringsSome_23 ?_
    obtain ⟨h25, v⟩ := v
    refine r_i2l B dX11_bringsSome_24 h25 ?_
    refine r_lmul B dX11_bringsSome_25 ?_
    refine r_ladd B dX11_bringsSome_26 ?_
    refine r_ldc2 B (999999999) dX11_bringsSome_27 wc_X11_115 (by decide) ?_
    obtain ⟨h26, v⟩ := v
    refine r_lcmp_le B (tgt := 41) dX11_bringsSome_30 dX11_bringsSome_31 (by decide) h26 ((show r64 (999999999) by exact ⟨by decide, by decide⟩)) (fun h => ?_) (fun h => ?_)
    · have v := v.1 h
      refine r_iconst B dX11_bringsSome_41 ?_
      refine r_istore B dX11_bringsSome_42 (by decide) (lv' := [(6, .int (i2 0)), (0, .ref (eA E 236)), (1, .int (i2 x1)), (2, .int (i2 x2)), (3, .int (i2 x3)), (4, .int (i2 x4)), (5, .int (i2 x5))]) rfl ?_
      refine r_sub [1, 2, 3, 4, 5, 6, 0] rfl ?_
      obtain ⟨f31, v⟩ := v
      refine r_sub [0, 2, 3, 4, 5, 6] rfl ?_
      exact wL_M_bringsSome_44 B hr hk h1 h2 h3 h4 h5 f31 0 I hI ((rg_lit (by decide) (by decide))) v
    · have v := v.2 h
      refine r_aload_n B dX11_bringsSome_34 rfl rfl ?_
      refine r_iconst B dX11_bringsSome_35 ?_
      refine r_iload_n B dX11_bringsSome_36 rfl rfl ?_
      refine r_cI B (st := []) (as := [.int (i2 4), .int (i2 x1)]) (T := TX11) (N := 25) (c_M_fails 4 x1 _ hI ((rg_lit (by decide) (by decide))) h1) v o_236 rfl mw_M_fails wl_X11_297 ⟨Nat.le_of_ble_eq_true rfl, Nat.le_of_ble_eq_true rfl⟩ rfl rfl (Nat.le_of_ble_eq_true rfl) dX11_bringsSome_37 (fun z32 I33 hz32 hI33 v => ?_)
      obtain ⟨h34, v⟩ := v
      exact r_iret B hr hk (nar_z h34) ((bl01 h34)) hI33 v dX11_bringsSome_40
set_option maxHeartbeats 4000000 in
set_option maxRecDepth 100000 in
theorem c_M_readsAt {l : Launch} {E : En} {A : Nat → Prop} (x1 : Int) (I : Mm)  (hI : rgM I) (h1 : r32 x1) : CI l E A yX11_readsAt cX11_readsAt 3 .boolean 6 142 [.ref (eA E 236), .int (i2 x1)] I (V_M_readsAt x1 I) := by
  intro Q v
  refine mk_met (own := RX11) (lv0 := [(0, .ref (eA E 236)), (1, .int (i2 x1))]) (by decide) rfl (Nat.le_of_ble_eq_true rfl) rfl (fun p e s m args below meth c0 B hr hk => ?_)
  unfold V_M_readsAt at v
  refine r_aload_n B dX11_readsAt_0 rfl rfl ?_
  refine r_iconst B dX11_readsAt_1 ?_
  refine r_ldc B (999999999) dX11_readsAt_2 wc_X11_103 (by decide) ?_
  refine r_cI B (st := []) (as := [.int (i2 0), .int (i2 999999999)]) (T := TX11) (N := 25) (c_M_readsNumber 0 999999999 _ hI ((rg_lit (by decide) (by decide))) ((rg_lit (by decide) (by decide)))) v o_236 rfl mw_M_readsNumber wl_X11_326 ⟨Nat.le_of_ble_eq_true rfl, Nat.le_of_ble_eq_true rfl⟩ rfl rfl (Nat.le_of_ble_eq_true rfl) dX11_readsAt_4 (fun z21 I22 hz21 hI22 v => ?_)
  refine r_if_ne B (tgt := 12) dX11_readsAt_7 (by decide) hz21 (fun h => ?_) (fun h => ?_)
  · have v := v.1 h
    refine r_aload_n B dX11_readsAt_12 rfl rfl ?_
    refine r_getI B (C := RX11) (T := TX11) (N := 25) o_236 19 rfl win_X11 (by decide) rfl wf_X11_314 dX11_readsAt_13 (jj := 19) rfl ?_
    refine r_istore_n B dX11_readsAt_16 rfl (by decide) (lv' := [(2, .int (i2 (I22 236 19))), (0, .ref (eA E 236)), (1, .int (i2 x1))]) rfl ?_
    refine r_sub [1, 2, 0] rfl ?_
    refine r_aload_n B dX11_readsAt_17 rfl rfl ?_
    refine r_cI B (st := []) (as := []) (T := TX11) (N := 25) (c_M_readsName _ hI22 ) v o_236 rfl mw_M_readsName wl_X11_330 ⟨Nat.le_of_ble_eq_true rfl, Nat.le_of_ble_eq_true rfl⟩ rfl rfl (Nat.le_of_ble_eq_true rfl) dX11_readsAt_18 (fun z23 I24 hz23 hI24 v => ?_)
    refine r_if_eq B (tgt := 43) dX11_readsAt_21 (by decide) hz23 (fun h => ?_) (fun h => ?_)
    · have v := v.1 h
      refine r_iconst B dX11_readsAt_43 ?_
      exact r_iret B hr hk rfl ((rg_lit (by decide) (by decide))) hI24 v dX11_readsAt_44
    · have v := v.2 h
      refine r_aload_n B dX11_readsAt_24 rfl rfl ?_
      refine r_iload_n B dX11_readsAt_25 rfl rfl ?_
      refine r_aload_n B dX11_readsAt_26 rfl rfl ?_
      refine r_getI B (C := RX11) (T := TX11) (N := 25) o_236 21 rfl win_X11 (by decide) rfl wf_X11_323 dX11_readsAt_27 (jj := 21) rfl ?_
      refine r_iload_n B dX11_readsAt_30 rfl rfl ?_
      refine r_iconst B dX11_readsAt_31 ?_
      refine r_iconst B dX11_readsAt_32 ?_
      refine r_cI B (st := []) (as := [.int (i2 x1), .int (i2 (I24 236 21)), .int (i2 (I22 236 19)), .int (i2 0), .int (i2 1)]) (T := TX11) (N := 25) (c_M_bringsSome x1 (I24 236 21) (I22 236 19) 0 1 _ hI24 h1 ((hI24 _ _)) ((hI22 _ _)) ((rg_lit (by decide) (by decide))) ((rg_lit (by decide) (by decide)))) v o_236 rfl mw_M_bringsSome wl_X11_334 ⟨Nat.le_of_ble_eq_true rfl, Nat.le_of_ble_eq_true rfl⟩ rfl rfl (Nat.le_of_ble_eq_true rfl) dX11_readsAt_33 (fun z25 I26 hz25 hI26 v => ?_)
      refine r_if_eq B (tgt := 43) dX11_readsAt_36 (by decide) hz25 (fun h => ?_) (fun h => ?_)
      · have v := v.1 h
        refine r_iconst B dX11_readsAt_43 ?_
        exact r_iret B hr hk rfl ((rg_lit (by decide) (by decide))) hI26 v dX11_readsAt_44
      · have v := v.2 h
        refine r_iconst B dX11_readsAt_39 ?_
        refine r_goto B (tgt := 44) dX11_readsAt_40 (by decide) ?_
        exact r_iret B hr hk rfl ((rg_lit (by decide) (by decide))) hI26 v dX11_readsAt_44
  · have v := v.2 h
    refine r_iconst B dX11_readsAt_10 ?_
    exact r_iret B hr hk rfl ((rg_lit (by decide) (by decide))) hI22 v dX11_readsAt_11
set_option maxHeartbeats 4000000 in
set_option maxRecDepth 100000 in
theorem c_M_mustWord {l : Launch} {E : En} {A : Nat → Prop} (w1 : Nat) (I : Mm) (hw1 : w1 < slen.length) (hI : rgM I)  : CI l E A yX11_mustWord cX11_mustWord 2 .boolean 5 144 [.ref (eA E 236), .ref (eS E w1)] I (V_M_mustWord w1 I) := by
  intro Q v
  refine mk_met (own := RX11) (lv0 := [(0, .ref (eA E 236)), (1, .ref (eS E w1))]) (by decide) rfl (Nat.le_of_ble_eq_true rfl) rfl (fun p e s m args below meth c0 B hr hk => ?_)
  unfold V_M_mustWord at v
  refine r_aload_n B dX11_mustWord_0 rfl rfl ?_
  refine r_aload_n B dX11_mustWord_1 rfl rfl ?_
  refine r_cI B (st := []) (as := [.ref (eS E w1)]) (T := TX11) (N := 25) (c_M_takesWord w1 _ hw1 hI ) v o_236 rfl mw_M_takesWord wl_X11_293 ⟨Nat.le_of_ble_eq_true rfl, Nat.le_of_ble_eq_true rfl⟩ rfl rfl (Nat.le_of_ble_eq_true rfl) dX11_mustWord_2 (fun z21 I22 hz21 hI22 v => ?_)
  refine r_if_ne B (tgt := 20) dX11_mustWord_5 (by decide) hz21 (fun h => ?_) (fun h => ?_)
  · have v := v.1 h
    refine r_iconst B dX11_mustWord_20 ?_
    refine r_goto B (tgt := 25) dX11_mustWord_21 (by decide) ?_
    exact r_iret B hr hk rfl ((rg_lit (by decide) (by decide))) hI22 v dX11_mustWord_25
  · have v := v.2 h
    refine r_aload_n B dX11_mustWord_8 rfl rfl ?_
    refine r_iconst B dX11_mustWord_9 ?_
    refine r_aload_n B dX11_mustWord_10 rfl rfl ?_
    refine r_getI B (C := RX11) (T := TX11) (N := 25) o_236 17 rfl win_X11 (by decide) rfl wf_X11_277 dX11_mustWord_11 (jj := 17) rfl ?_
    refine r_cI B (st := []) (as := [.int (i2 1), .int (i2 (I22 236 17))]) (T := TX11) (N := 25) (c_M_fails 1 (I22 236 17) _ hI22 ((rg_lit (by decide) (by decide))) ((hI22 _ _))) v o_236 rfl mw_M_fails wl_X11_297 ⟨Nat.le_of_ble_eq_true rfl, Nat.le_of_ble_eq_true rfl⟩ rfl rfl (Nat.le_of_ble_eq_true rfl) dX11_mustWord_14 (fun z23 I24 hz23 hI24 v => ?_)
    refine r_if_eq B (tgt := 24) dX11_mustWord_17 (by decide) hz23 (fun h => ?_) (fun h => ?_)
    · have v := v.1 h
      refine r_iconst B dX11_mustWord_24 ?_
      exact r_iret B hr hk rfl ((rg_lit (by decide) (by decide))) hI24 v dX11_mustWord_25
    · have v := v.2 h
      refine r_iconst B dX11_mustWord_20 ?_
      refine r_goto B (tgt := 25) dX11_mustWord_21 (by decide) ?_
      exact r_iret B hr hk rfl ((rg_lit (by decide) (by decide))) hI24 v dX11_mustWord_25
set_option maxHeartbeats 4000000 in
set_option maxRecDepth 100000 in
theorem c_M_readsEvery {l : Launch} {E : En} {A : Nat → Prop} (x1 : Int) (I : Mm)  (hI : rgM I) (h1 : r32 x1) : CI l E A yX11_readsEvery cX11_readsEvery 5 .boolean 6 165 [.ref (eA E 236), .int (i2 x1)] I (V_M_readsEvery x1 I) := by
  intro Q v
  refine mk_met (own := RX11) (lv0 := [(0, .ref (eA E 236)), (1, .int (i2 x1))]) (by decide) rfl (Nat.le_of_ble_eq_true rfl) rfl (fun p e s m args below meth c0 B hr hk => ?_)
  unfold V_M_readsEvery at v
  refine r_aload_n B dX11_readsEvery_0 rfl rfl ?_
  refine r_iconst B dX11_readsEvery_1 ?_
  refine r_ldcw B (999999) dX11_readsEvery_2 wc_X11_338 (by decide) ?_
  refine r_cI B (st := []) (as := [.int (i2 1), .int (i2 999999)]) (T := TX11) (N := 25) (c_M_readsNumber 1 999999 _ hI ((rg_lit (by decide) (by decide))) ((rg_lit (by decide) (by decide)))) v o_236 rfl mw_M_readsNumber wl_X11_326 ⟨Nat.le_of_ble_eq_true rfl, Nat.le_of_ble_eq_true rfl⟩ rfl rfl (Nat.le_of_ble_eq_true rfl) dX11_readsEvery_5 (fun z21 I22 hz21 hI22 v => ?_)
  refine r_if_ne B (tgt := 13) dX11_readsEvery_8 (by decide) hz21 (fun h => ?_) (fun h => ?_)
  · have v := v.1 h
    refine r_aload_n B dX11_readsEvery_13 rfl rfl ?_
    refine r_getI B (C := RX11) (T := TX11) (N := 25) o_236 19 rfl win_X11 (by decide) rfl wf_X11_314 dX11_readsEvery_14 (jj := 19) rfl ?_
    refine r_istore_n B dX11_readsEvery_17 rfl (by decide) (lv' := [(2, .int (i2 (I22 236 19))), (0, .ref (eA E 236)), (1, .int (i2 x1))]) rfl ?_
    refine r_sub [1, 2, 0] rfl ?_
    refine r_aload_n B dX11_readsEvery_18 rfl rfl ?_
    refine r_ldcSW B (i := 4) (tx := "from") (by decide) dX11_readsEvery_19 ?_
    refine r_cI B (st := []) (as := [.ref (eS E 4)]) (T := TX11) (N := 25) (c_M_mustWord 4 _ ((by decide)) hI22 ) v o_236 rfl mw_M_mustWord wl_X11_341 ⟨Nat.le_of_ble_eq_true rfl, Nat.le_of_ble_eq_true rfl⟩ rfl rfl (Nat.le_of_ble_eq_true rfl) dX11_readsEvery_22 (fun z23 I24 hz23 hI24 v => ?_)
    refine r_if_eq B (tgt := 38) dX11_readsEvery_25 (by decide) hz23 (fun h => ?_) (fun h => ?_)
    · have v := v.1 h
      refine r_iconst B dX11_readsEvery_38 ?_
      exact r_iret B hr hk rfl ((rg_lit (by decide) (by decide))) hI24 v dX11_readsEvery_39
    · have v := v.2 h
      refine r_aload_n B dX11_readsEvery_28 rfl rfl ?_
      refine r_iconst B dX11_readsEvery_29 ?_
      refine r_ldc B (999999999) dX11_readsEvery_30 wc_X11_103 (by decide) ?_
      refine r_cI B (st := []) (as := [.int (i2 0), .int (i2 999999999)]) (T := TX11) (N := 25) (c_M_readsNumber 0 999999999 _ hI24 ((rg_lit (by decide) (by decide))) ((rg_lit (by decide) (by decide)))) v o_236 rfl mw_M_readsNumber wl_X11_326 ⟨Nat.le_of_ble_eq_true rfl, Nat.le_of_ble_eq_true rfl⟩ rfl rfl (Nat.le_of_ble_eq_true rfl) dX11_readsEvery_32 (fun z25 I26 hz25 hI26 v => ?_)
      refine r_if_ne B (tgt := 40) dX11_readsEvery_35 (by decide) hz25 (fun h => ?_) (fun h => ?_)
      · have v := v.1 h
        refine r_aload_n B dX11_readsEvery_40 rfl rfl ?_
        refine r_getI B (C := RX11) (T := TX11) (N := 25) o_236 19 rfl win_X11 (by decide) rfl wf_X11_314 dX11_readsEvery_41 (jj := 19) rfl ?_
        refine r_istore_n B dX11_readsEvery_44 rfl (by decide) (lv' := [(3, .int (i2 (I26 236 19))), (0, .ref (eA E 236)), (1, .int (i2 x1)), (2, .int (i2 (I22 236 19)))]) rfl ?_
        refine r_sub [1, 2, 3, 0] rfl ?_
        refine r_aload_n B dX11_readsEvery_45 rfl rfl ?_
        refine r_ldcSW B (i := 5) (tx := "times") (by decide) dX11_readsEvery_46 ?_
        refine r_cI B (st := []) (as := [.ref (eS E 5)]) (T := TX11) (N := 25) (c_M_mustWord 5 _ ((by decide)) hI26 ) v o_236 rfl mw_M_mustWord wl_X11_341 ⟨Nat.le_of_ble_eq_true rfl, Nat.le_of_ble_eq_true rfl⟩ rfl rfl (Nat.le_of_ble_eq_true rfl) dX11_readsEvery_49 (fun z27 I28 hz27 hI28 v => ?_)
        refine r_if_eq B (tgt := 65) dX11_readsEvery_52 (by decide) hz27 (fun h => ?_) (fun h => ?_)
        · have v := v.1 h
          refine r_iconst B dX11_readsEvery_65 ?_
          exact r_iret B hr hk rfl ((rg_lit (by decide) (by decide))) hI28 v dX11_readsEvery_66
        · have v := v.2 h
          refine r_aload_n B dX11_readsEvery_55 rfl rfl ?_
          refine r_iconst B dX11_readsEvery_56 ?_
          refine r_bipush B dX11_readsEvery_57 (by decide) ?_
          refine r_cI B (st := []) (as := [.int (i2 1), .int (i2 50)]) (T := TX11) (N := 25) (c_M_readsNumber 1 50 _ hI28 ((rg_lit (by decide) (by decide))) ((rg_lit (by decide) (by decide)))) v o_236 rfl mw_M_readsNumber wl_X11_326 ⟨Nat.le_of_ble_eq_true rfl, Nat.le_of_ble_eq_true rfl⟩ rfl rfl (Nat.le_of_ble_eq_true rfl) dX11_readsEvery_59 (fun z29 I30 hz29 hI30 v => ?_)
          refine r_if_ne B (tgt := 67) dX11_readsEvery_62 (by decide) hz29 (fun h => ?_) (fun h => ?_)
          · have v := v.1 h
            refine r_aload_n B dX11_readsEvery_67 rfl rfl ?_
            refine r_getI B (C := RX11) (T := TX11) (N := 25) o_236 19 rfl win_X11 (by decide) rfl wf_X11_314 dX11_readsEvery_68 (jj := 19) rfl ?_
            refine r_istore B dX11_readsEvery_71 (by decide) (lv' := [(4, .int (i2 (I30 236 19))), (0, .ref (eA E 236)), (1, .int (i2 x1)), (2, .int (i2 (I22 236 19))), (3, .int (i2 (I26 236 19)))]) rfl ?_
            refine r_sub [1, 2, 3, 4, 0] rfl ?_
            refine r_aload_n B dX11_readsEvery_73 rfl rfl ?_
            refine r_cI B (st := []) (as := []) (T := TX11) (N := 25) (c_M_readsName _ hI30 ) v o_236 rfl mw_M_readsName wl_X11_330 ⟨Nat.le_of_ble_eq_true rfl, Nat.le_of_ble_eq_true rfl⟩ rfl rfl (Nat.le_of_ble_eq_true rfl) dX11_readsEvery_74 (fun z31 I32 hz31 hI32 v => ?_)
            refine r_if_eq B (tgt := 100) dX11_readsEvery_77 (by decide) hz31 (fun h => ?_) (fun h => ?_)
            · have v := v.1 h
              refine r_iconst B dX11_readsEvery_100 ?_
              exact r_iret B hr hk rfl ((rg_lit (by decide) (by decide))) hI32 v dX11_readsEvery_101
            · have v := v.2 h
              refine r_aload_n B dX11_readsEvery_80 rfl rfl ?_
              refine r_iload_n B dX11_readsEvery_81 rfl rfl ?_
              refine r_aload_n B dX11_readsEvery_82 rfl rfl ?_
              refine r_getI B (C := RX11) (T := TX11) (N := 25) o_236 21 rfl win_X11 (by decide) rfl wf_X11_323 dX11_readsEvery_83 (jj := 21) rfl ?_
              refine r_iload_n B dX11_readsEvery_86 rfl rfl ?_
              refine r_iload_n B dX11_readsEvery_87 rfl rfl ?_
              refine r_iload B dX11_readsEvery_88 rfl ?_
              refine r_cI B (st := []) (as := [.int (i2 x1), .int (i2 (I32 236 21)), .int (i2 (I26 236 19)), .int (i2 (I22 236 19)), .int (i2 (I30 236 19))]) (T := TX11) (N := 25) (c_M_bringsSome x1 (I32 236 21) (I26 236 19) (I22 236 19) (I30 236 19) _ hI32 h1 ((hI32 _ _)) ((hI26 _ _)) ((hI22 _ _)) ((hI30 _ _))) v o_236 rfl mw_M_bringsSome wl_X11_334 ⟨Nat.le_of_ble_eq_true rfl, Nat.le_of_ble_eq_true rfl⟩ rfl rfl (Nat.le_of_ble_eq_true rfl) dX11_readsEvery_90 (fun z33 I34 hz33 hI34 v => ?_)
              refine r_if_eq B (tgt := 100) dX11_readsEvery_93 (by decide) hz33 (fun h => ?_) (fun h => ?_)
              · have v := v.1 h
                refine r_iconst B dX11_readsEvery_100 ?_
                exact r_iret B hr hk rfl ((rg_lit (by decide) (by decide))) hI34 v dX11_readsEvery_101
              · have v := v.2 h
                refine r_iconst B dX11_readsEvery_96 ?_
                refine r_goto B (tgt := 101) dX11_readsEvery_97 (by decide) ?_
                exact r_iret B hr hk rfl ((rg_lit (by decide) (by decide))) hI34 v dX11_readsEvery_101
          · have v := v.2 h
            refine r_iconst B dX11_readsEvery_65 ?_
            exact r_iret B hr hk rfl ((rg_lit (by decide) (by decide))) hI30 v dX11_readsEvery_66
      · have v := v.2 h
        refine r_iconst B dX11_readsEvery_38 ?_
        exact r_iret B hr hk rfl ((rg_lit (by decide) (by decide))) hI26 v dX11_readsEvery_39
  · have v := v.2 h
    refine r_iconst B dX11_readsEvery_11 ?_
    exact r_iret B hr hk rfl ((rg_lit (by decide) (by decide))) hI22 v dX11_readsEvery_12
set_option maxHeartbeats 4000000 in
set_option maxRecDepth 100000 in
theorem c_M_readsAfter {l : Launch} {E : En} {A : Nat → Prop} (x1 : Int) (I : Mm)  (hI : rgM I) (h1 : r32 x1) : CI l E A yX11_readsAfter cX11_readsAfter 4 .boolean 6 165 [.ref (eA E 236), .int (i2 x1)] I (V_M_readsAfter x1 I) := by
  intro Q v
  refine mk_met (own := RX11) (lv0 := [(0, .ref (eA E 236)), (1, .int (i2 x1))]) (by decide) rfl (Nat.le_of_ble_eq_true rfl) rfl (fun p e s m args below meth c0 B hr hk => ?_)
  unfold V_M_readsAfter at v
  refine r_aload_n B dX11_readsAfter_0 rfl rfl ?_
  refine r_cI B (st := []) (as := []) (T := TX11) (N := 25) (c_M_readsName _ hI ) v o_236 rfl mw_M_readsName wl_X11_330 ⟨Nat.le_of_ble_eq_true rfl, Nat.le_of_ble_eq_true rfl⟩ rfl rfl (Nat.le_of_ble_eq_true rfl) dX11_readsAfter_1 (fun z21 I22 hz21 hI22 v => ?_)
  refine r_if_ne B (tgt := 9) dX11_readsAfter_4 (by decide) hz21 (fun h => ?_) (fun h => ?_)
  · have v := v.1 h
    refine r_aload_n B dX11_readsAfter_9 rfl rfl ?_
    refine r_getI B (C := RX11) (T := TX11) (N := 25) o_236 21 rfl win_X11 (by decide) rfl wf_X11_323 dX11_readsAfter_10 (jj := 21) rfl ?_
    refine r_istore_n B dX11_readsAfter_13 rfl (by decide) (lv' := [(2, .int (i2 (I22 236 21))), (0, .ref (eA E 236)), (1, .int (i2 x1))]) rfl ?_
    refine r_sub [1, 2, 0] rfl ?_
    refine r_aload_n B dX11_readsAfter_14 rfl rfl ?_
    refine r_ldcSW B (i := 7) (tx := "in") (by decide) dX11_readsAfter_15 ?_
    refine r_cI B (st := []) (as := [.ref (eS E 7)]) (T := TX11) (N := 25) (c_M_mustWord 7 _ ((by decide)) hI22 ) v o_236 rfl mw_M_mustWord wl_X11_341 ⟨Nat.le_of_ble_eq_true rfl, Nat.le_of_ble_eq_true rfl⟩ rfl rfl (Nat.le_of_ble_eq_true rfl) dX11_readsAfter_18 (fun z23 I24 hz23 hI24 v => ?_)
    refine r_if_eq B (tgt := 35) dX11_readsAfter_21 (by decide) hz23 (fun h => ?_) (fun h => ?_)
    · have v := v.1 h
      refine r_iconst B dX11_readsAfter_35 ?_
      exact r_iret B hr hk rfl ((rg_lit (by decide) (by decide))) hI24 v dX11_readsAfter_36
    · have v := v.2 h
      refine r_aload_n B dX11_readsAfter_24 rfl rfl ?_
      refine r_iconst B dX11_readsAfter_25 ?_
      refine r_ldcw B (999999) dX11_readsAfter_26 wc_X11_338 (by decide) ?_
      refine r_cI B (st := []) (as := [.int (i2 1), .int (i2 999999)]) (T := TX11) (N := 25) (c_M_readsNumber 1 999999 _ hI24 ((rg_lit (by decide) (by decide))) ((rg_lit (by decide) (by decide)))) v o_236 rfl mw_M_readsNumber wl_X11_326 ⟨Nat.le_of_ble_eq_true rfl, Nat.le_of_ble_eq_true rfl⟩ rfl rfl (Nat.le_of_ble_eq_true rfl) dX11_readsAfter_29 (fun z25 I26 hz25 hI26 v => ?_)
      refine r_if_ne B (tgt := 37) dX11_readsAfter_32 (by decide) hz25 (fun h => ?_) (fun h => ?_)
      · have v := v.1 h
        refine r_aload_n B dX11_readsAfter_37 rfl rfl ?_
        refine r_getI B (C := RX11) (T := TX11) (N := 25) o_236 19 rfl win_X11 (by decide) rfl wf_X11_314 dX11_readsAfter_38 (jj := 19) rfl ?_
        refine r_istore_n B dX11_readsAfter_41 rfl (by decide) (lv' := [(3, .int (i2 (I26 236 19))), (0, .ref (eA E 236)), (1, .int (i2 x1)), (2, .int (i2 (I22 236 21)))]) rfl ?_
        refine r_sub [1, 2, 3, 0] rfl ?_
        refine r_aload_n B dX11_readsAfter_42 rfl rfl ?_
        refine r_cI B (st := []) (as := []) (T := TX11) (N := 25) (c_M_readsName _ hI26 ) v o_236 rfl mw_M_readsName wl_X11_330 ⟨Nat.le_of_ble_eq_true rfl, Nat.le_of_ble_eq_true rfl⟩ rfl rfl (Nat.le_of_ble_eq_true rfl) dX11_readsAfter_43 (fun z27 I28 hz27 hI28 v => ?_)
        refine r_if_ne B (tgt := 51) dX11_readsAfter_46 (by decide) hz27 (fun h => ?_) (fun h => ?_)
        · have v := v.1 h
          refine r_aload_n B dX11_readsAfter_51 rfl rfl ?_
          refine r_getR B (C := RX11) (T := TX11) (N := 25) o_236 0 rfl win_X11 (by decide) rfl wf_X11_7 dX11_readsAfter_52 ?_
          refine r_iconst B dX11_readsAfter_55 ?_
          refine r_ald B a_237 (by decide) (by decide) dX11_readsAfter_56 ?_
          refine r_bipush B dX11_readsAfter_57 (by decide) ?_
          refine r_icmp_ne B (tgt := 69) dX11_readsAfter_59 (by decide) ((hI28 _ _)) ((rg_lit (by decide) (by decide))) (fun h => ?_) (fun h => ?_)
          · have v := v.1 h
            refine r_aload_n B dX11_readsAfter_69 rfl rfl ?_
            refine r_iload_n B dX11_readsAfter_70 rfl rfl ?_
            refine r_aload_n B dX11_readsAfter_71 rfl rfl ?_
            refine r_getI B (C := RX11) (T := TX11) (N := 25) o_236 21 rfl win_X11 (by decide) rfl wf_X11_323 dX11_readsAfter_72 (jj := 21) rfl ?_
            refine r_iload_n B dX11_readsAfter_75 rfl rfl ?_
            refine r_cV B (st := []) (as := [.int (i2 (I22 236 21)), .int (i2 (I28 236 21)), .int (i2 (I26 236 19))]) (T := TX11) (N := 25) (c_M_adds (I22 236 21) (I28 236 21) (I26 236 19) _ hI28 ((hI22 _ _)) ((hI28 _ _)) ((hI26 _ _))) v o_236 rfl mw_M_adds wl_X11_143 ⟨Nat.le_of_ble_eq_true rfl, Nat.le_of_ble_eq_true rfl⟩ rfl rfl (Nat.le_of_ble_eq_true rfl) dX11_readsAfter_76 (fun I29 hI29 v => ?_)
            refine r_iconst B dX11_readsAfter_79 ?_
            exact r_iret B hr hk rfl ((rg_lit (by decide) (by decide))) hI29 v dX11_readsAfter_80
          · have v := v.2 h
            refine r_aload_n B dX11_readsAfter_62 rfl rfl ?_
            refine r_iconst B dX11_readsAfter_63 ?_
            refine r_iload_n B dX11_readsAfter_64 rfl rfl ?_
            refine r_cI B (st := []) (as := [.int (i2 4), .int (i2 x1)]) (T := TX11) (N := 25) (c_M_fails 4 x1 _ hI28 ((rg_lit (by decide) (by decide))) h1) v o_236 rfl mw_M_fails wl_X11_297 ⟨Nat.le_of_ble_eq_true rfl, Nat.le_of_ble_eq_true rfl⟩ rfl rfl (Nat.le_of_ble_eq_true rfl) dX11_readsAfter_65 (fun z30 I31 hz30 hI31 v => ?_)
            obtain ⟨h32, v⟩ := v
            exact r_iret B hr hk (nar_z h32) ((bl01 h32)) hI31 v dX11_readsAfter_68
        · have v := v.2 h
          refine r_iconst B dX11_readsAfter_49 ?_
          exact r_iret B hr hk rfl ((rg_lit (by decide) (by decide))) hI28 v dX11_readsAfter_50
      · have v := v.2 h
        refine r_iconst B dX11_readsAfter_35 ?_
        exact r_iret B hr hk rfl ((rg_lit (by decide) (by decide))) hI26 v dX11_readsAfter_36
  · have v := v.2 h
    refine r_iconst B dX11_readsAfter_7 ?_
    exact r_iret B hr hk rfl ((rg_lit (by decide) (by decide))) hI22 v dX11_readsAfter_8
set_option maxHeartbeats 4000000 in
set_option maxRecDepth 100000 in
theorem c_M_readsStatement {l : Launch} {E : En} {A : Nat → Prop}  (I : Mm)  (hI : rgM I)  : CI l E A yX11_readsStatement cX11_readsStatement 3 .boolean 7 189 [.ref (eA E 236)] I (V_M_readsStatement  I) := by
  intro Q v
  refine mk_met (own := RX11) (lv0 := [(0, .ref (eA E 236))]) (by decide) rfl (Nat.le_of_ble_eq_true rfl) rfl (fun p e s m args below meth c0 B hr hk => ?_)
  unfold V_M_readsStatement at v
  refine r_aload_n B dX11_readsStatement_0 rfl rfl ?_
  refine r_cI B (st := []) (as := []) (T := TX11) (N := 25) (c_M_nextByte _ hI ) v o_236 rfl mw_M_nextByte wl_X11_286 ⟨Nat.le_of_ble_eq_true rfl, Nat.le_of_ble_eq_true rfl⟩ rfl rfl (Nat.le_of_ble_eq_true rfl) dX11_readsStatement_1 (fun z21 I22 hz21 hI22 v => ?_)
  refine r_istore_n B dX11_readsStatement_4 rfl (by decide) (lv' := [(1, .int (i2 z21)), (0, .ref (eA E 236))]) rfl ?_
  refine r_sub [1, 0] rfl ?_
  refine r_aload_n B dX11_readsStatement_5 rfl rfl ?_
  refine r_getI B (C := RX11) (T := TX11) (N := 25) o_236 17 rfl win_X11 (by decide) rfl wf_X11_277 dX11_readsStatement_6 (jj := 17) rfl ?_
  refine r_istore_n B dX11_readsStatement_9 rfl (by decide) (lv' := [(2, .int (i2 (I22 236 17))), (0, .ref (eA E 236)), (1, .int (i2 z21))]) rfl ?_
  refine r_sub [1, 2, 0] rfl ?_
  refine r_aload_n B dX11_readsStatement_10 rfl rfl ?_
  refine r_ldcSW B (i := 0) (tx := "rows") (by decide) dX11_readsStatement_11 ?_
  refine r_cI B (st := []) (as := [.ref (eS E 0)]) (T := TX11) (N := 25) (c_M_takesWord 0 _ ((by decide)) hI22 ) v o_236 rfl mw_M_takesWord wl_X11_293 ⟨Nat.le_of_ble_eq_true rfl, Nat.le_of_ble_eq_true rfl⟩ rfl rfl (Nat.le_of_ble_eq_true rfl) dX11_readsStatement_14 (fun z23 I24 hz23 hI24 v => ?_)
  refine r_if_eq B (tgt := 25) dX11_readsStatement_17 (by decide) hz23 (fun h => ?_) (fun h => ?_)
  · have v := v.1 h
    refine r_aload_n B dX11_readsStatement_25 rfl rfl ?_
    refine r_ldcSW B (i := 1) (tx := "wide") (by decide) dX11_readsStatement_26 ?_
    refine r_cI B (st := []) (as := [.ref (eS E 1)]) (T := TX11) (N := 25) (c_M_takesWord 1 _ ((by decide)) hI24 ) v o_236 rfl mw_M_takesWord wl_X11_293 ⟨Nat.le_of_ble_eq_true rfl, Nat.le_of_ble_eq_true rfl⟩ rfl rfl (Nat.le_of_ble_eq_true rfl) dX11_readsStatement_29 (fun z25 I26 hz25 hI26 v => ?_)
    refine r_if_eq B (tgt := 40) dX11_readsStatement_32 (by decide) hz25 (fun h => ?_) (fun h => ?_)
    · have v := v.1 h
      refine r_aload_n B dX11_readsStatement_40 rfl rfl ?_
      refine r_ldcSW B (i := 2) (tx := "at") (by decide) dX11_readsStatement_41 ?_
      refine r_cI B (st := []) (as := [.ref (eS E 2)]) (T := TX11) (N := 25) (c_M_takesWord 2 _ ((by decide)) hI26 ) v o_236 rfl mw_M_takesWord wl_X11_293 ⟨Nat.le_of_ble_eq_true rfl, Nat.le_of_ble_eq_true rfl⟩ rfl rfl (Nat.le_of_ble_eq_true rfl) dX11_readsStatement_44 (fun z27 I28 hz27 hI28 v => ?_)
      refine r_if_eq B (tgt := 56) dX11_readsStatement_47 (by decide) hz27 (fun h => ?_) (fun h => ?_)
      · have v := v.1 h
        refine r_aload_n B dX11_readsStatement_56 rfl rfl ?_
        refine r_ldcSW B (i := 3) (tx := "every") (by decide) dX11_readsStatement_57 ?_
        refine r_cI B (st := []) (as := [.ref (eS E 3)]) (T := TX11) (N := 25) (c_M_takesWord 3 _ ((by decide)) hI28 ) v o_236 rfl mw_M_takesWord wl_X11_293 ⟨Nat.le_of_ble_eq_true rfl, Nat.le_of_ble_eq_true rfl⟩ rfl rfl (Nat.le_of_ble_eq_true rfl) dX11_readsStatement_60 (fun z29 I30 hz29 hI30 v => ?_)
        refine r_if_eq B (tgt := 72) dX11_readsStatement_63 (by decide) hz29 (fun h => ?_) (fun h => ?_)
        · have v := v.1 h
          refine r_aload_n B dX11_readsStatement_72 rfl rfl ?_
          refine r_ldcSW B (i := 6) (tx := "after") (by decide) dX11_readsStatement_73 ?_
          refine r_cI B (st := []) (as := [.ref (eS E 6)]) (T := TX11) (N := 25) (c_M_takesWord 6 _ ((by decide)) hI30 ) v o_236 rfl mw_M_takesWord wl_X11_293 ⟨Nat.le_of_ble_eq_true rfl, Nat.le_of_ble_eq_true rfl⟩ rfl rfl (Nat.le_of_ble_eq_true rfl) dX11_readsStatement_76 (fun z31 I32 hz31 hI32 v => ?_)
          refine r_if_eq B (tgt := 90) dX11_readsStatement_79 (by decide) hz31 (fun h => ?_) (fun h => ?_)
          · have v := v.1 h
            refine r_aload_n B dX11_readsStatement_90 rfl rfl ?_
            refine r_iconst B dX11_readsStatement_91 ?_
            refine r_iload_n B dX11_readsStatement_92 rfl rfl ?_
            refine r_cI B (st := []) (as := [.int (i2 1), .int (i2 (I22 236 17))]) (T := TX11) (N := 25) (c_M_fails 1 (I22 236 17) _ hI32 ((rg_lit (by decide) (by decide))) ((hI22 _ _))) v o_236 rfl mw_M_fails wl_X11_297 ⟨Nat.le_of_ble_eq_true rfl, Nat.le_of_ble_eq_true rfl⟩ rfl rfl (Nat.le_of_ble_eq_true rfl) dX11_readsStatement_93 (fun z33 I34 hz33 hI34 v => ?_)
            obtain ⟨h35, v⟩ := v
            exact r_iret B hr hk (nar_z h35) ((bl01 h35)) hI34 v dX11_readsStatement_96
          · have v := v.2 h
            refine r_aload_n B dX11_readsStatement_82 rfl rfl ?_
            refine r_iload_n B dX11_readsStatement_83 rfl rfl ?_
            refine r_cI B (st := []) (as := [.int (i2 (I22 236 17))]) (T := TX11) (N := 25) (c_M_readsAfter (I22 236 17) _ hI32 ((hI22 _ _))) v o_236 rfl mw_M_readsAfter wl_X11_369 ⟨Nat.le_of_ble_eq_true rfl, Nat.le_of_ble_eq_true rfl⟩ rfl rfl (Nat.le_of_ble_eq_true rfl) dX11_readsStatement_84 (fun z36 I37 hz36 hI37 v => ?_)
            refine r_goto B (tgt := 96) dX11_readsStatement_87 (by decide) ?_
            obtain ⟨h38, v⟩ := v
            exact r_iret B hr hk (nar_z h38) ((bl01 h38)) hI37 v dX11_readsStatement_96
        · have v := v.2 h
          refine r_aload_n B dX11_readsStatement_66 rfl rfl ?_
          refine r_iload_n B dX11_readsStatement_67 rfl rfl ?_
          refine r_cI B (st := []) (as := [.int (i2 (I22 236 17))]) (T := TX11) (N := 25) (c_M_readsEvery (I22 236 17) _ hI30 ((hI22 _ _))) v o_236 rfl mw_M_readsEvery wl_X11_364 ⟨Nat.le_of_ble_eq_true rfl, Nat.le_of_ble_eq_true rfl⟩ rfl rfl (Nat.le_of_ble_eq_true rfl) dX11_readsStatement_68 (fun z39 I40 hz39 hI40 v => ?_)
          obtain ⟨h41, v⟩ := v
          exact r_iret B hr hk (nar_z h41) ((bl01 h41)) hI40 v dX11_readsStatement_71
      · have v := v.2 h
        refine r_aload_n B dX11_readsStatement_50 rfl rfl ?_
        refine r_iload_n B dX11_readsStatement_51 rfl rfl ?_
        refine r_cI B (st := []) (as := [.int (i2 (I22 236 17))]) (T := TX11) (N := 25) (c_M_readsAt (I22 236 17) _ hI28 ((hI22 _ _))) v o_236 rfl mw_M_readsAt wl_X11_359 ⟨Nat.le_of_ble_eq_true rfl, Nat.le_of_ble_eq_true rfl⟩ rfl rfl (Nat.le_of_ble_eq_true rfl) dX11_readsStatement_52 (fun z42 I43 hz42 hI43 v => ?_)
        obtain ⟨h44, v⟩ := v
        exact r_iret B hr hk (nar_z h44) ((bl01 h44)) hI43 v dX11_readsStatement_55
    · have v := v.2 h
      refine r_aload_n B dX11_readsStatement_35 rfl rfl ?_
      refine r_cI B (st := []) (as := []) (T := TX11) (N := 25) (c_M_readsWide _ hI26 ) v o_236 rfl mw_M_readsWide wl_X11_354 ⟨Nat.le_of_ble_eq_true rfl, Nat.le_of_ble_eq_true rfl⟩ rfl rfl (Nat.le_of_ble_eq_true rfl) dX11_readsStatement_36 (fun z45 I46 hz45 hI46 v => ?_)
      obtain ⟨h47, v⟩ := v
      exact r_iret B hr hk (nar_z h47) ((bl01 h47)) hI46 v dX11_readsStatement_39
  · have v := v.2 h
    refine r_aload_n B dX11_readsStatement_20 rfl rfl ?_
    refine r_cI B (st := []) (as := []) (T := TX11) (N := 25) (c_M_readsRows _ hI24 ) v o_236 rfl mw_M_readsRows wl_X11_349 ⟨Nat.le_of_ble_eq_true rfl, Nat.le_of_ble_eq_true rfl⟩ rfl rfl (Nat.le_of_ble_eq_true rfl) dX11_readsStatement_21 (fun z48 I49 hz48 hI49 v => ?_)
    obtain ⟨h50, v⟩ := v
    exact r_iret B hr hk (nar_z h50) ((bl01 h50)) hI49 v dX11_readsStatement_24
set_option maxHeartbeats 4000000 in
set_option maxRecDepth 100000 in
theorem wL_M_readsAll_7 {p : Program} {l : Launch} {e : Env} {s : State} {m : MethodId} {args : Array Value} {below : List Frame} {meth : Method} {c0 : Code} {E : En} {A : Nat → Prop}  {Q : Int → Mm → Prop} {K56 : Mm → Prop} (B : Bd p (rmm 8 211) s m args c0 cX11_readsAll 2 RX11 E A 0 0) (hr : meth.sig.returnType = some .boolean) (hk : meth.locks = false)   (k56 : ∀ (I : Mm), rgM I → K56 I → WI p l e (rmm 8 211) s m args below meth c0 E A 2 0 0 (qI below E A args s Q) I 56 [(0, .ref (eA E 236))] []) : ∀ (n : Nat) (x1 : Int) (I : Mm), rgM I → r32 x1 → L_M_readsAll_7 Q K56 n x1 I → WI p l e (rmm 8 211) s m args below meth c0 E A 2 0 0 (qI below E A args s Q) I 7 [(0, .ref (eA E 236)), (1, .int (i2 x1))] [] := by
  intro n
  induction n with
  | zero => intro x1 I _ _ v; exact absurd v id
  | succ n ih =>
    intro x1 I hI h1 v
    unfold L_M_readsAll_7 at v
    refine r_iload_n B dX11_readsAll_7 rfl rfl ?_
    refine r_if_eq B (tgt := 56) dX11_readsAll_8 (by decide) h1 (fun h => ?_) (fun h => ?_)
    · have v := v.1 h
      refine r_sub [0] rfl ?_
      exact k56 _ hI v
    · have v := v.2 h
      refine r_aload_n B dX11_readsAll_11 rfl rfl ?_
      refine r_cI B (st := []) (as := []) (T := TX11) (N := 25) (c_M_readsStatement _ hI ) v o_236 rfl mw_M_readsStatement wl_X11_372 ⟨Nat.le_of_ble_eq_true rfl, Nat.le_of_ble_eq_true rfl⟩ rfl rfl (Nat.le_of_ble_eq_true rfl) dX11_readsAll_12 (fun z22 I23 hz22 hI23 v => ?_)
      refine r_if_ne B (tgt := 20) dX11_readsAll_15 (by decide) hz22 (fun h => ?_) (fun h => ?_)
      · have v := v.1 h
        refine r_aload_n B dX11_readsAll_20 rfl rfl ?_
        refine r_cI B (st := []) (as := []) (T := TX11) (N := 25) (c_M_nextByte _ hI23 ) v o_236 rfl mw_M_nextByte wl_X11_286 ⟨Nat.le_of_ble_eq_true rfl, Nat.le_of_ble_eq_true rfl⟩ rfl rfl (Nat.le_of_ble_eq_true rfl) dX11_readsAll_21 (fun z24 I25 hz24 hI25 v => ?_)
        refine r_bipush B dX11_readsAll_24 (by decide) ?_
        refine r_icmp_ne B (tgt := 33) dX11_readsAll_26 (by decide) hz24 ((rg_lit (by decide) (by decide))) (fun h => ?_) (fun h => ?_)
        · have v := v.1 h
          refine r_iconst B dX11_readsAll_33 ?_
          refine r_istore_n B dX11_readsAll_34 rfl (by decide) (lv' := [(1, .int (i2 0)), (0, .ref (eA E 236))]) rfl ?_
          refine r_sub [1, 0] rfl ?_
          refine r_aload_n B dX11_readsAll_35 rfl rfl ?_
          refine r_dup B dX11_readsAll_36 rfl ?_
          refine r_getI B (C := RX11) (T := TX11) (N := 25) o_236 17 rfl win_X11 (by decide) rfl wf_X11_277 dX11_readsAll_37 (jj := 17) rfl ?_
          refine r_iload_n B dX11_readsAll_40 rfl rfl ?_
          refine r_if_eq B (tgt := 48) dX11_readsAll_41 (by decide) ((rg_lit (by decide) (by decide))) (fun _ => ?_) (fun h => absurd h (by decide))
          refine r_iconst B dX11_readsAll_48 ?_
          refine r_iadd B dX11_readsAll_49 ?_
          obtain ⟨h26, v⟩ := v
          refine r_putI B (C := RX11) (T := TX11) (N := 25) o_236 17 rfl win_X11 tyX11 tyX11_ok nmX11 (by decide) rfl rfl rfl wf_X11_277 dX11_readsAll_50 (jj := 17) rfl ?_
          have hI27 : rgM (wrM I25 236 17 (I25 236 17 + 0)) := rg_wr hI25 h26
          refine r_goto B (tgt := 7) dX11_readsAll_53 (by decide) ?_
          refine r_sub [0, 1] rfl ?_
          exact ih 0 _ hI27 ((rg_lit (by decide) (by decide))) v
        · have v := v.2 h
          refine r_iconst B dX11_readsAll_29 ?_
          refine r_goto B (tgt := 34) dX11_readsAll_30 (by decide) ?_
          refine r_istore_n B dX11_readsAll_34 rfl (by decide) (lv' := [(1, .int (i2 1)), (0, .ref (eA E 236))]) rfl ?_
          refine r_sub [1, 0] rfl ?_
          refine r_aload_n B dX11_readsAll_35 rfl rfl ?_
          refine r_dup B dX11_readsAll_36 rfl ?_
          refine r_getI B (C := RX11) (T := TX11) (N := 25) o_236 17 rfl win_X11 (by decide) rfl wf_X11_277 dX11_readsAll_37 (jj := 17) rfl ?_
          refine r_iload_n B dX11_readsAll_40 rfl rfl ?_
          refine r_if_eq B (tgt := 48) dX11_readsAll_41 (by decide) ((rg_lit (by decide) (by decide))) (fun h => absurd h (by decide)) (fun _ => ?_)
          refine r_iconst B dX11_readsAll_44 ?_
          refine r_goto B (tgt := 49) dX11_readsAll_45 (by decide) ?_
          refine r_iadd B dX11_readsAll_49 ?_
          obtain ⟨h28, v⟩ := v
          refine r_putI B (C := RX11) (T := TX11) (N := 25) o_236 17 rfl win_X11 tyX11 tyX11_ok nmX11 (by decide) rfl rfl rfl wf_X11_277 dX11_readsAll_50 (jj := 17) rfl ?_
          have hI29 : rgM (wrM I25 236 17 (I25 236 17 + 1)) := rg_wr hI25 h28
          refine r_goto B (tgt := 7) dX11_readsAll_53 (by decide) ?_
          refine r_sub [0, 1] rfl ?_
          exact ih 1 _ hI29 ((rg_lit (by decide) (by decide))) v
      · have v := v.2 h
        refine r_iconst B dX11_readsAll_18 ?_
        exact r_iret B hr hk rfl ((rg_lit (by decide) (by decide))) hI23 v dX11_readsAll_19
set_option maxHeartbeats 4000000 in
set_option maxRecDepth 100000 in
theorem c_M_readsAll {l : Launch} {E : En} {A : Nat → Prop}  (I : Mm)  (hI : rgM I)  : CI l E A yX11_readsAll cX11_readsAll 2 .boolean 8 211 [.ref (eA E 236)] I (V_M_readsAll  I) := by
  intro Q v
  refine mk_met (own := RX11) (lv0 := [(0, .ref (eA E 236))]) (by decide) rfl (Nat.le_of_ble_eq_true rfl) rfl (fun p e s m args below meth c0 B hr hk => ?_)
  unfold V_M_readsAll at v
  refine r_aload_n B dX11_readsAll_0 rfl rfl ?_
  refine r_iconst B dX11_readsAll_1 ?_
  refine r_putI B (C := RX11) (T := TX11) (N := 25) o_236 17 rfl win_X11 tyX11 tyX11_ok nmX11 (by decide) rfl rfl rfl wf_X11_277 dX11_readsAll_2 (jj := 17) rfl ?_
  have hI21 : rgM (wrM I 236 17 0) := rg_wr hI ((rg_lit (by decide) (by decide)))
  refine r_iconst B dX11_readsAll_5 ?_
  refine r_istore_n B dX11_readsAll_6 rfl (by decide) (lv' := [(1, .int (i2 1)), (0, .ref (eA E 236))]) rfl ?_
  refine r_sub [1, 0] rfl ?_
  obtain ⟨f35, v⟩ := v
  refine r_sub [0, 1] rfl ?_
  refine wL_M_readsAll_7 B hr hk (fun I30 hI30 v => ?_) f35 1 _ hI21 ((rg_lit (by decide) (by decide))) v
  · refine r_aload_n B dX11_readsAll_56 rfl rfl ?_
    refine r_cI B (st := []) (as := []) (T := TX11) (N := 25) (c_M_nextByte _ hI30 ) v o_236 rfl mw_M_nextByte wl_X11_286 ⟨Nat.le_of_ble_eq_true rfl, Nat.le_of_ble_eq_true rfl⟩ rfl rfl (Nat.le_of_ble_eq_true rfl) dX11_readsAll_57 (fun z31 I32 hz31 hI32 v => ?_)
    refine r_iconst B dX11_readsAll_60 ?_
    refine r_icmp_eq B (tgt := 76) dX11_readsAll_61 (by decide) hz31 ((rg_lit (by decide) (by decide))) (fun h => ?_) (fun h => ?_)
    · have v := v.1 h
      refine r_iconst B dX11_readsAll_76 ?_
      refine r_goto B (tgt := 81) dX11_readsAll_77 (by decide) ?_
      exact r_iret B hr hk rfl ((rg_lit (by decide) (by decide))) hI32 v dX11_readsAll_81
    · have v := v.2 h
      refine r_aload_n B dX11_readsAll_64 rfl rfl ?_
      refine r_iconst B dX11_readsAll_65 ?_
      refine r_aload_n B dX11_readsAll_66 rfl rfl ?_
      refine r_getI B (C := RX11) (T := TX11) (N := 25) o_236 17 rfl win_X11 (by decide) rfl wf_X11_277 dX11_readsAll_67 (jj := 17) rfl ?_
      refine r_cI B (st := []) (as := [.int (i2 1), .int (i2 (I32 236 17))]) (T := TX11) (N := 25) (c_M_fails 1 (I32 236 17) _ hI32 ((rg_lit (by decide) (by decide))) ((hI32 _ _))) v o_236 rfl mw_M_fails wl_X11_297 ⟨Nat.le_of_ble_eq_true rfl, Nat.le_of_ble_eq_true rfl⟩ rfl rfl (Nat.le_of_ble_eq_true rfl) dX11_readsAll_70 (fun z33 I34 hz33 hI34 v => ?_)
      refine r_if_eq B (tgt := 80) dX11_readsAll_73 (by decide) hz33 (fun h => ?_) (fun h => ?_)
      · have v := v.1 h
        refine r_iconst B dX11_readsAll_80 ?_
        exact r_iret B hr hk rfl ((rg_lit (by decide) (by decide))) hI34 v dX11_readsAll_81
      · have v := v.2 h
        refine r_iconst B dX11_readsAll_76 ?_
        refine r_goto B (tgt := 81) dX11_readsAll_77 (by decide) ?_
        exact r_iret B hr hk rfl ((rg_lit (by decide) (by decide))) hI34 v dX11_readsAll_81
set_option maxHeartbeats 4000000 in
set_option maxRecDepth 100000 in
theorem c_M_tell {l : Launch} {E : En} {A : Nat → Prop}  (I : Mm)  (hI : rgM I)  : CI l E A yX11_tell cX11_tell 2 .int 9 232 [.ref (eA E 236)] I (V_M_tell  I) := by
  intro Q v
  refine mk_met (own := RX11) (lv0 := [(0, .ref (eA E 236))]) (by decide) rfl (Nat.le_of_ble_eq_true rfl) rfl (fun p e s m args below meth c0 B hr hk => ?_)
  unfold V_M_tell at v
  refine r_aload_n B dX11_tell_0 rfl rfl ?_
  refine r_cV B (st := []) (as := []) (T := TX11) (N := 25) (c_M_keepsAside _ hI ) v o_236 rfl mw_M_keepsAside wl_X11_201 ⟨Nat.le_of_ble_eq_true rfl, Nat.le_of_ble_eq_true rfl⟩ rfl rfl (Nat.le_of_ble_eq_true rfl) dX11_tell_1 (fun I21 hI21 v => ?_)
  refine r_aload_n B dX11_tell_4 rfl rfl ?_
  refine r_getR B (C := RX11) (T := TX11) (N := 25) o_236 0 rfl win_X11 (by decide) rfl wf_X11_7 dX11_tell_5 ?_
  refine r_sV B (st := []) (as := [.ref (eA E 237)]) (c_M_begins 237 _ a_237 hI21 ) v mw_M_begins wl_X11_51 ⟨Nat.le_of_ble_eq_true rfl, Nat.le_of_ble_eq_true rfl⟩ rfl rfl (Nat.le_of_ble_eq_true rfl) dX11_tell_8 (fun I22 hI22 v => ?_)
  refine r_aload_n B dX11_tell_11 rfl rfl ?_
  refine r_cI B (st := []) (as := []) (T := TX11) (N := 25) (c_M_readsAll _ hI22 ) v o_236 rfl mw_M_readsAll wl_X11_375 ⟨Nat.le_of_ble_eq_true rfl, Nat.le_of_ble_eq_true rfl⟩ rfl rfl (Nat.le_of_ble_eq_true rfl) dX11_tell_12 (fun z23 I24 hz23 hI24 v => ?_)
  refine r_istore_n B dX11_tell_15 rfl (by decide) (lv' := [(1, .int (i2 z23)), (0, .ref (eA E 236))]) rfl ?_
  refine r_sub [1, 0] rfl ?_
  refine r_aload_n B dX11_tell_16 rfl rfl ?_
  refine r_iconst B dX11_tell_17 ?_
  refine r_putI B (C := RX11) (T := TX11) (N := 25) o_236 16 rfl win_X11 tyX11 tyX11_ok nmX11 (by decide) rfl rfl rfl wf_X11_172 dX11_tell_18 (jj := 16) rfl ?_
  have hI25 : rgM (wrM I24 236 16 0) := rg_wr hI24 ((rg_lit (by decide) (by decide)))
  refine r_iload_n B dX11_tell_21 rfl rfl ?_
  refine r_if_ne B (tgt := 37) dX11_tell_22 (by decide) hz23 (fun h => ?_) (fun h => ?_)
  · have v := v.1 h
    refine r_aload_n B dX11_tell_37 rfl rfl ?_
    refine r_iconst B dX11_tell_38 ?_
    refine r_putI B (C := RX11) (T := TX11) (N := 25) o_236 3 rfl win_X11 tyX11 tyX11_ok nmX11 (by decide) rfl rfl rfl wf_X11_108 dX11_tell_39 (jj := 3) rfl ?_
    have hI26 : rgM (wrM ((wrM I24 236 16 0)) 236 3 0) := rg_wr hI25 ((rg_lit (by decide) (by decide)))
    refine r_aload_n B dX11_tell_42 rfl rfl ?_
    refine r_getR B (C := RX11) (T := TX11) (N := 25) o_236 0 rfl win_X11 (by decide) rfl wf_X11_7 dX11_tell_43 ?_
    refine r_iconst B dX11_tell_46 ?_
    refine r_ald B a_237 (by decide) (by decide) dX11_tell_47 ?_
    exact r_iret B hr hk rfl ((hI26 _ _)) hI26 v dX11_tell_48
  · have v := v.2 h
    refine r_aload_n B dX11_tell_25 rfl rfl ?_
    refine r_cV B (st := []) (as := []) (T := TX11) (N := 25) (c_M_isAgain _ hI25 ) v o_236 rfl mw_M_isAgain wl_X11_204 ⟨Nat.le_of_ble_eq_true rfl, Nat.le_of_ble_eq_true rfl⟩ rfl rfl (Nat.le_of_ble_eq_true rfl) dX11_tell_26 (fun I27 hI27 v => ?_)
    refine r_bipush B dX11_tell_29 (by decide) ?_
    refine r_aload_n B dX11_tell_31 rfl rfl ?_
    refine r_getI B (C := RX11) (T := TX11) (N := 25) o_236 18 rfl win_X11 (by decide) rfl wf_X11_283 dX11_tell_32 (jj := 18) rfl ?_
    refine r_isub B dX11_tell_35 ?_
    obtain ⟨h28, v⟩ := v
    exact r_iret B hr hk rfl h28 hI27 v dX11_tell_36
set_option maxHeartbeats 4000000 in
set_option maxRecDepth 100000 in
theorem wL_M_isNameAlone_19 {p : Program} {l : Launch} {e : Env} {s : State} {m : MethodId} {args : Array Value} {below : List Frame} {meth : Method} {c0 : Code} {E : En} {A : Nat → Prop}  {Q : Int → Mm → Prop}  (B : Bd p (rmm 1 25) s m args c0 cX11_isNameAlone 2 RX11 E A 0 0) (hr : meth.sig.returnType = some .boolean) (hk : meth.locks = false)    : ∀ (n : Nat) (x1 : Int) (I : Mm), rgM I → r32 x1 → L_M_isNameAlone_19 Q n x1 I → WI p l e (rmm 1 25) s m args below meth c0 E A 2 0 0 (qI below E A args s Q) I 19 [(0, .ref (eA E 236)), (1, .int (i2 x1))] [] := by
  intro n
  induction n with
  | zero => intro x1 I _ _ v; exact absurd v id
  | succ n ih =>
    intro x1 I hI h1 v
    unfold L_M_isNameAlone_19 at v
    refine r_iload_n B dX11_isNameAlone_19 rfl rfl ?_
    refine r_aload_n B dX11_isNameAlone_20 rfl rfl ?_
    refine r_getI B (C := RX11) (T := TX11) (N := 25) o_236 16 rfl win_X11 (by decide) rfl wf_X11_172 dX11_isNameAlone_21 (jj := 16) rfl ?_
    refine r_icmp_ge B (tgt := 53) dX11_isNameAlone_24 (by decide) h1 ((hI _ _)) (fun h => ?_) (fun h => ?_)
    · have v := v.1 h
      refine r_iconst B dX11_isNameAlone_53 ?_
      exact r_iret B hr hk rfl ((rg_lit (by decide) (by decide))) hI v dX11_isNameAlone_54
    · have v := v.2 h
      refine r_aload_n B dX11_isNameAlone_27 rfl rfl ?_
      refine r_iload_n B dX11_isNameAlone_28 rfl rfl ?_
      refine r_cI B (st := []) (as := [.int (i2 x1)]) (T := TX11) (N := 25) (c_M_byteAt x1 _ hI h1) v o_236 rfl mw_M_byteAt wl_X11_280 ⟨Nat.le_of_ble_eq_true rfl, Nat.le_of_ble_eq_true rfl⟩ rfl rfl (Nat.le_of_ble_eq_true rfl) dX11_isNameAlone_29 (fun z23 I24 hz23 hI24 v => ?_)
      refine r_i2l B dX11_isNameAlone_32 hz23 ?_
      refine r_ldc2 B (97) dX11_isNameAlone_33 wc_X11_289 (by decide) ?_
      refine r_ldc2 B (122) dX11_isNameAlone_36 wc_X11_291 (by decide) ?_
      refine r_sI B (st := []) (as := [.long (l2 z23), .long (l2 97), .long (l2 122)]) (c_M_in z23 97 122 _ hI24 ((rg_64 hz23)) ((show r64 (97) by exact ⟨by decide, by decide⟩)) ((show r64 (122) by exact ⟨by decide, by decide⟩))) v mw_M_in wl_X11_55 ⟨Nat.le_of_ble_eq_true rfl, Nat.le_of_ble_eq_true rfl⟩ rfl rfl (Nat.le_of_ble_eq_true rfl) dX11_isNameAlone_39 (fun z25 I26 hz25 hI26 v => ?_)
      refine r_if_ne B (tgt := 47) dX11_isNameAlone_42 (by decide) hz25 (fun h => ?_) (fun h => ?_)
      · have v := v.1 h
        refine r_iinc B (q := 1) dX11_isNameAlone_47 (by decide) rfl (lv' := [(1, .int (i2 (x1 + 1))), (0, .ref (eA E 236))]) rfl ?_
        refine r_sub [1, 0] rfl ?_
        refine r_goto B (tgt := 19) dX11_isNameAlone_50 (by decide) ?_
        obtain ⟨h27, v⟩ := v
        refine r_sub [0, 1] rfl ?_
        exact ih (x1 + 1) _ hI26 h27 v
      · have v := v.2 h
        refine r_iconst B dX11_isNameAlone_45 ?_
        exact r_iret B hr hk rfl ((rg_lit (by decide) (by decide))) hI26 v dX11_isNameAlone_46
set_option maxHeartbeats 4000000 in
set_option maxRecDepth 100000 in
theorem c_M_isNameAlone {l : Launch} {E : En} {A : Nat → Prop}  (I : Mm)  (hI : rgM I)  : CI l E A yX11_isNameAlone cX11_isNameAlone 2 .boolean 1 25 [.ref (eA E 236)] I (V_M_isNameAlone  I) := by
  intro Q v
  refine mk_met (own := RX11) (lv0 := [(0, .ref (eA E 236))]) (by decide) rfl (Nat.le_of_ble_eq_true rfl) rfl (fun p e s m args below meth c0 B hr hk => ?_)
  unfold V_M_isNameAlone at v
  refine r_aload_n B dX11_isNameAlone_0 rfl rfl ?_
  refine r_getI B (C := RX11) (T := TX11) (N := 25) o_236 16 rfl win_X11 (by decide) rfl wf_X11_172 dX11_isNameAlone_1 (jj := 16) rfl ?_
  refine r_i2l B dX11_isNameAlone_4 ((hI _ _)) ?_
  refine r_lconst B 1 dX11_isNameAlone_5 (by decide) ?_
  refine r_ldc2 B (6) dX11_isNameAlone_6 wc_X11_378 (by decide) ?_
  refine r_sI B (st := []) (as := [.long (l2 (I 236 16)), .long (l2 1), .long (l2 6)]) (c_M_in (I 236 16) 1 6 _ hI ((rg_64 ((hI _ _)))) ((show r64 (1) by exact ⟨by decide, by decide⟩)) ((show r64 (6) by exact ⟨by decide, by decide⟩))) v mw_M_in wl_X11_55 ⟨Nat.le_of_ble_eq_true rfl, Nat.le_of_ble_eq_true rfl⟩ rfl rfl (Nat.le_of_ble_eq_true rfl) dX11_isNameAlone_9 (fun z21 I22 hz21 hI22 v => ?_)
  refine r_if_ne B (tgt := 17) dX11_isNameAlone_12 (by decide) hz21 (fun h => ?_) (fun h => ?_)
  · have v := v.1 h
    refine r_iconst B dX11_isNameAlone_17 ?_
    refine r_istore_n B dX11_isNameAlone_18 rfl (by decide) (lv' := [(1, .int (i2 0)), (0, .ref (eA E 236))]) rfl ?_
    refine r_sub [1, 0] rfl ?_
    obtain ⟨f28, v⟩ := v
    refine r_sub [0, 1] rfl ?_
    exact wL_M_isNameAlone_19 B hr hk f28 0 I22 hI22 ((rg_lit (by decide) (by decide))) v
  · have v := v.2 h
    refine r_iconst B dX11_isNameAlone_15 ?_
    exact r_iret B hr hk rfl ((rg_lit (by decide) (by decide))) hI22 v dX11_isNameAlone_16
set_option maxHeartbeats 4000000 in
set_option maxRecDepth 100000 in
theorem wJ_M_name_36 {p : Program} {l : Launch} {e : Env} {s : State} {m : MethodId} {args : Array Value} {below : List Frame} {meth : Method} {c0 : Code} {E : En} {A : Nat → Prop}  {Q : Int → Mm → Prop}  (B : Bd p (rmm 3 69) s m args c0 cX11_name 5 RX11 E A 0 0) (hr : meth.sig.returnType = some .int) (hk : meth.locks = false)    : ∀ (x2 : Int) (x3 : Int) (t0 : Int) (I : Mm), rgM I → r32 x2 → r32 x3 → r32 t0 → J_M_name_36 Q x2 x3 t0 I → WI p l e (rmm 3 69) s m args below meth c0 E A 5 0 0 (qI below E A args s Q) I 36 [(0, .ref (eA E 236)), (2, .int (i2 x2)), (3, .int (i2 x3))] [.int (i2 t0)] := by
  intro x2 x3 t0 I hI h2 h3 ht0 v
  unfold J_M_name_36 at v
  refine r_istore B dX11_name_36 (by decide) (lv' := [(4, .int (i2 t0)), (0, .ref (eA E 236)), (2, .int (i2 x2)), (3, .int (i2 x3))]) rfl ?_
  refine r_sub [1, 2, 3, 0] rfl ?_
  refine r_aload_n B dX11_name_38 rfl rfl ?_
  refine r_iconst B dX11_name_39 ?_
  refine r_putI B (C := RX11) (T := TX11) (N := 25) o_236 16 rfl win_X11 tyX11 tyX11_ok nmX11 (by decide) rfl rfl rfl wf_X11_172 dX11_name_40 (jj := 16) rfl ?_
  have hI24 : rgM (wrM I 236 16 0) := rg_wr hI ((rg_lit (by decide) (by decide)))
  refine r_iload B dX11_name_43 rfl ?_
  refine r_iconst B dX11_name_45 ?_
  refine r_icmp_ne B (tgt := 52) dX11_name_46 (by decide) ht0 ((rg_lit (by decide) (by decide))) (fun h => ?_) (fun h => ?_)
  · have v := v.1 h
    refine r_iload B dX11_name_52 rfl ?_
    refine r_iload_n B dX11_name_54 rfl rfl ?_
    refine r_icmp_ge B (tgt := 61) dX11_name_55 (by decide) ht0 h3 (fun h => ?_) (fun h => ?_)
    · have v := v.1 h
      refine r_aload_n B dX11_name_61 rfl rfl ?_
      refine r_cV B (st := []) (as := []) (T := TX11) (N := 25) (c_M_isAgain _ hI24 ) v o_236 rfl mw_M_isAgain wl_X11_204 ⟨Nat.le_of_ble_eq_true rfl, Nat.le_of_ble_eq_true rfl⟩ rfl rfl (Nat.le_of_ble_eq_true rfl) dX11_name_62 (fun I25 hI25 v => ?_)
      refine r_aload_n B dX11_name_65 rfl rfl ?_
      refine r_cV B (st := []) (as := []) (T := TX11) (N := 25) (c_M_keepsAct _ hI25 ) v o_236 rfl mw_M_keepsAct wl_X11_117 ⟨Nat.le_of_ble_eq_true rfl, Nat.le_of_ble_eq_true rfl⟩ rfl rfl (Nat.le_of_ble_eq_true rfl) dX11_name_66 (fun I26 hI26 v => ?_)
      refine r_aload_n B dX11_name_69 rfl rfl ?_
      refine r_iload_n B dX11_name_70 rfl rfl ?_
      refine r_putI B (C := RX11) (T := TX11) (N := 25) o_236 16 rfl win_X11 tyX11 tyX11_ok nmX11 (by decide) rfl rfl rfl wf_X11_172 dX11_name_71 (jj := 16) rfl ?_
      have hI27 : rgM (wrM I26 236 16 x2) := rg_wr hI26 h2
      refine r_aload_n B dX11_name_74 rfl rfl ?_
      refine r_iconst B dX11_name_75 ?_
      refine r_iload_n B dX11_name_76 rfl rfl ?_
      refine r_cI B (st := []) (as := [.int (i2 0), .int (i2 x2)]) (T := TX11) (N := 25) (c_M_nameAt 0 x2 _ hI27 ((rg_lit (by decide) (by decide))) h2) v o_236 rfl mw_M_nameAt wl_X11_320 ⟨Nat.le_of_ble_eq_true rfl, Nat.le_of_ble_eq_true rfl⟩ rfl rfl (Nat.le_of_ble_eq_true rfl) dX11_name_77 (fun z28 I29 hz28 hI29 v => ?_)
      refine r_istore B dX11_name_80 (by decide) (lv' := [(4, .int (i2 z28)), (0, .ref (eA E 236)), (2, .int (i2 x2)), (3, .int (i2 x3))]) rfl ?_
      refine r_sub [1, 2, 3, 0] rfl ?_
      refine r_aload_n B dX11_name_82 rfl rfl ?_
      refine r_iconst B dX11_name_83 ?_
      refine r_putI B (C := RX11) (T := TX11) (N := 25) o_236 16 rfl win_X11 tyX11 tyX11_ok nmX11 (by decide) rfl rfl rfl wf_X11_172 dX11_name_84 (jj := 16) rfl ?_
      have hI30 : rgM (wrM I29 236 16 0) := rg_wr hI29 ((rg_lit (by decide) (by decide)))
      refine r_iload B dX11_name_87 rfl ?_
      exact r_iret B hr hk rfl hz28 hI30 v dX11_name_89
    · have v := v.2 h
      refine r_iload B dX11_name_58 rfl ?_
      exact r_iret B hr hk rfl ht0 hI24 v dX11_name_60
  · have v := v.2 h
    refine r_bipush B dX11_name_49 (by decide) ?_
    exact r_iret B hr hk rfl ((rg_lit (by decide) (by decide))) hI24 v dX11_name_51
set_option maxHeartbeats 4000000 in
set_option maxRecDepth 100000 in
theorem c_M_name {l : Launch} {E : En} {A : Nat → Prop}  (I : Mm)  (hI : rgM I)  : CI l E A yX11_name cX11_name 5 .int 3 69 [.ref (eA E 236)] I (V_M_name  I) := by
  intro Q v
  refine mk_met (own := RX11) (lv0 := [(0, .ref (eA E 236))]) (by decide) rfl (Nat.le_of_ble_eq_true rfl) rfl (fun p e s m args below meth c0 B hr hk => ?_)
  unfold V_M_name at v
  refine r_aload_n B dX11_name_0 rfl rfl ?_
  refine r_cI B (st := []) (as := []) (T := TX11) (N := 25) (c_M_isNameAlone _ hI ) v o_236 rfl mw_M_isNameAlone wl_X11_380 ⟨Nat.le_of_ble_eq_true rfl, Nat.le_of_ble_eq_true rfl⟩ rfl rfl (Nat.le_of_ble_eq_true rfl) dX11_name_1 (fun z21 I22 hz21 hI22 v => ?_)
  refine r_istore_n B dX11_name_4 rfl (by decide) (lv' := [(1, .int (i2 z21)), (0, .ref (eA E 236))]) rfl ?_
  refine r_sub [1, 0] rfl ?_
  refine r_aload_n B dX11_name_5 rfl rfl ?_
  refine r_getI B (C := RX11) (T := TX11) (N := 25) o_236 16 rfl win_X11 (by decide) rfl wf_X11_172 dX11_name_6 (jj := 16) rfl ?_
  refine r_istore_n B dX11_name_9 rfl (by decide) (lv' := [(2, .int (i2 (I22 236 16))), (0, .ref (eA E 236)), (1, .int (i2 z21))]) rfl ?_
  refine r_sub [1, 2, 0] rfl ?_
  refine r_aload_n B dX11_name_10 rfl rfl ?_
  refine r_cV B (st := []) (as := []) (T := TX11) (N := 25) (c_M_keepsAside _ hI22 ) v o_236 rfl mw_M_keepsAside wl_X11_201 ⟨Nat.le_of_ble_eq_true rfl, Nat.le_of_ble_eq_true rfl⟩ rfl rfl (Nat.le_of_ble_eq_true rfl) dX11_name_11 (fun I23 hI23 v => ?_)
  refine r_aload_n B dX11_name_14 rfl rfl ?_
  refine r_getR B (C := RX11) (T := TX11) (N := 25) o_236 0 rfl win_X11 (by decide) rfl wf_X11_7 dX11_name_15 ?_
  refine r_iconst B dX11_name_18 ?_
  refine r_ald B a_237 (by decide) (by decide) dX11_name_19 ?_
  refine r_istore_n B dX11_name_20 rfl (by decide) (lv' := [(3, .int (i2 (I23 237 4))), (0, .ref (eA E 236)), (1, .int (i2 z21)), (2, .int (i2 (I22 236 16)))]) rfl ?_
  refine r_sub [1, 2, 3, 0] rfl ?_
  refine r_iload_n B dX11_name_21 rfl rfl ?_
  refine r_if_eq B (tgt := 34) dX11_name_22 (by decide) hz21 (fun h => ?_) (fun h => ?_)
  · have v := v.1 h
    refine r_bipush B dX11_name_34 (by decide) ?_
    refine r_sub [0, 2, 3] rfl ?_
    exact wJ_M_name_36 B hr hk (I22 236 16) (I23 237 4) (-2) I23 hI23 ((hI22 _ _)) ((hI23 _ _)) ((rg_lit (by decide) (by decide))) v
  · have v := v.2 h
    refine r_aload_n B dX11_name_25 rfl rfl ?_
    refine r_iconst B dX11_name_26 ?_
    refine r_iload_n B dX11_name_27 rfl rfl ?_
    refine r_cI B (st := []) (as := [.int (i2 0), .int (i2 (I22 236 16))]) (T := TX11) (N := 25) (c_M_nameAt 0 (I22 236 16) _ hI23 ((rg_lit (by decide) (by decide))) ((hI22 _ _))) v o_236 rfl mw_M_nameAt wl_X11_320 ⟨Nat.le_of_ble_eq_true rfl, Nat.le_of_ble_eq_true rfl⟩ rfl rfl (Nat.le_of_ble_eq_true rfl) dX11_name_28 (fun z32 I33 hz32 hI33 v => ?_)
    refine r_goto B (tgt := 36) dX11_name_31 (by decide) ?_
    refine r_sub [0, 2, 3] rfl ?_
    exact wJ_M_name_36 B hr hk (I22 236 16) (I23 237 4) z32 I33 hI33 ((hI22 _ _)) ((hI23 _ _)) hz32 v
set_option maxHeartbeats 4000000 in
set_option maxRecDepth 100000 in
theorem wL_M_merge_43 {p : Program} {l : Launch} {e : Env} {s : State} {m : MethodId} {args : Array Value} {below : List Frame} {meth : Method} {c0 : Code} {E : En} {A : Nat → Prop} {x1 : Int} {x2 : Int} {x3 : Int} {Q : Int → Mm → Prop}  (B : Bd p (rmm 2 46) s m args c0 cX11_merge 5 RX11 E A 0 0) (hr : meth.sig.returnType = some .int) (hk : meth.locks = false) (h1 : r32 x1) (h2 : r32 x2) (h3 : r32 x3)  : ∀ (n : Nat) (x4 : Int) (I : Mm), rgM I → r32 x4 → L_M_merge_43 x1 x2 x3 Q n x4 I → WI p l e (rmm 2 46) s m args below meth c0 E A 5 0 0 (qI below E A args s Q) I 43 [(0, .ref (eA E 236)), (1, .int (i2 x1)), (2, .int (i2 x2)), (3, .int (i2 x3)), (4, .int (i2 x4))] [] := by
  intro n
  induction n with
  | zero => intro x4 I _ _ v; exact absurd v id
  | succ n ih =>
    intro x4 I hI h4 v
    unfold L_M_merge_43 at v
    refine r_iload B dX11_merge_43 rfl ?_
    refine r_aload_n B dX11_merge_45 rfl rfl ?_
    refine r_getR B (C := RX11) (T := TX11) (N := 25) o_236 0 rfl win_X11 (by decide) rfl wf_X11_7 dX11_merge_46 ?_
    refine r_iconst B dX11_merge_49 ?_
    refine r_ald B a_237 (by decide) (by decide) dX11_merge_50 ?_
    refine r_icmp_ge B (tgt := 87) dX11_merge_51 (by decide) h4 ((hI _ _)) (fun h => ?_) (fun h => ?_)
    · have v := v.1 h
      refine r_iload_n B dX11_merge_87 rfl rfl ?_
      exact r_iret B hr hk rfl h3 hI v dX11_merge_88
    · have v := v.2 h
      refine r_aload_n B dX11_merge_54 rfl rfl ?_
      refine r_getR B (C := RX11) (T := TX11) (N := 25) o_236 0 rfl win_X11 (by decide) rfl wf_X11_7 dX11_merge_55 ?_
      refine r_sipush B dX11_merge_58 (by decide) ?_
      refine r_iload B dX11_merge_61 rfl ?_
      refine r_iadd B dX11_merge_63 ?_
      obtain ⟨h28, v⟩ := v
      refine r_ald B a_237 (by decide) h28 dX11_merge_64 ?_
      refine r_iload_n B dX11_merge_65 rfl rfl ?_
      refine r_icmp_ne B (tgt := 81) dX11_merge_66 (by decide) ((hI _ _)) h1 (fun h => ?_) (fun h => ?_)
      · have v := v.1 h
        refine r_iinc B (q := 4) dX11_merge_81 (by decide) rfl (lv' := [(4, .int (i2 (x4 + 1))), (0, .ref (eA E 236)), (1, .int (i2 x1)), (2, .int (i2 x2)), (3, .int (i2 x3))]) rfl ?_
        refine r_sub [1, 2, 3, 4, 0] rfl ?_
        refine r_goto B (tgt := 43) dX11_merge_84 (by decide) ?_
        obtain ⟨h29, v⟩ := v
        refine r_sub [0, 1, 2, 3, 4] rfl ?_
        exact ih (x4 + 1) _ hI h29 v
      · have v := v.2 h
        refine r_aload_n B dX11_merge_69 rfl rfl ?_
        refine r_getR B (C := RX11) (T := TX11) (N := 25) o_236 0 rfl win_X11 (by decide) rfl wf_X11_7 dX11_merge_70 ?_
        refine r_sipush B dX11_merge_73 (by decide) ?_
        refine r_iload B dX11_merge_76 rfl ?_
        refine r_iadd B dX11_merge_78 ?_
        refine r_iload_n B dX11_merge_79 rfl rfl ?_
        obtain ⟨h30, v⟩ := v
        refine r_ast B a_237 (by decide) h30 dX11_merge_80 ?_
        have hI31 : rgM (wrM I 237 (580 + x4) x2) := rg_wr hI h2
        refine r_iinc B (q := 4) dX11_merge_81 (by decide) rfl (lv' := [(4, .int (i2 (x4 + 1))), (0, .ref (eA E 236)), (1, .int (i2 x1)), (2, .int (i2 x2)), (3, .int (i2 x3))]) rfl ?_
        refine r_sub [1, 2, 3, 4, 0] rfl ?_
        refine r_goto B (tgt := 43) dX11_merge_84 (by decide) ?_
        obtain ⟨h32, v⟩ := v
        refine r_sub [0, 1, 2, 3, 4] rfl ?_
        exact ih (x4 + 1) _ hI31 h32 v
set_option maxHeartbeats 4000000 in
set_option maxRecDepth 100000 in
theorem c_M_merge {l : Launch} {E : En} {A : Nat → Prop} (x1 : Int) (x2 : Int) (I : Mm)  (hI : rgM I) (h1 : r32 x1) (h2 : r32 x2) : CI l E A yX11_merge cX11_merge 5 .int 2 46 [.ref (eA E 236), .int (i2 x1), .int (i2 x2)] I (V_M_merge x1 x2 I) := by
  intro Q v
  refine mk_met (own := RX11) (lv0 := [(0, .ref (eA E 236)), (1, .int (i2 x1)), (2, .int (i2 x2))]) (by decide) rfl (Nat.le_of_ble_eq_true rfl) rfl (fun p e s m args below meth c0 B hr hk => ?_)
  unfold V_M_merge at v
  refine r_aload_n B dX11_merge_0 rfl rfl ?_
  refine r_iload_n B dX11_merge_1 rfl rfl ?_
  refine r_cI B (st := []) (as := [.int (i2 x1)]) (T := TX11) (N := 25) (c_M_isName x1 _ hI h1) v o_236 rfl mw_M_isName wl_X11_111 ⟨Nat.le_of_ble_eq_true rfl, Nat.le_of_ble_eq_true rfl⟩ rfl rfl (Nat.le_of_ble_eq_true rfl) dX11_merge_2 (fun z21 I22 hz21 hI22 v => ?_)
  refine r_if_eq B (tgt := 21) dX11_merge_5 (by decide) hz21 (fun h => ?_) (fun h => ?_)
  · have v := v.1 h
    refine r_iconst B dX11_merge_21 ?_
    exact r_iret B hr hk rfl ((rg_lit (by decide) (by decide))) hI22 v dX11_merge_22
  · have v := v.2 h
    refine r_aload_n B dX11_merge_8 rfl rfl ?_
    refine r_iload_n B dX11_merge_9 rfl rfl ?_
    refine r_cI B (st := []) (as := [.int (i2 x2)]) (T := TX11) (N := 25) (c_M_isName x2 _ hI22 h2) v o_236 rfl mw_M_isName wl_X11_111 ⟨Nat.le_of_ble_eq_true rfl, Nat.le_of_ble_eq_true rfl⟩ rfl rfl (Nat.le_of_ble_eq_true rfl) dX11_merge_10 (fun z23 I24 hz23 hI24 v => ?_)
    refine r_if_eq B (tgt := 21) dX11_merge_13 (by decide) hz23 (fun h => ?_) (fun h => ?_)
    · have v := v.1 h
      refine r_iconst B dX11_merge_21 ?_
      exact r_iret B hr hk rfl ((rg_lit (by decide) (by decide))) hI24 v dX11_merge_22
    · have v := v.2 h
      refine r_iload_n B dX11_merge_16 rfl rfl ?_
      refine r_iload_n B dX11_merge_17 rfl rfl ?_
      refine r_icmp_ne B (tgt := 23) dX11_merge_18 (by decide) h1 h2 (fun h => ?_) (fun h => ?_)
      · have v := v.1 h
        refine r_aload_n B dX11_merge_23 rfl rfl ?_
        refine r_iload_n B dX11_merge_24 rfl rfl ?_
        refine r_cI B (st := []) (as := [.int (i2 x1)]) (T := TX11) (N := 25) (c_M_waiting x1 _ hI24 h1) v o_236 rfl mw_M_waiting wl_X11_129 ⟨Nat.le_of_ble_eq_true rfl, Nat.le_of_ble_eq_true rfl⟩ rfl rfl (Nat.le_of_ble_eq_true rfl) dX11_merge_25 (fun z25 I26 hz25 hI26 v => ?_)
        refine r_istore_n B dX11_merge_28 rfl (by decide) (lv' := [(3, .int (i2 z25)), (0, .ref (eA E 236)), (1, .int (i2 x1)), (2, .int (i2 x2))]) rfl ?_
        refine r_sub [1, 2, 3, 0] rfl ?_
        refine r_iload_n B dX11_merge_29 rfl rfl ?_
        refine r_if_ne B (tgt := 36) dX11_merge_30 (by decide) hz25 (fun h => ?_) (fun h => ?_)
        · have v := v.1 h
          refine r_aload_n B dX11_merge_36 rfl rfl ?_
          refine r_cV B (st := []) (as := []) (T := TX11) (N := 25) (c_M_keepsAct _ hI26 ) v o_236 rfl mw_M_keepsAct wl_X11_117 ⟨Nat.le_of_ble_eq_true rfl, Nat.le_of_ble_eq_true rfl⟩ rfl rfl (Nat.le_of_ble_eq_true rfl) dX11_merge_37 (fun I27 hI27 v => ?_)
          refine r_iconst B dX11_merge_40 ?_
          refine r_istore B dX11_merge_41 (by decide) (lv' := [(4, .int (i2 0)), (0, .ref (eA E 236)), (1, .int (i2 x1)), (2, .int (i2 x2)), (3, .int (i2 z25))]) rfl ?_
          refine r_sub [1, 2, 3, 4, 0] rfl ?_
          obtain ⟨f33, v⟩ := v
          refine r_sub [0, 1, 2, 3, 4] rfl ?_
          exact wL_M_merge_43 B hr hk h1 h2 hz25 f33 0 I27 hI27 ((rg_lit (by decide) (by decide))) v
        · have v := v.2 h
          refine r_bipush B dX11_merge_33 (by decide) ?_
          exact r_iret B hr hk rfl ((rg_lit (by decide) (by decide))) hI26 v dX11_merge_35
      · have v := v.2 h
        refine r_iconst B dX11_merge_21 ?_
        exact r_iret B hr hk rfl ((rg_lit (by decide) (by decide))) hI24 v dX11_merge_22
set_option maxHeartbeats 4000000 in
set_option maxRecDepth 100000 in
theorem wL_M_cut_47 {p : Program} {l : Launch} {e : Env} {s : State} {m : MethodId} {args : Array Value} {below : List Frame} {meth : Method} {c0 : Code} {E : En} {A : Nat → Prop} {x1 : Int} {x2 : Int} {x3 : Int} {Q : Int → Mm → Prop}  (B : Bd p (rmm 4 91) s m args c0 cX11_cut 5 RX11 E A 0 0) (hr : meth.sig.returnType = some .int) (hk : meth.locks = false) (h1 : r32 x1) (h2 : r32 x2) (h3 : r32 x3)  : ∀ (n : Nat) (x4 : Int) (I : Mm), rgM I → r32 x4 → L_M_cut_47 x1 x2 x3 Q n x4 I → WI p l e (rmm 4 91) s m args below meth c0 E A 5 0 0 (qI below E A args s Q) I 47 [(0, .ref (eA E 236)), (2, .int (i2 x2)), (3, .int (i2 x3)), (4, .int (i2 x4))] [] := by
  intro n
  induction n with
  | zero => intro x4 I _ _ v; exact absurd v id
  | succ n ih =>
    intro x4 I hI h4 v
    unfold L_M_cut_47 at v
    refine r_iload B dX11_cut_47 rfl ?_
    refine r_iload_n B dX11_cut_49 rfl rfl ?_
    refine r_icmp_ge B (tgt := 75) dX11_cut_50 (by decide) h4 h2 (fun h => ?_) (fun h => ?_)
    · have v := v.1 h
      refine r_iload_n B dX11_cut_75 rfl rfl ?_
      exact r_iret B hr hk rfl h2 hI v dX11_cut_76
    · have v := v.2 h
      refine r_aload_n B dX11_cut_53 rfl rfl ?_
      refine r_getR B (C := RX11) (T := TX11) (N := 25) o_236 0 rfl win_X11 (by decide) rfl wf_X11_7 dX11_cut_54 ?_
      refine r_bipush B dX11_cut_57 (by decide) ?_
      refine r_dup2 B dX11_cut_59 rfl rfl ?_
      refine r_ald B a_237 (by decide) (by decide) dX11_cut_60 ?_
      refine r_iconst B dX11_cut_61 ?_
      refine r_iadd B dX11_cut_62 ?_
      obtain ⟨h26, v⟩ := v
      refine r_ast B a_237 (by decide) (by decide) dX11_cut_63 ?_
      have hI27 : rgM (wrM I 237 15 (I 237 15 + 1)) := rg_wr hI h26
      refine r_aload_n B dX11_cut_64 rfl rfl ?_
      refine r_iload_n B dX11_cut_65 rfl rfl ?_
      refine r_cV B (st := []) (as := [.int (i2 x3)]) (T := TX11) (N := 25) (c_M_leaves x3 _ hI27 h3) v o_236 rfl mw_M_leaves wl_X11_97 ⟨Nat.le_of_ble_eq_true rfl, Nat.le_of_ble_eq_true rfl⟩ rfl rfl (Nat.le_of_ble_eq_true rfl) dX11_cut_66 (fun I28 hI28 v => ?_)
      refine r_iinc B (q := 3) dX11_cut_69 (by decide) rfl (lv' := [(4, .int (i2 (x4 + 1))), (0, .ref (eA E 236)), (2, .int (i2 x2)), (3, .int (i2 x3))]) rfl ?_
      refine r_sub [1, 2, 3, 0] rfl ?_
      refine r_goto B (tgt := 47) dX11_cut_72 (by decide) ?_
      obtain ⟨h29, v⟩ := v
      refine r_sub [0, 1, 2, 3] rfl ?_
      exact ih (x4 + 1) _ hI28 h29 v
set_option maxHeartbeats 4000000 in
set_option maxRecDepth 100000 in
theorem c_M_cut {l : Launch} {E : En} {A : Nat → Prop} (x1 : Int) (I : Mm)  (hI : rgM I) (h1 : r32 x1) : CI l E A yX11_cut cX11_cut 5 .int 4 91 [.ref (eA E 236), .int (i2 x1)] I (V_M_cut x1 I) := by
  intro Q v
  refine mk_met (own := RX11) (lv0 := [(0, .ref (eA E 236)), (1, .int (i2 x1))]) (by decide) rfl (Nat.le_of_ble_eq_true rfl) rfl (fun p e s m args below meth c0 B hr hk => ?_)
  unfold V_M_cut at v
  refine r_iload_n B dX11_cut_0 rfl rfl ?_
  refine r_i2l B dX11_cut_1 h1 ?_
  refine r_lconst B 0 dX11_cut_2 (by decide) ?_
  refine r_ldc2 B (999999999) dX11_cut_3 wc_X11_115 (by decide) ?_
  refine r_sI B (st := []) (as := [.long (l2 x1), .long (l2 0), .long (l2 999999999)]) (c_M_in x1 0 999999999 _ hI ((rg_64 h1)) ((show r64 (0) by exact ⟨by decide, by decide⟩)) ((show r64 (999999999) by exact ⟨by decide, by decide⟩))) v mw_M_in wl_X11_55 ⟨Nat.le_of_ble_eq_true rfl, Nat.le_of_ble_eq_true rfl⟩ rfl rfl (Nat.le_of_ble_eq_true rfl) dX11_cut_6 (fun z21 I22 hz21 hI22 v => ?_)
  refine r_if_ne B (tgt := 14) dX11_cut_9 (by decide) hz21 (fun h => ?_) (fun h => ?_)
  · have v := v.1 h
    refine r_aload_n B dX11_cut_14 rfl rfl ?_
    refine r_iload_n B dX11_cut_15 rfl rfl ?_
    refine r_i2l B dX11_cut_16 h1 ?_
    refine r_ldc2 B (1000000000) dX11_cut_17 wc_X11_207 (by decide) ?_
    refine r_cI B (st := []) (as := [.long (l2 x1), .long (l2 1000000000)]) (T := TX11) (N := 25) (c_M_dueIn x1 1000000000 _ hI22 ((rg_64 h1)) ((show r64 (1000000000) by exact ⟨by decide, by decide⟩))) v o_236 rfl mw_M_dueIn wl_X11_209 ⟨Nat.le_of_ble_eq_true rfl, Nat.le_of_ble_eq_true rfl⟩ rfl rfl (Nat.le_of_ble_eq_true rfl) dX11_cut_20 (fun z23 I24 hz23 hI24 v => ?_)
    refine r_istore_n B dX11_cut_23 rfl (by decide) (lv' := [(2, .int (i2 z23)), (0, .ref (eA E 236)), (1, .int (i2 x1))]) rfl ?_
    refine r_sub [1, 2, 0] rfl ?_
    refine r_iload_n B dX11_cut_24 rfl rfl ?_
    refine r_if_ne B (tgt := 31) dX11_cut_25 (by decide) hz23 (fun h => ?_) (fun h => ?_)
    · have v := v.1 h
      refine r_aload_n B dX11_cut_31 rfl rfl ?_
      refine r_cV B (st := []) (as := []) (T := TX11) (N := 25) (c_M_keepsAct _ hI24 ) v o_236 rfl mw_M_keepsAct wl_X11_117 ⟨Nat.le_of_ble_eq_true rfl, Nat.le_of_ble_eq_true rfl⟩ rfl rfl (Nat.le_of_ble_eq_true rfl) dX11_cut_32 (fun I25 hI25 v => ?_)
      refine r_aload_n B dX11_cut_35 rfl rfl ?_
      refine r_getR B (C := RX11) (T := TX11) (N := 25) o_236 0 rfl win_X11 (by decide) rfl wf_X11_7 dX11_cut_36 ?_
      refine r_iconst B dX11_cut_39 ?_
      refine r_ald B a_237 (by decide) (by decide) dX11_cut_40 ?_
      refine r_iload_n B dX11_cut_41 rfl rfl ?_
      refine r_isub B dX11_cut_42 ?_
      refine r_istore_n B dX11_cut_43 rfl (by decide) (lv' := [(3, .int (i2 (I25 237 0 - z23))), (0, .ref (eA E 236)), (1, .int (i2 x1)), (2, .int (i2 z23))]) rfl ?_
      refine r_sub [1, 2, 3, 0] rfl ?_
      refine r_iconst B dX11_cut_44 ?_
      refine r_istore B dX11_cut_45 (by decide) (lv' := [(4, .int (i2 0)), (0, .ref (eA E 236)), (1, .int (i2 x1)), (2, .int (i2 z23)), (3, .int (i2 (I25 237 0 - z23)))]) rfl ?_
      refine r_sub [1, 2, 3, 4, 0] rfl ?_
      obtain ⟨h30, v⟩ := v
      obtain ⟨f31, v⟩ := v
      refine r_sub [0, 2, 3, 4] rfl ?_
      exact wL_M_cut_47 B hr hk h1 hz23 h30 f31 0 I25 hI25 ((rg_lit (by decide) (by decide))) v
    · have v := v.2 h
      refine r_bipush B dX11_cut_28 (by decide) ?_
      exact r_iret B hr hk rfl ((rg_lit (by decide) (by decide))) hI24 v dX11_cut_30
  · have v := v.2 h
    refine r_iconst B dX11_cut_12 ?_
    exact r_iret B hr hk rfl ((rg_lit (by decide) (by decide))) hI22 v dX11_cut_13
set_option maxHeartbeats 4000000 in
set_option maxRecDepth 100000 in
theorem c_M_swap {l : Launch} {E : En} {A : Nat → Prop} (x1 : Int) (x2 : Int) (I : Mm)  (hI : rgM I) (h1 : r32 x1) (h2 : r32 x2) : CI l E A yX11_swap cX11_swap 9 .int 4 93 [.ref (eA E 236), .int (i2 x1), .int (i2 x2)] I (V_M_swap x1 x2 I) := by
  intro Q v
  refine mk_met (own := RX11) (lv0 := [(0, .ref (eA E 236)), (1, .int (i2 x1)), (2, .int (i2 x2))]) (by decide) rfl (Nat.le_of_ble_eq_true rfl) rfl (fun p e s m args below meth c0 B hr hk => ?_)
  unfold V_M_swap at v
  refine r_aload_n B dX11_swap_0 rfl rfl ?_
  refine r_iload_n B dX11_swap_1 rfl rfl ?_
  refine r_cI B (st := []) (as := [.int (i2 x1)]) (T := TX11) (N := 25) (c_M_placeOf x1 _ hI h1) v o_236 rfl mw_M_placeOf wl_X11_125 ⟨Nat.le_of_ble_eq_true rfl, Nat.le_of_ble_eq_true rfl⟩ rfl rfl (Nat.le_of_ble_eq_true rfl) dX11_swap_2 (fun z21 I22 hz21 hI22 v => ?_)
  refine r_istore_n B dX11_swap_5 rfl (by decide) (lv' := [(3, .int (i2 z21)), (0, .ref (eA E 236)), (1, .int (i2 x1)), (2, .int (i2 x2))]) rfl ?_
  refine r_sub [1, 2, 3, 0] rfl ?_
  refine r_aload_n B dX11_swap_6 rfl rfl ?_
  refine r_iload_n B dX11_swap_7 rfl rfl ?_
  refine r_cI B (st := []) (as := [.int (i2 x2)]) (T := TX11) (N := 25) (c_M_placeOf x2 _ hI22 h2) v o_236 rfl mw_M_placeOf wl_X11_125 ⟨Nat.le_of_ble_eq_true rfl, Nat.le_of_ble_eq_true rfl⟩ rfl rfl (Nat.le_of_ble_eq_true rfl) dX11_swap_8 (fun z23 I24 hz23 hI24 v => ?_)
  refine r_istore B dX11_swap_11 (by decide) (lv' := [(4, .int (i2 z23)), (0, .ref (eA E 236)), (1, .int (i2 x1)), (2, .int (i2 x2)), (3, .int (i2 z21))]) rfl ?_
  refine r_sub [1, 2, 3, 4, 0] rfl ?_
  refine r_iload_n B dX11_swap_13 rfl rfl ?_
  refine r_if_lt B (tgt := 28) dX11_swap_14 (by decide) hz21 (fun h => ?_) (fun h => ?_)
  · have v := v.1 h
    refine r_iconst B dX11_swap_28 ?_
    exact r_iret B hr hk rfl ((rg_lit (by decide) (by decide))) hI24 v dX11_swap_29
  · have v := v.2 h
    refine r_iload B dX11_swap_17 rfl ?_
    refine r_if_lt B (tgt := 28) dX11_swap_19 (by decide) hz23 (fun h => ?_) (fun h => ?_)
    · have v := v.1 h
      refine r_iconst B dX11_swap_28 ?_
      exact r_iret B hr hk rfl ((rg_lit (by decide) (by decide))) hI24 v dX11_swap_29
    · have v := v.2 h
      refine r_iload_n B dX11_swap_22 rfl rfl ?_
      refine r_iload B dX11_swap_23 rfl ?_
      refine r_icmp_ne B (tgt := 30) dX11_swap_25 (by decide) hz21 hz23 (fun h => ?_) (fun h => ?_)
      · have v := v.1 h
        refine r_aload_n B dX11_swap_30 rfl rfl ?_
        refine r_getR B (C := RX11) (T := TX11) (N := 25) o_236 0 rfl win_X11 (by decide) rfl wf_X11_7 dX11_swap_31 ?_
        refine r_sipush B dX11_swap_34 (by decide) ?_
        refine r_iload_n B dX11_swap_37 rfl rfl ?_
        refine r_iadd B dX11_swap_38 ?_
        obtain ⟨h25, v⟩ := v
        refine r_ald B a_237 (by decide) h25 dX11_swap_39 ?_
        refine r_istore B dX11_swap_40 (by decide) (lv' := [(5, .int (i2 (I24 237 (780 + z21)))), (0, .ref (eA E 236)), (1, .int (i2 x1)), (2, .int (i2 x2)), (3, .int (i2 z21)), (4, .int (i2 z23))]) rfl ?_
        refine r_sub [1, 2, 3, 4, 5, 0] rfl ?_
        refine r_aload_n B dX11_swap_42 rfl rfl ?_
        refine r_getR B (C := RX11) (T := TX11) (N := 25) o_236 0 rfl win_X11 (by decide) rfl wf_X11_7 dX11_swap_43 ?_
        refine r_sipush B dX11_swap_46 (by decide) ?_
        refine r_iload B dX11_swap_49 rfl ?_
        refine r_iadd B dX11_swap_51 ?_
        obtain ⟨h26, v⟩ := v
        refine r_ald B a_237 (by decide) h26 dX11_swap_52 ?_
        refine r_istore B dX11_swap_53 (by decide) (lv' := [(6, .int (i2 (I24 237 (780 + z23)))), (0, .ref (eA E 236)), (1, .int (i2 x1)), (2, .int (i2 x2)), (3, .int (i2 z21)), (4, .int (i2 z23)), (5, .int (i2 (I24 237 (780 + z21))))]) rfl ?_
        refine r_sub [1, 2, 3, 4, 5, 6, 0] rfl ?_
        refine r_iload B dX11_swap_55 rfl ?_
        refine r_iload B dX11_swap_57 rfl ?_
        refine r_icmp_ne B (tgt := 65) dX11_swap_59 (by decide) ((hI24 _ _)) ((hI24 _ _)) (fun h => ?_) (fun h => ?_)
        · have v := v.1 h
          refine r_aload_n B dX11_swap_65 rfl rfl ?_
          refine r_getR B (C := RX11) (T := TX11) (N := 25) o_236 0 rfl win_X11 (by decide) rfl wf_X11_7 dX11_swap_66 ?_
          refine r_sipush B dX11_swap_69 (by decide) ?_
          refine r_iload_n B dX11_swap_72 rfl rfl ?_
          refine r_iadd B dX11_swap_73 ?_
          obtain ⟨h27, v⟩ := v
          refine r_ald B a_237 (by decide) h27 dX11_swap_74 ?_
          refine r_istore B dX11_swap_75 (by decide) (lv' := [(7, .int (i2 (I24 237 (580 + z21)))), (0, .ref (eA E 236)), (1, .int (i2 x1)), (2, .int (i2 x2)), (3, .int (i2 z21)), (4, .int (i2 z23)), (5, .int (i2 (I24 237 (780 + z21)))), (6, .int (i2 (I24 237 (780 + z23))))]) rfl ?_
          refine r_sub [1, 2, 3, 4, 5, 6, 7, 0] rfl ?_
          refine r_aload_n B dX11_swap_77 rfl rfl ?_
          refine r_getR B (C := RX11) (T := TX11) (N := 25) o_236 0 rfl win_X11 (by decide) rfl wf_X11_7 dX11_swap_78 ?_
          refine r_sipush B dX11_swap_81 (by decide) ?_
          refine r_iload B dX11_swap_84 rfl ?_
          refine r_iadd B dX11_swap_86 ?_
          obtain ⟨h28, v⟩ := v
          refine r_ald B a_237 (by decide) h28 dX11_swap_87 ?_
          refine r_istore B dX11_swap_88 (by decide) (lv' := [(8, .int (i2 (I24 237 (580 + z23)))), (0, .ref (eA E 236)), (1, .int (i2 x1)), (2, .int (i2 x2)), (3, .int (i2 z21)), (4, .int (i2 z23)), (5, .int (i2 (I24 237 (780 + z21)))), (6, .int (i2 (I24 237 (780 + z23)))), (7, .int (i2 (I24 237 (580 + z21))))]) rfl ?_
          refine r_sub [1, 2, 3, 4, 5, 6, 7, 8, 0] rfl ?_
          refine r_aload_n B dX11_swap_90 rfl rfl ?_
          refine r_cV B (st := []) (as := []) (T := TX11) (N := 25) (c_M_keepsAct _ hI24 ) v o_236 rfl mw_M_keepsAct wl_X11_117 ⟨Nat.le_of_ble_eq_true rfl, Nat.le_of_ble_eq_true rfl⟩ rfl rfl (Nat.le_of_ble_eq_true rfl) dX11_swap_91 (fun I29 hI29 v => ?_)
          refine r_aload_n B dX11_swap_94 rfl rfl ?_
          refine r_iload_n B dX11_swap_95 rfl rfl ?_
          refine r_cV B (st := []) (as := [.int (i2 z21)]) (T := TX11) (N := 25) (c_M_leaves z21 _ hI29 hz21) v o_236 rfl mw_M_leaves wl_X11_97 ⟨Nat.le_of_ble_eq_true rfl, Nat.le_of_ble_eq_true rfl⟩ rfl rfl (Nat.le_of_ble_eq_true rfl) dX11_swap_96 (fun I30 hI30 v => ?_)
          refine r_aload_n B dX11_swap_99 rfl rfl ?_
          refine r_aload_n B dX11_swap_100 rfl rfl ?_
          refine r_iload_n B dX11_swap_101 rfl rfl ?_
          refine r_cI B (st := [.ref (eA E 236)]) (as := [.int (i2 x2)]) (T := TX11) (N := 25) (c_M_placeOf x2 _ hI30 h2) v o_236 rfl mw_M_placeOf wl_X11_125 ⟨Nat.le_of_ble_eq_true rfl, Nat.le_of_ble_eq_true rfl⟩ rfl rfl (Nat.le_of_ble_eq_true rfl) dX11_swap_102 (fun z31 I32 hz31 hI32 v => ?_)
          refine r_cV B (st := []) (as := [.int (i2 z31)]) (T := TX11) (N := 25) (c_M_leaves z31 _ hI32 hz31) v o_236 rfl mw_M_leaves wl_X11_97 ⟨Nat.le_of_ble_eq_true rfl, Nat.le_of_ble_eq_true rfl⟩ rfl rfl (Nat.le_of_ble_eq_true rfl) dX11_swap_105 (fun I33 hI33 v => ?_)
          refine r_aload_n B dX11_swap_108 rfl rfl ?_
          refine r_iload_n B dX11_swap_109 rfl rfl ?_
          refine r_iload B dX11_swap_110 rfl ?_
          refine r_iload B dX11_swap_112 rfl ?_
          refine r_cV B (st := []) (as := [.int (i2 x1), .int (i2 (I24 237 (580 + z21))), .int (i2 (I24 237 (780 + z23)))]) (T := TX11) (N := 25) (c_M_comes x1 (I24 237 (580 + z21)) (I24 237 (780 + z23)) _ hI33 h1 ((hI24 _ _)) ((hI24 _ _))) v o_236 rfl mw_M_comes wl_X11_76 ⟨Nat.le_of_ble_eq_true rfl, Nat.le_of_ble_eq_true rfl⟩ rfl rfl (Nat.le_of_ble_eq_true rfl) dX11_swap_114 (fun I34 hI34 v => ?_)
          refine r_aload_n B dX11_swap_117 rfl rfl ?_
          refine r_iload_n B dX11_swap_118 rfl rfl ?_
          refine r_iload B dX11_swap_119 rfl ?_
          refine r_iload B dX11_swap_121 rfl ?_
          refine r_cV B (st := []) (as := [.int (i2 x2), .int (i2 (I24 237 (580 + z23))), .int (i2 (I24 237 (780 + z21)))]) (T := TX11) (N := 25) (c_M_comes x2 (I24 237 (580 + z23)) (I24 237 (780 + z21)) _ hI34 h2 ((hI24 _ _)) ((hI24 _ _))) v o_236 rfl mw_M_comes wl_X11_76 ⟨Nat.le_of_ble_eq_true rfl, Nat.le_of_ble_eq_true rfl⟩ rfl rfl (Nat.le_of_ble_eq_true rfl) dX11_swap_123 (fun I35 hI35 v => ?_)
          refine r_iconst B dX11_swap_126 ?_
          exact r_iret B hr hk rfl ((rg_lit (by decide) (by decide))) hI35 v dX11_swap_127
        · have v := v.2 h
          refine r_bipush B dX11_swap_62 (by decide) ?_
          exact r_iret B hr hk rfl ((rg_lit (by decide) (by decide))) hI24 v dX11_swap_64
      · have v := v.2 h
        refine r_iconst B dX11_swap_28 ?_
        exact r_iret B hr hk rfl ((rg_lit (by decide) (by decide))) hI24 v dX11_swap_29
set_option maxHeartbeats 4000000 in
set_option maxRecDepth 100000 in
theorem c_M_share {l : Launch} {E : En} {A : Nat → Prop} (x1 : Int) (I : Mm)  (hI : rgM I) (h1 : r32 x1) : CI l E A yX11_share cX11_share 2 .int 1 25 [.ref (eA E 236), .int (i2 x1)] I (V_M_share x1 I) := by
  intro Q v
  refine mk_met (own := RX11) (lv0 := [(0, .ref (eA E 236)), (1, .int (i2 x1))]) (by decide) rfl (Nat.le_of_ble_eq_true rfl) rfl (fun p e s m args below meth c0 B hr hk => ?_)
  unfold V_M_share at v
  refine r_iload_n B dX11_share_0 rfl rfl ?_
  refine r_i2l B dX11_share_1 h1 ?_
  refine r_lconst B 1 dX11_share_2 (by decide) ?_
  refine r_ldc2 B (100) dX11_share_3 wc_X11_383 (by decide) ?_
  refine r_sI B (st := []) (as := [.long (l2 x1), .long (l2 1), .long (l2 100)]) (c_M_in x1 1 100 _ hI ((rg_64 h1)) ((show r64 (1) by exact ⟨by decide, by decide⟩)) ((show r64 (100) by exact ⟨by decide, by decide⟩))) v mw_M_in wl_X11_55 ⟨Nat.le_of_ble_eq_true rfl, Nat.le_of_ble_eq_true rfl⟩ rfl rfl (Nat.le_of_ble_eq_true rfl) dX11_share_6 (fun z21 I22 hz21 hI22 v => ?_)
  refine r_if_ne B (tgt := 14) dX11_share_9 (by decide) hz21 (fun h => ?_) (fun h => ?_)
  · have v := v.1 h
    refine r_aload_n B dX11_share_14 rfl rfl ?_
    refine r_getR B (C := RX11) (T := TX11) (N := 25) o_236 0 rfl win_X11 (by decide) rfl wf_X11_7 dX11_share_15 ?_
    refine r_iconst B dX11_share_18 ?_
    refine r_ald B a_237 (by decide) (by decide) dX11_share_19 ?_
    refine r_if_ne B (tgt := 28) dX11_share_20 (by decide) ((hI22 _ _)) (fun h => ?_) (fun h => ?_)
    · have v := v.1 h
      refine r_aload_n B dX11_share_28 rfl rfl ?_
      refine r_getR B (C := RX11) (T := TX11) (N := 25) o_236 0 rfl win_X11 (by decide) rfl wf_X11_7 dX11_share_29 ?_
      refine r_sipush B dX11_share_32 (by decide) ?_
      refine r_aload_n B dX11_share_35 rfl rfl ?_
      refine r_getR B (C := RX11) (T := TX11) (N := 25) o_236 0 rfl win_X11 (by decide) rfl wf_X11_7 dX11_share_36 ?_
      refine r_iconst B dX11_share_39 ?_
      refine r_ald B a_237 (by decide) (by decide) dX11_share_40 ?_
      refine r_iload_n B dX11_share_41 rfl rfl ?_
      refine r_imul B dX11_share_42 ?_
      refine r_bipush B dX11_share_43 (by decide) ?_
      refine r_iadd B dX11_share_45 ?_
      refine r_bipush B dX11_share_46 (by decide) ?_
      obtain ⟨h23, v⟩ := v
      obtain ⟨h24, v⟩ := v
      refine r_idiv B dX11_share_48 h23 ((rg_lit (by decide) (by decide))) (show 0 ≤ ((I22 237 0 * x1) + 99) ∧ (0 : Int) < 100 from ⟨h24, by decide⟩) ?_
      refine r_iadd B dX11_share_49 ?_
      refine r_iconst B dX11_share_50 ?_
      refine r_isub B dX11_share_51 ?_
      obtain ⟨h25, v⟩ := v
      refine r_ald B a_237 (by decide) h25 dX11_share_52 ?_
      exact r_iret B hr hk rfl ((hI22 _ _)) hI22 v dX11_share_53
    · have v := v.2 h
      refine r_bipush B dX11_share_23 (by decide) ?_
      refine r_goto B (tgt := 53) dX11_share_25 (by decide) ?_
      exact r_iret B hr hk rfl ((rg_lit (by decide) (by decide))) hI22 v dX11_share_53
  · have v := v.2 h
    refine r_iconst B dX11_share_12 ?_
    exact r_iret B hr hk rfl ((rg_lit (by decide) (by decide))) hI22 v dX11_share_13
set_option maxHeartbeats 4000000 in
set_option maxRecDepth 100000 in
theorem wL_M_bestRows_29 {p : Program} {l : Launch} {e : Env} {s : State} {m : MethodId} {args : Array Value} {below : List Frame} {meth : Method} {c0 : Code} {E : En} {A : Nat → Prop} {x1 : Int} {x2 : Int} {Q : Int → Mm → Prop}  (B : Bd p (rmm 2 49) s m args c0 cX11_bestRows 5 RX11 E A 0 0) (hr : meth.sig.returnType = some .int) (hk : meth.locks = false) (h1 : r32 x1) (h2 : r32 x2)   : ∀ (n : Nat) (x3 : Int) (x4 : Int) (I : Mm), rgM I → r32 x3 → r32 x4 → L_M_bestRows_29 x1 x2 Q n x3 x4 I → WI p l e (rmm 2 49) s m args below meth c0 E A 5 0 0 (qI below E A args s Q) I 29 [(0, .ref (eA E 236)), (1, .int (i2 x1)), (2, .int (i2 x2)), (3, .int (i2 x3)), (4, .int (i2 x4))] [] := by
  intro n
  induction n with
  | zero => intro x3 x4 I _ _ _ v; exact absurd v id
  | succ n ih =>
    intro x3 x4 I hI h3 h4 v
    unfold L_M_bestRows_29 at v
    refine r_iload B dX11_bestRows_29 rfl ?_
    refine r_bipush B dX11_bestRows_31 (by decide) ?_
    refine r_icmp_gt B (tgt := 64) dX11_bestRows_33 (by decide) h4 ((rg_lit (by decide) (by decide))) (fun h => ?_) (fun h => ?_)
    · have v := v.1 h
      refine r_iload_n B dX11_bestRows_64 rfl rfl ?_
      refine r_if_ne B (tgt := 72) dX11_bestRows_65 (by decide) h2 (fun h => ?_) (fun h => ?_)
      · have v := v.1 h
        refine r_aload_n B dX11_bestRows_72 rfl rfl ?_
        refine r_iload_n B dX11_bestRows_73 rfl rfl ?_
        refine r_iload_n B dX11_bestRows_74 rfl rfl ?_
        refine r_cI B (st := []) (as := [.int (i2 x3), .int (i2 x1)]) (T := TX11) (N := 25) (c_M_looksBy x3 x1 _ hI h3 h1) v o_236 rfl mw_M_looksBy wl_X11_194 ⟨Nat.le_of_ble_eq_true rfl, Nat.le_of_ble_eq_true rfl⟩ rfl rfl (Nat.le_of_ble_eq_true rfl) dX11_bestRows_75 (fun z25 I26 hz25 hI26 v => ?_)
        exact r_iret B hr hk rfl hz25 hI26 v dX11_bestRows_78
      · have v := v.2 h
        refine r_iload_n B dX11_bestRows_68 rfl rfl ?_
        refine r_goto B (tgt := 78) dX11_bestRows_69 (by decide) ?_
        exact r_iret B hr hk rfl h3 hI v dX11_bestRows_78
    · have v := v.2 h
      refine r_aload_n B dX11_bestRows_36 rfl rfl ?_
      refine r_iload B dX11_bestRows_37 rfl ?_
      refine r_iload_n B dX11_bestRows_39 rfl rfl ?_
      refine r_cI B (st := []) (as := [.int (i2 x4), .int (i2 x1)]) (T := TX11) (N := 25) (c_M_looksBy x4 x1 _ hI h4 h1) v o_236 rfl mw_M_looksBy wl_X11_194 ⟨Nat.le_of_ble_eq_true rfl, Nat.le_of_ble_eq_true rfl⟩ rfl rfl (Nat.le_of_ble_eq_true rfl) dX11_bestRows_40 (fun z27 I28 hz27 hI28 v => ?_)
      refine r_aload_n B dX11_bestRows_43 rfl rfl ?_
      refine r_iload_n B dX11_bestRows_44 rfl rfl ?_
      refine r_iload_n B dX11_bestRows_45 rfl rfl ?_
      refine r_cI B (st := [.int (i2 z27)]) (as := [.int (i2 x3), .int (i2 x1)]) (T := TX11) (N := 25) (c_M_looksBy x3 x1 _ hI28 h3 h1) v o_236 rfl mw_M_looksBy wl_X11_194 ⟨Nat.le_of_ble_eq_true rfl, Nat.le_of_ble_eq_true rfl⟩ rfl rfl (Nat.le_of_ble_eq_true rfl) dX11_bestRows_46 (fun z29 I30 hz29 hI30 v => ?_)
      refine r_icmp_ge B (tgt := 55) dX11_bestRows_49 (by decide) hz27 hz29 (fun h => ?_) (fun h => ?_)
      · have v := v.1 h
        refine r_iload B dX11_bestRows_55 rfl ?_
        refine r_iconst B dX11_bestRows_57 ?_
        refine r_imul B dX11_bestRows_58 ?_
        refine r_istore B dX11_bestRows_59 (by decide) (lv' := [(4, .int (i2 (x4 * 2))), (0, .ref (eA E 236)), (1, .int (i2 x1)), (2, .int (i2 x2)), (3, .int (i2 x3))]) rfl ?_
        refine r_sub [1, 2, 3, 4, 0] rfl ?_
        refine r_goto B (tgt := 29) dX11_bestRows_61 (by decide) ?_
        obtain ⟨h31, v⟩ := v
        refine r_sub [0, 1, 2, 3, 4] rfl ?_
        exact ih x3 (x4 * 2) _ hI30 h3 h31 v
      · have v := v.2 h
        refine r_iload B dX11_bestRows_52 rfl ?_
        refine r_istore_n B dX11_bestRows_54 rfl (by decide) (lv' := [(3, .int (i2 x4)), (0, .ref (eA E 236)), (1, .int (i2 x1)), (2, .int (i2 x2)), (4, .int (i2 x4))]) rfl ?_
        refine r_sub [1, 2, 3, 0, 4] rfl ?_
        refine r_iload B dX11_bestRows_55 rfl ?_
        refine r_iconst B dX11_bestRows_57 ?_
        refine r_imul B dX11_bestRows_58 ?_
        refine r_istore B dX11_bestRows_59 (by decide) (lv' := [(4, .int (i2 (x4 * 2))), (0, .ref (eA E 236)), (1, .int (i2 x1)), (2, .int (i2 x2)), (3, .int (i2 x4))]) rfl ?_
        refine r_sub [1, 2, 3, 4, 0] rfl ?_
        refine r_goto B (tgt := 29) dX11_bestRows_61 (by decide) ?_
        obtain ⟨h32, v⟩ := v
        refine r_sub [0, 1, 2, 3, 4] rfl ?_
        exact ih x4 (x4 * 2) _ hI30 h4 h32 v
set_option maxHeartbeats 4000000 in
set_option maxRecDepth 100000 in
theorem c_M_bestRows {l : Launch} {E : En} {A : Nat → Prop} (x1 : Int) (x2 : Int) (I : Mm)  (hI : rgM I) (h1 : r32 x1) (h2 : r32 x2) : CI l E A yX11_bestRows cX11_bestRows 5 .int 2 49 [.ref (eA E 236), .int (i2 x1), .int (i2 x2)] I (V_M_bestRows x1 x2 I) := by
  intro Q v
  refine mk_met (own := RX11) (lv0 := [(0, .ref (eA E 236)), (1, .int (i2 x1)), (2, .int (i2 x2))]) (by decide) rfl (Nat.le_of_ble_eq_true rfl) rfl (fun p e s m args below meth c0 B hr hk => ?_)
  unfold V_M_bestRows at v
  refine r_iload_n B dX11_bestRows_0 rfl rfl ?_
  refine r_i2l B dX11_bestRows_1 h1 ?_
  refine r_lconst B 1 dX11_bestRows_2 (by decide) ?_
  refine r_ldc2 B (99999999) dX11_bestRows_3 wc_X11_63 (by decide) ?_
  refine r_sI B (st := []) (as := [.long (l2 x1), .long (l2 1), .long (l2 99999999)]) (c_M_in x1 1 99999999 _ hI ((rg_64 h1)) ((show r64 (1) by exact ⟨by decide, by decide⟩)) ((show r64 (99999999) by exact ⟨by decide, by decide⟩))) v mw_M_in wl_X11_55 ⟨Nat.le_of_ble_eq_true rfl, Nat.le_of_ble_eq_true rfl⟩ rfl rfl (Nat.le_of_ble_eq_true rfl) dX11_bestRows_6 (fun z21 I22 hz21 hI22 v => ?_)
  refine r_if_eq B (tgt := 22) dX11_bestRows_9 (by decide) hz21 (fun h => ?_) (fun h => ?_)
  · have v := v.1 h
    refine r_iconst B dX11_bestRows_22 ?_
    exact r_iret B hr hk rfl ((rg_lit (by decide) (by decide))) hI22 v dX11_bestRows_23
  · have v := v.2 h
    refine r_iload_n B dX11_bestRows_12 rfl rfl ?_
    refine r_i2l B dX11_bestRows_13 h2 ?_
    refine r_lconst B 0 dX11_bestRows_14 (by decide) ?_
    refine r_lconst B 1 dX11_bestRows_15 (by decide) ?_
    refine r_sI B (st := []) (as := [.long (l2 x2), .long (l2 0), .long (l2 1)]) (c_M_in x2 0 1 _ hI22 ((rg_64 h2)) ((show r64 (0) by exact ⟨by decide, by decide⟩)) ((show r64 (1) by exact ⟨by decide, by decide⟩))) v mw_M_in wl_X11_55 ⟨Nat.le_of_ble_eq_true rfl, Nat.le_of_ble_eq_true rfl⟩ rfl rfl (Nat.le_of_ble_eq_true rfl) dX11_bestRows_16 (fun z23 I24 hz23 hI24 v => ?_)
    refine r_if_ne B (tgt := 24) dX11_bestRows_19 (by decide) hz23 (fun h => ?_) (fun h => ?_)
    · have v := v.1 h
      refine r_iconst B dX11_bestRows_24 ?_
      refine r_istore_n B dX11_bestRows_25 rfl (by decide) (lv' := [(3, .int (i2 2)), (0, .ref (eA E 236)), (1, .int (i2 x1)), (2, .int (i2 x2))]) rfl ?_
      refine r_sub [1, 2, 3, 0] rfl ?_
      refine r_iconst B dX11_bestRows_26 ?_
      refine r_istore B dX11_bestRows_27 (by decide) (lv' := [(4, .int (i2 4)), (0, .ref (eA E 236)), (1, .int (i2 x1)), (2, .int (i2 x2)), (3, .int (i2 2))]) rfl ?_
      refine r_sub [1, 2, 3, 4, 0] rfl ?_
      obtain ⟨f33, v⟩ := v
      refine r_sub [0, 1, 2, 3, 4] rfl ?_
      exact wL_M_bestRows_29 B hr hk h1 h2 f33 2 4 I24 hI24 ((rg_lit (by decide) (by decide))) ((rg_lit (by decide) (by decide))) v
    · have v := v.2 h
      refine r_iconst B dX11_bestRows_22 ?_
      exact r_iret B hr hk rfl ((rg_lit (by decide) (by decide))) hI24 v dX11_bestRows_23
set_option maxHeartbeats 4000000 in
set_option maxRecDepth 100000 in
theorem wL_M_skewBy_36 {p : Program} {l : Launch} {e : Env} {s : State} {m : MethodId} {args : Array Value} {below : List Frame} {meth : Method} {c0 : Code} {E : En} {A : Nat → Prop} {x1 : Int} {x2 : Int} {x3 : Int} {Q : Int → Mm → Prop} {K56 : Mm → Prop} (B : Bd p (rmm 1 25) s m args c0 cX11_skewBy 7 RX11 E A 0 0) (hr : meth.sig.returnType = some .int) (hk : meth.locks = false) (h1 : r32 x1) (h2 : r32 x2) (h3 : r32 x3)  (k56 : ∀ (I : Mm), rgM I → K56 I → WI p l e (rmm 1 25) s m args below meth c0 E A 7 0 0 (qI below E A args s Q) I 56 [(0, .ref (eA E 236)), (1, .int (i2 x1)), (2, .int (i2 x2)), (3, .int (i2 x3))] []) : ∀ (n : Nat) (x4 : Int) (I : Mm), rgM I → r32 x4 → L_M_skewBy_36 x1 x2 x3 Q K56 n x4 I → WI p l e (rmm 1 25) s m args below meth c0 E A 7 0 0 (qI below E A args s Q) I 36 [(0, .ref (eA E 236)), (1, .int (i2 x1)), (2, .int (i2 x2)), (3, .int (i2 x3)), (4, .int (i2 x4))] [] := by
  intro n
  induction n with
  | zero => intro x4 I _ _ v; exact absurd v id
  | succ n ih =>
    intro x4 I hI h4 v
    unfold L_M_skewBy_36 at v
    refine r_iload B dX11_skewBy_36 rfl ?_
    refine r_iload_n B dX11_skewBy_38 rfl rfl ?_
    refine r_icmp_ge B (tgt := 56) dX11_skewBy_39 (by decide) h4 h1 (fun h => ?_) (fun h => ?_)
    · have v := v.1 h
      refine r_sub [0, 1, 2, 3] rfl ?_
      exact k56 _ hI v
    · have v := v.2 h
      refine r_aload_n B dX11_skewBy_42 rfl rfl ?_
      refine r_getR B (C := RX11) (T := TX11) (N := 25) o_236 22 rfl win_X11 (by decide) rfl wf_X11_42 dX11_skewBy_43 ?_
      refine r_iload B dX11_skewBy_46 rfl ?_
      refine r_iconst B dX11_skewBy_48 ?_
      obtain ⟨h27, v⟩ := v
      refine r_ast B a_247 (by decide) h27 dX11_skewBy_49 ?_
      have hI28 : rgM (wrM I 247 x4 0) := rg_wr hI ((rg_lit (by decide) (by decide)))
      refine r_iinc B (q := 4) dX11_skewBy_50 (by decide) rfl (lv' := [(4, .int (i2 (x4 + 1))), (0, .ref (eA E 236)), (1, .int (i2 x1)), (2, .int (i2 x2)), (3, .int (i2 x3))]) rfl ?_
      refine r_sub [1, 2, 3, 4, 0] rfl ?_
      refine r_goto B (tgt := 36) dX11_skewBy_53 (by decide) ?_
      obtain ⟨h29, v⟩ := v
      refine r_sub [0, 1, 2, 3, 4] rfl ?_
      exact ih (x4 + 1) _ hI28 h29 v
set_option maxHeartbeats 4000000 in
set_option maxRecDepth 100000 in
theorem wL_M_skewBy_59 {p : Program} {l : Launch} {e : Env} {s : State} {m : MethodId} {args : Array Value} {below : List Frame} {meth : Method} {c0 : Code} {E : En} {A : Nat → Prop} {x1 : Int} {x2 : Int} {x3 : Int} {Q : Int → Mm → Prop} {K100 : Mm → Prop} (B : Bd p (rmm 1 25) s m args c0 cX11_skewBy 7 RX11 E A 0 0) (hr : meth.sig.returnType = some .int) (hk : meth.locks = false) (h1 : r32 x1) (h2 : r32 x2) (h3 : r32 x3)  (k100 : ∀ (I : Mm), rgM I → K100 I → WI p l e (rmm 1 25) s m args below meth c0 E A 7 0 0 (qI below E A args s Q) I 100 [(0, .ref (eA E 236)), (1, .int (i2 x1)), (3, .int (i2 x3))] []) : ∀ (n : Nat) (x4 : Int) (I : Mm), rgM I → r32 x4 → L_M_skewBy_59 x1 x2 x3 Q K100 n x4 I → WI p l e (rmm 1 25) s m args below meth c0 E A 7 0 0 (qI below E A args s Q) I 59 [(0, .ref (eA E 236)), (1, .int (i2 x1)), (2, .int (i2 x2)), (3, .int (i2 x3)), (4, .int (i2 x4))] [] := by
  intro n
  induction n with
  | zero => intro x4 I _ _ v; exact absurd v id
  | succ n ih =>
    intro x4 I hI h4 v
    unfold L_M_skewBy_59 at v
    refine r_iload B dX11_skewBy_59 rfl ?_
    refine r_aload_n B dX11_skewBy_61 rfl rfl ?_
    refine r_getR B (C := RX11) (T := TX11) (N := 25) o_236 0 rfl win_X11 (by decide) rfl wf_X11_7 dX11_skewBy_62 ?_
    refine r_iconst B dX11_skewBy_65 ?_
    refine r_ald B a_237 (by decide) (by decide) dX11_skewBy_66 ?_
    refine r_icmp_ge B (tgt := 100) dX11_skewBy_67 (by decide) h4 ((hI _ _)) (fun h => ?_) (fun h => ?_)
    · have v := v.1 h
      refine r_sub [0, 1, 3] rfl ?_
      exact k100 _ hI v
    · have v := v.2 h
      refine r_aload_n B dX11_skewBy_70 rfl rfl ?_
      refine r_getR B (C := RX11) (T := TX11) (N := 25) o_236 22 rfl win_X11 (by decide) rfl wf_X11_42 dX11_skewBy_71 ?_
      refine r_aload_n B dX11_skewBy_74 rfl rfl ?_
      refine r_getR B (C := RX11) (T := TX11) (N := 25) o_236 0 rfl win_X11 (by decide) rfl wf_X11_7 dX11_skewBy_75 ?_
      refine r_sipush B dX11_skewBy_78 (by decide) ?_
      refine r_iload B dX11_skewBy_81 rfl ?_
      refine r_iadd B dX11_skewBy_83 ?_
      obtain ⟨h31, v⟩ := v
      refine r_ald B a_237 (by decide) h31 dX11_skewBy_84 ?_
      refine r_iload_n B dX11_skewBy_85 rfl rfl ?_
      obtain ⟨h32, v⟩ := v
      refine r_idiv B dX11_skewBy_86 ((hI _ _)) h2 h32 ?_
      refine r_iload_n B dX11_skewBy_87 rfl rfl ?_
      obtain ⟨h33, v⟩ := v
      refine r_irem B dX11_skewBy_88 ((rg_div ((hI _ _)) h32.1 h32.2)) h1 h33 ?_
      refine r_dup2 B dX11_skewBy_89 rfl rfl ?_
      obtain ⟨h34, v⟩ := v
      refine r_ald B a_247 (by decide) h34 dX11_skewBy_90 ?_
      refine r_iconst B dX11_skewBy_91 ?_
      refine r_iadd B dX11_skewBy_92 ?_
      obtain ⟨h35, v⟩ := v
      obtain ⟨h36, v⟩ := v
      refine r_ast B a_247 (by decide) h35 dX11_skewBy_93 ?_
      have hI37 : rgM (wrM I 247 ((I 237 (780 + x4) / x2) % x1) (I 247 ((I 237 (780 + x4) / x2) % x1) + 1)) := rg_wr hI h36
      refine r_iinc B (q := 4) dX11_skewBy_94 (by decide) rfl (lv' := [(4, .int (i2 (x4 + 1))), (0, .ref (eA E 236)), (1, .int (i2 x1)), (2, .int (i2 x2)), (3, .int (i2 x3))]) rfl ?_
      refine r_sub [1, 2, 3, 4, 0] rfl ?_
      refine r_goto B (tgt := 59) dX11_skewBy_97 (by decide) ?_
      obtain ⟨h38, v⟩ := v
      refine r_sub [0, 1, 2, 3, 4] rfl ?_
      exact ih (x4 + 1) _ hI37 h38 v
set_option maxHeartbeats 4000000 in
set_option maxRecDepth 100000 in
theorem wJ_M_skewBy_139 {p : Program} {l : Launch} {e : Env} {s : State} {m : MethodId} {args : Array Value} {below : List Frame} {meth : Method} {c0 : Code} {E : En} {A : Nat → Prop} {x1 : Int} {x2 : Int} {x3 : Int} {Q : Int → Mm → Prop} {K109 : Int → Int → Int → Mm → Prop} (B : Bd p (rmm 1 25) s m args c0 cX11_skewBy 7 RX11 E A 0 0) (hr : meth.sig.returnType = some .int) (hk : meth.locks = false) (h1 : r32 x1) (h2 : r32 x2) (h3 : r32 x3)  (k109 : ∀ (x4 : Int) (x5 : Int) (x6 : Int) (I : Mm), rgM I → r32 x4 → r32 x5 → r32 x6 → K109 x4 x5 x6 I → WI p l e (rmm 1 25) s m args below meth c0 E A 7 0 0 (qI below E A args s Q) I 109 [(0, .ref (eA E 236)), (1, .int (i2 x1)), (3, .int (i2 x3)), (4, .int (i2 x4)), (5, .int (i2 x5)), (6, .int (i2 x6))] []) : ∀ (x5 : Int) (x6 : Int) (t0 : Int) (I : Mm), rgM I → r32 x5 → r32 x6 → r32 t0 → J_M_skewBy_139 x1 x2 x3 Q K109 x5 x6 t0 I → WI p l e (rmm 1 25) s m args below meth c0 E A 7 0 0 (qI below E A args s Q) I 139 [(0, .ref (eA E 236)), (1, .int (i2 x1)), (3, .int (i2 x3)), (5, .int (i2 x5)), (6, .int (i2 x6))] [.int (i2 t0)] := by
  intro x5 x6 t0 I hI h5 h6 ht0 v
  unfold J_M_skewBy_139 at v
  refine r_istore B dX11_skewBy_139 (by decide) (lv' := [(4, .int (i2 t0)), (0, .ref (eA E 236)), (1, .int (i2 x1)), (3, .int (i2 x3)), (5, .int (i2 x5)), (6, .int (i2 x6))]) rfl ?_
  refine r_sub [1, 2, 3, 0, 4, 5] rfl ?_
  refine r_iload B dX11_skewBy_141 rfl ?_
  refine r_aload_n B dX11_skewBy_143 rfl rfl ?_
  refine r_getR B (C := RX11) (T := TX11) (N := 25) o_236 22 rfl win_X11 (by decide) rfl wf_X11_42 dX11_skewBy_144 ?_
  refine r_iload B dX11_skewBy_147 rfl ?_
  obtain ⟨h42, v⟩ := v
  refine r_ald B a_247 (by decide) h42 dX11_skewBy_149 ?_
  refine r_if_ne B (tgt := 157) dX11_skewBy_150 (by decide) ((hI _ _)) (fun h => ?_) (fun h => ?_)
  · have v := v.1 h
    refine r_iconst B dX11_skewBy_157 ?_
    refine r_iadd B dX11_skewBy_158 ?_
    refine r_istore B dX11_skewBy_159 (by decide) (lv' := [(5, .int (i2 (x5 + 0))), (0, .ref (eA E 236)), (1, .int (i2 x1)), (3, .int (i2 x3)), (4, .int (i2 t0)), (6, .int (i2 x6))]) rfl ?_
    refine r_sub [1, 2, 3, 4, 0, 5] rfl ?_
    refine r_iinc B (q := 5) dX11_skewBy_161 (by decide) rfl (lv' := [(6, .int (i2 (x6 + 1))), (0, .ref (eA E 236)), (1, .int (i2 x1)), (3, .int (i2 x3)), (4, .int (i2 t0)), (5, .int (i2 (x5 + 0)))]) rfl ?_
    refine r_sub [1, 2, 3, 4, 5, 0] rfl ?_
    refine r_goto B (tgt := 109) dX11_skewBy_164 (by decide) ?_
    obtain ⟨h43, v⟩ := v
    obtain ⟨h44, v⟩ := v
    refine r_sub [0, 1, 2, 3, 4, 5] rfl ?_
    exact k109 t0 (x5 + 0) (x6 + 1) _ hI ht0 h43 h44 v
  · have v := v.2 h
    refine r_iconst B dX11_skewBy_153 ?_
    refine r_goto B (tgt := 158) dX11_skewBy_154 (by decide) ?_
    refine r_iadd B dX11_skewBy_158 ?_
    refine r_istore B dX11_skewBy_159 (by decide) (lv' := [(5, .int (i2 (x5 + 1))), (0, .ref (eA E 236)), (1, .int (i2 x1)), (3, .int (i2 x3)), (4, .int (i2 t0)), (6, .int (i2 x6))]) rfl ?_
    refine r_sub [1, 2, 3, 4, 0, 5] rfl ?_
    refine r_iinc B (q := 5) dX11_skewBy_161 (by decide) rfl (lv' := [(6, .int (i2 (x6 + 1))), (0, .ref (eA E 236)), (1, .int (i2 x1)), (3, .int (i2 x3)), (4, .int (i2 t0)), (5, .int (i2 (x5 + 1)))]) rfl ?_
    refine r_sub [1, 2, 3, 4, 5, 0] rfl ?_
    refine r_goto B (tgt := 109) dX11_skewBy_164 (by decide) ?_
    obtain ⟨h45, v⟩ := v
    obtain ⟨h46, v⟩ := v
    refine r_sub [0, 1, 2, 3, 4, 5] rfl ?_
    exact k109 t0 (x5 + 1) (x6 + 1) _ hI ht0 h45 h46 v
set_option maxHeartbeats 4000000 in
set_option maxRecDepth 100000 in
theorem wL_M_skewBy_109 {p : Program} {l : Launch} {e : Env} {s : State} {m : MethodId} {args : Array Value} {below : List Frame} {meth : Method} {c0 : Code} {E : En} {A : Nat → Prop} {x1 : Int} {x2 : Int} {x3 : Int} {Q : Int → Mm → Prop} {K167 : Int → Int → Mm → Prop} (B : Bd p (rmm 1 25) s m args c0 cX11_skewBy 7 RX11 E A 0 0) (hr : meth.sig.returnType = some .int) (hk : meth.locks = false) (h1 : r32 x1) (h2 : r32 x2) (h3 : r32 x3)  (k167 : ∀ (x4 : Int) (x5 : Int) (I : Mm), rgM I → r32 x4 → r32 x5 → K167 x4 x5 I → WI p l e (rmm 1 25) s m args below meth c0 E A 7 0 0 (qI below E A args s Q) I 167 [(0, .ref (eA E 236)), (3, .int (i2 x3)), (4, .int (i2 x4)), (5, .int (i2 x5))] []) : ∀ (n : Nat) (x4 : Int) (x5 : Int) (x6 : Int) (I : Mm), rgM I → r32 x4 → r32 x5 → r32 x6 → L_M_skewBy_109 x1 x2 x3 Q K167 n x4 x5 x6 I → WI p l e (rmm 1 25) s m args below meth c0 E A 7 0 0 (qI below E A args s Q) I 109 [(0, .ref (eA E 236)), (1, .int (i2 x1)), (3, .int (i2 x3)), (4, .int (i2 x4)), (5, .int (i2 x5)), (6, .int (i2 x6))] [] := by
  intro n
  induction n with
  | zero => intro x4 x5 x6 I _ _ _ _ v; exact absurd v id
  | succ n ih =>
    intro x4 x5 x6 I hI h4 h5 h6 v
    unfold L_M_skewBy_109 at v
    refine r_iload B dX11_skewBy_109 rfl ?_
    refine r_iload_n B dX11_skewBy_111 rfl rfl ?_
    refine r_icmp_ge B (tgt := 167) dX11_skewBy_112 (by decide) h6 h1 (fun h => ?_) (fun h => ?_)
    · have v := v.1 h
      refine r_sub [0, 2, 3, 4] rfl ?_
      exact k167 x4 x5 _ hI h4 h5 v
    · have v := v.2 h
      refine r_aload_n B dX11_skewBy_115 rfl rfl ?_
      refine r_getR B (C := RX11) (T := TX11) (N := 25) o_236 22 rfl win_X11 (by decide) rfl wf_X11_42 dX11_skewBy_116 ?_
      refine r_iload B dX11_skewBy_119 rfl ?_
      obtain ⟨h40, v⟩ := v
      refine r_ald B a_247 (by decide) h40 dX11_skewBy_121 ?_
      refine r_aload_n B dX11_skewBy_122 rfl rfl ?_
      refine r_getR B (C := RX11) (T := TX11) (N := 25) o_236 22 rfl win_X11 (by decide) rfl wf_X11_42 dX11_skewBy_123 ?_
      refine r_iload B dX11_skewBy_126 rfl ?_
      obtain ⟨h41, v⟩ := v
      refine r_ald B a_247 (by decide) h41 dX11_skewBy_128 ?_
      refine r_icmp_le B (tgt := 137) dX11_skewBy_129 (by decide) ((hI _ _)) ((hI _ _)) (fun h => ?_) (fun h => ?_)
      · have v := v.1 h
        refine r_iload B dX11_skewBy_137 rfl ?_
        refine r_sub [0, 1, 2, 4, 5] rfl ?_
        exact wJ_M_skewBy_139 B hr hk h1 h2 h3 ih x5 x6 x4 I hI h5 h6 h4 v
      · have v := v.2 h
        refine r_iload B dX11_skewBy_132 rfl ?_
        refine r_goto B (tgt := 139) dX11_skewBy_134 (by decide) ?_
        refine r_sub [0, 1, 2, 4, 5] rfl ?_
        exact wJ_M_skewBy_139 B hr hk h1 h2 h3 ih x5 x6 x6 I hI h5 h6 h6 v
set_option maxHeartbeats 4000000 in
set_option maxRecDepth 100000 in
theorem c_M_skewBy {l : Launch} {E : En} {A : Nat → Prop} (x1 : Int) (x2 : Int) (x3 : Int) (I : Mm)  (hI : rgM I) (h1 : r32 x1) (h2 : r32 x2) (h3 : r32 x3) : CI l E A yX11_skewBy cX11_skewBy 7 .int 1 25 [.ref (eA E 236), .int (i2 x1), .int (i2 x2), .int (i2 x3)] I (V_M_skewBy x1 x2 x3 I) := by
  intro Q v
  refine mk_met (own := RX11) (lv0 := [(0, .ref (eA E 236)), (1, .int (i2 x1)), (2, .int (i2 x2)), (3, .int (i2 x3))]) (by decide) rfl (Nat.le_of_ble_eq_true rfl) rfl (fun p e s m args below meth c0 B hr hk => ?_)
  unfold V_M_skewBy at v
  refine r_iload_n B dX11_skewBy_0 rfl rfl ?_
  refine r_sI B (st := []) (as := [.int (i2 x1)]) (c_M_areRows x1 _ hI h1) v mw_M_areRows wl_X11_149 ⟨Nat.le_of_ble_eq_true rfl, Nat.le_of_ble_eq_true rfl⟩ rfl rfl (Nat.le_of_ble_eq_true rfl) dX11_skewBy_1 (fun z21 I22 hz21 hI22 v => ?_)
  refine r_if_eq B (tgt := 31) dX11_skewBy_4 (by decide) hz21 (fun h => ?_) (fun h => ?_)
  · have v := v.1 h
    refine r_iconst B dX11_skewBy_31 ?_
    exact r_iret B hr hk rfl ((rg_lit (by decide) (by decide))) hI22 v dX11_skewBy_32
  · have v := v.2 h
    refine r_iload_n B dX11_skewBy_7 rfl rfl ?_
    refine r_i2l B dX11_skewBy_8 h2 ?_
    refine r_lconst B 1 dX11_skewBy_9 (by decide) ?_
    refine r_ldc2 B (99999999) dX11_skewBy_10 wc_X11_63 (by decide) ?_
    refine r_sI B (st := []) (as := [.long (l2 x2), .long (l2 1), .long (l2 99999999)]) (c_M_in x2 1 99999999 _ hI22 ((rg_64 h2)) ((show r64 (1) by exact ⟨by decide, by decide⟩)) ((show r64 (99999999) by exact ⟨by decide, by decide⟩))) v mw_M_in wl_X11_55 ⟨Nat.le_of_ble_eq_true rfl, Nat.le_of_ble_eq_true rfl⟩ rfl rfl (Nat.le_of_ble_eq_true rfl) dX11_skewBy_13 (fun z23 I24 hz23 hI24 v => ?_)
    refine r_if_eq B (tgt := 31) dX11_skewBy_16 (by decide) hz23 (fun h => ?_) (fun h => ?_)
    · have v := v.1 h
      refine r_iconst B dX11_skewBy_31 ?_
      exact r_iret B hr hk rfl ((rg_lit (by decide) (by decide))) hI24 v dX11_skewBy_32
    · have v := v.2 h
      refine r_iload_n B dX11_skewBy_19 rfl rfl ?_
      refine r_i2l B dX11_skewBy_20 h3 ?_
      refine r_lconst B 0 dX11_skewBy_21 (by decide) ?_
      refine r_ldc2 B (2) dX11_skewBy_22 wc_X11_59 (by decide) ?_
      refine r_sI B (st := []) (as := [.long (l2 x3), .long (l2 0), .long (l2 2)]) (c_M_in x3 0 2 _ hI24 ((rg_64 h3)) ((show r64 (0) by exact ⟨by decide, by decide⟩)) ((show r64 (2) by exact ⟨by decide, by decide⟩))) v mw_M_in wl_X11_55 ⟨Nat.le_of_ble_eq_true rfl, Nat.le_of_ble_eq_true rfl⟩ rfl rfl (Nat.le_of_ble_eq_true rfl) dX11_skewBy_25 (fun z25 I26 hz25 hI26 v => ?_)
      refine r_if_ne B (tgt := 33) dX11_skewBy_28 (by decide) hz25 (fun h => ?_) (fun h => ?_)
      · have v := v.1 h
        refine r_iconst B dX11_skewBy_33 ?_
        refine r_istore B dX11_skewBy_34 (by decide) (lv' := [(4, .int (i2 0)), (0, .ref (eA E 236)), (1, .int (i2 x1)), (2, .int (i2 x2)), (3, .int (i2 x3))]) rfl ?_
        refine r_sub [1, 2, 3, 4, 0] rfl ?_
        obtain ⟨f55, v⟩ := v
        refine r_sub [0, 1, 2, 3, 4] rfl ?_
        refine wL_M_skewBy_36 B hr hk h1 h2 h3 (fun I30 hI30 v => ?_) f55 0 I26 hI26 ((rg_lit (by decide) (by decide))) v
        · refine r_iconst B dX11_skewBy_56 ?_
          refine r_istore B dX11_skewBy_57 (by decide) (lv' := [(4, .int (i2 0)), (0, .ref (eA E 236)), (1, .int (i2 x1)), (2, .int (i2 x2)), (3, .int (i2 x3))]) rfl ?_
          refine r_sub [1, 2, 3, 4, 0] rfl ?_
          obtain ⟨f54, v⟩ := v
          refine r_sub [0, 1, 2, 3, 4] rfl ?_
          refine wL_M_skewBy_59 B hr hk h1 h2 h3 (fun I39 hI39 v => ?_) f54 0 I30 hI30 ((rg_lit (by decide) (by decide))) v
          · refine r_iconst B dX11_skewBy_100 ?_
            refine r_istore B dX11_skewBy_101 (by decide) (lv' := [(4, .int (i2 0)), (0, .ref (eA E 236)), (1, .int (i2 x1)), (3, .int (i2 x3))]) rfl ?_
            refine r_sub [1, 2, 3, 0] rfl ?_
            refine r_iconst B dX11_skewBy_103 ?_
            refine r_istore B dX11_skewBy_104 (by decide) (lv' := [(5, .int (i2 0)), (0, .ref (eA E 236)), (1, .int (i2 x1)), (3, .int (i2 x3)), (4, .int (i2 0))]) rfl ?_
            refine r_sub [1, 2, 3, 4, 0] rfl ?_
            refine r_iconst B dX11_skewBy_106 ?_
            refine r_istore B dX11_skewBy_107 (by decide) (lv' := [(6, .int (i2 0)), (0, .ref (eA E 236)), (1, .int (i2 x1)), (3, .int (i2 x3)), (4, .int (i2 0)), (5, .int (i2 0))]) rfl ?_
            refine r_sub [1, 2, 3, 4, 5, 0] rfl ?_
            obtain ⟨f53, v⟩ := v
            refine r_sub [0, 1, 2, 3, 4, 5] rfl ?_
            refine wL_M_skewBy_109 B hr hk h1 h2 h3 (fun y49 y50 I51 hI51 hy49 hy50 v => ?_) f53 0 0 0 I39 hI39 ((rg_lit (by decide) (by decide))) ((rg_lit (by decide) (by decide))) ((rg_lit (by decide) (by decide))) v
            · refine r_iload_n B dX11_skewBy_167 rfl rfl ?_
              refine r_if_ne B (tgt := 181) dX11_skewBy_168 (by decide) h3 (fun h => ?_) (fun h => ?_)
              · have v := v.1 h
                refine r_iload_n B dX11_skewBy_181 rfl rfl ?_
                refine r_iconst B dX11_skewBy_182 ?_
                refine r_icmp_ne B (tgt := 191) dX11_skewBy_183 (by decide) h3 ((rg_lit (by decide) (by decide))) (fun h => ?_) (fun h => ?_)
                · have v := v.1 h
                  refine r_iload B dX11_skewBy_191 rfl ?_
                  exact r_iret B hr hk rfl hy50 hI51 v dX11_skewBy_193
                · have v := v.2 h
                  refine r_iload B dX11_skewBy_186 rfl ?_
                  refine r_goto B (tgt := 193) dX11_skewBy_188 (by decide) ?_
                  exact r_iret B hr hk rfl hy49 hI51 v dX11_skewBy_193
              · have v := v.2 h
                refine r_aload_n B dX11_skewBy_171 rfl rfl ?_
                refine r_getR B (C := RX11) (T := TX11) (N := 25) o_236 22 rfl win_X11 (by decide) rfl wf_X11_42 dX11_skewBy_172 ?_
                refine r_iload B dX11_skewBy_175 rfl ?_
                obtain ⟨h52, v⟩ := v
                refine r_ald B a_247 (by decide) h52 dX11_skewBy_177 ?_
                refine r_goto B (tgt := 193) dX11_skewBy_178 (by decide) ?_
                exact r_iret B hr hk rfl ((hI51 _ _)) hI51 v dX11_skewBy_193
      · have v := v.2 h
        refine r_iconst B dX11_skewBy_31 ?_
        exact r_iret B hr hk rfl ((rg_lit (by decide) (by decide))) hI26 v dX11_skewBy_32
set_option maxHeartbeats 4000000 in
set_option maxRecDepth 100000 in
theorem wJ_M_longest_74 {p : Program} {l : Launch} {e : Env} {s : State} {m : MethodId} {args : Array Value} {below : List Frame} {meth : Method} {c0 : Code} {E : En} {A : Nat → Prop} {x1 : Int} {Q : Int → Mm → Prop} {K23 : Int → Int → Int → Int → Mm → Prop} (B : Bd p (rmm 1 25) s m args c0 cX11_longest 6 RX11 E A 0 0) (hr : meth.sig.returnType = some .int) (hk : meth.locks = false) (h1 : r32 x1)  (k23 : ∀ (x2 : Int) (x3 : Int) (x4 : Int) (x5 : Int) (I : Mm), rgM I → r32 x2 → r32 x3 → r32 x4 → r32 x5 → K23 x2 x3 x4 x5 I → WI p l e (rmm 1 25) s m args below meth c0 E A 6 0 0 (qI below E A args s Q) I 23 [(0, .ref (eA E 236)), (1, .int (i2 x1)), (2, .int (i2 x2)), (3, .int (i2 x3)), (4, .int (i2 x4)), (5, .int (i2 x5))] []) : ∀ (x2 : Int) (x3 : Int) (x5 : Int) (t0 : Int) (I : Mm), rgM I → r32 x2 → r32 x3 → r32 x5 → r32 t0 → J_M_longest_74 x1 Q K23 x2 x3 x5 t0 I → WI p l e (rmm 1 25) s m args below meth c0 E A 6 0 0 (qI below E A args s Q) I 74 [(0, .ref (eA E 236)), (1, .int (i2 x1)), (2, .int (i2 x2)), (3, .int (i2 x3)), (5, .int (i2 x5))] [.int (i2 t0)] := by
  intro x2 x3 x5 t0 I hI h2 h3 h5 ht0 v
  unfold J_M_longest_74 at v
  refine r_istore B dX11_longest_74 (by decide) (lv' := [(4, .int (i2 t0)), (0, .ref (eA E 236)), (1, .int (i2 x1)), (2, .int (i2 x2)), (3, .int (i2 x3)), (5, .int (i2 x5))]) rfl ?_
  refine r_sub [1, 2, 3, 4, 0, 5] rfl ?_
  refine r_iload B dX11_longest_76 rfl ?_
  refine r_iload_n B dX11_longest_78 rfl rfl ?_
  refine r_icmp_gt B (tgt := 85) dX11_longest_79 (by decide) ht0 h2 (fun h => ?_) (fun h => ?_)
  · have v := v.1 h
    refine r_iload B dX11_longest_85 rfl ?_
    refine r_istore_n B dX11_longest_87 rfl (by decide) (lv' := [(2, .int (i2 t0)), (0, .ref (eA E 236)), (1, .int (i2 x1)), (3, .int (i2 x3)), (4, .int (i2 t0)), (5, .int (i2 x5))]) rfl ?_
    refine r_sub [1, 2, 0, 3, 4, 5] rfl ?_
    refine r_aload_n B dX11_longest_88 rfl rfl ?_
    refine r_getR B (C := RX11) (T := TX11) (N := 25) o_236 0 rfl win_X11 (by decide) rfl wf_X11_7 dX11_longest_89 ?_
    refine r_sipush B dX11_longest_92 (by decide) ?_
    refine r_iload B dX11_longest_95 rfl ?_
    refine r_iadd B dX11_longest_97 ?_
    refine r_iload B dX11_longest_98 rfl ?_
    refine r_isub B dX11_longest_100 ?_
    refine r_iconst B dX11_longest_101 ?_
    refine r_iadd B dX11_longest_102 ?_
    obtain ⟨h23, v⟩ := v
    refine r_ald B a_237 (by decide) h23 dX11_longest_103 ?_
    refine r_name (fun y24 ey24 => ?_)
    have v := v y24 ey24
    have hy24 : r32 y24 := by rw [ey24]; exact (hI _ _)
    refine r_istore_n B dX11_longest_104 rfl (by decide) (lv' := [(3, .int (i2 y24)), (0, .ref (eA E 236)), (1, .int (i2 x1)), (2, .int (i2 t0)), (4, .int (i2 t0)), (5, .int (i2 x5))]) rfl ?_
    refine r_sub [1, 2, 3, 0, 4, 5] rfl ?_
    refine r_iinc B (q := 5) dX11_longest_105 (by decide) rfl (lv' := [(5, .int (i2 (x5 + 1))), (0, .ref (eA E 236)), (1, .int (i2 x1)), (2, .int (i2 t0)), (3, .int (i2 y24)), (4, .int (i2 t0))]) rfl ?_
    refine r_sub [1, 2, 3, 4, 5, 0] rfl ?_
    refine r_goto B (tgt := 23) dX11_longest_108 (by decide) ?_
    obtain ⟨h25, v⟩ := v
    refine r_sub [0, 1, 2, 3, 4, 5] rfl ?_
    exact k23 t0 y24 t0 (x5 + 1) _ hI ht0 hy24 ht0 h25 v
  · have v := v.2 h
    refine r_goto B (tgt := 105) dX11_longest_82 (by decide) ?_
    refine r_iinc B (q := 5) dX11_longest_105 (by decide) rfl (lv' := [(5, .int (i2 (x5 + 1))), (0, .ref (eA E 236)), (1, .int (i2 x1)), (2, .int (i2 x2)), (3, .int (i2 x3)), (4, .int (i2 t0))]) rfl ?_
    refine r_sub [1, 2, 3, 4, 5, 0] rfl ?_
    refine r_goto B (tgt := 23) dX11_longest_108 (by decide) ?_
    obtain ⟨h26, v⟩ := v
    refine r_sub [0, 1, 2, 3, 4, 5] rfl ?_
    exact k23 x2 x3 t0 (x5 + 1) _ hI h2 h3 ht0 h26 v
set_option maxHeartbeats 4000000 in
set_option maxRecDepth 100000 in
theorem wJ_M_longest_73 {p : Program} {l : Launch} {e : Env} {s : State} {m : MethodId} {args : Array Value} {below : List Frame} {meth : Method} {c0 : Code} {E : En} {A : Nat → Prop} {x1 : Int} {Q : Int → Mm → Prop} {K23 : Int → Int → Int → Int → Mm → Prop} (B : Bd p (rmm 1 25) s m args c0 cX11_longest 6 RX11 E A 0 0) (hr : meth.sig.returnType = some .int) (hk : meth.locks = false) (h1 : r32 x1)  (k23 : ∀ (x2 : Int) (x3 : Int) (x4 : Int) (x5 : Int) (I : Mm), rgM I → r32 x2 → r32 x3 → r32 x4 → r32 x5 → K23 x2 x3 x4 x5 I → WI p l e (rmm 1 25) s m args below meth c0 E A 6 0 0 (qI below E A args s Q) I 23 [(0, .ref (eA E 236)), (1, .int (i2 x1)), (2, .int (i2 x2)), (3, .int (i2 x3)), (4, .int (i2 x4)), (5, .int (i2 x5))] []) : ∀ (x2 : Int) (x3 : Int) (x5 : Int) (I : Mm), rgM I → r32 x2 → r32 x3 → r32 x5 → J_M_longest_73 x1 Q K23 x2 x3 x5 I → WI p l e (rmm 1 25) s m args below meth c0 E A 6 0 0 (qI below E A args s Q) I 73 [(0, .ref (eA E 236)), (1, .int (i2 x1)), (2, .int (i2 x2)), (3, .int (i2 x3)), (5, .int (i2 x5))] [] := by
  intro x2 x3 x5 I hI h2 h3 h5 v
  unfold J_M_longest_73 at v
  refine r_iconst B dX11_longest_73 ?_
  refine r_sub [0, 1, 2, 3, 4] rfl ?_
  exact wJ_M_longest_74 B hr hk h1 k23 x2 x3 x5 1 I hI h2 h3 h5 ((rg_lit (by decide) (by decide))) v
set_option maxHeartbeats 4000000 in
set_option maxRecDepth 100000 in
theorem wL_M_longest_23 {p : Program} {l : Launch} {e : Env} {s : State} {m : MethodId} {args : Array Value} {below : List Frame} {meth : Method} {c0 : Code} {E : En} {A : Nat → Prop} {x1 : Int} {Q : Int → Mm → Prop}  (B : Bd p (rmm 1 25) s m args c0 cX11_longest 6 RX11 E A 0 0) (hr : meth.sig.returnType = some .int) (hk : meth.locks = false) (h1 : r32 x1)   : ∀ (n : Nat) (x2 : Int) (x3 : Int) (x4 : Int) (x5 : Int) (I : Mm), rgM I → r32 x2 → r32 x3 → r32 x4 → r32 x5 → L_M_longest_23 x1 Q n x2 x3 x4 x5 I → WI p l e (rmm 1 25) s m args below meth c0 E A 6 0 0 (qI below E A args s Q) I 23 [(0, .ref (eA E 236)), (1, .int (i2 x1)), (2, .int (i2 x2)), (3, .int (i2 x3)), (4, .int (i2 x4)), (5, .int (i2 x5))] [] := by
  intro n
  induction n with
  | zero => intro x2 x3 x4 x5 I _ _ _ _ _ v; exact absurd v id
  | succ n ih =>
    intro x2 x3 x4 x5 I hI h2 h3 h4 h5 v
    unfold L_M_longest_23 at v
    refine r_iload B dX11_longest_23 rfl ?_
    refine r_aload_n B dX11_longest_25 rfl rfl ?_
    refine r_getR B (C := RX11) (T := TX11) (N := 25) o_236 0 rfl win_X11 (by decide) rfl wf_X11_7 dX11_longest_26 ?_
    refine r_iconst B dX11_longest_29 ?_
    refine r_ald B a_237 (by decide) (by decide) dX11_longest_30 ?_
    refine r_icmp_ge B (tgt := 111) dX11_longest_31 (by decide) h5 ((hI _ _)) (fun h => ?_) (fun h => ?_)
    · have v := v.1 h
      refine r_iload_n B dX11_longest_111 rfl rfl ?_
      refine r_if_ne B (tgt := 119) dX11_longest_112 (by decide) h1 (fun h => ?_) (fun h => ?_)
      · have v := v.1 h
        refine r_iload_n B dX11_longest_119 rfl rfl ?_
        exact r_iret B hr hk rfl h3 hI v dX11_longest_120
      · have v := v.2 h
        refine r_iload_n B dX11_longest_115 rfl rfl ?_
        refine r_goto B (tgt := 120) dX11_longest_116 (by decide) ?_
        exact r_iret B hr hk rfl h2 hI v dX11_longest_120
    · have v := v.2 h
      refine r_iload B dX11_longest_34 rfl ?_
      refine r_if_le B (tgt := 73) dX11_longest_36 (by decide) h5 (fun h => ?_) (fun h => ?_)
      · have v := v.1 h
        refine r_sub [0, 1, 2, 3, 5] rfl ?_
        exact wJ_M_longest_73 B hr hk h1 ih x2 x3 x5 I hI h2 h3 h5 v
      · have v := v.2 h
        refine r_aload_n B dX11_longest_39 rfl rfl ?_
        refine r_getR B (C := RX11) (T := TX11) (N := 25) o_236 0 rfl win_X11 (by decide) rfl wf_X11_7 dX11_longest_40 ?_
        refine r_sipush B dX11_longest_43 (by decide) ?_
        refine r_iload B dX11_longest_46 rfl ?_
        refine r_iadd B dX11_longest_48 ?_
        obtain ⟨h29, v⟩ := v
        refine r_ald B a_237 (by decide) h29 dX11_longest_49 ?_
        refine r_aload_n B dX11_longest_50 rfl rfl ?_
        refine r_getR B (C := RX11) (T := TX11) (N := 25) o_236 0 rfl win_X11 (by decide) rfl wf_X11_7 dX11_longest_51 ?_
        refine r_sipush B dX11_longest_54 (by decide) ?_
        refine r_iload B dX11_longest_57 rfl ?_
        refine r_iadd B dX11_longest_59 ?_
        refine r_iconst B dX11_longest_60 ?_
        refine r_isub B dX11_longest_61 ?_
        obtain ⟨h30, v⟩ := v
        refine r_ald B a_237 (by decide) h30 dX11_longest_62 ?_
        refine r_icmp_ne B (tgt := 73) dX11_longest_63 (by decide) ((hI _ _)) ((hI _ _)) (fun h => ?_) (fun h => ?_)
        · have v := v.1 h
          refine r_sub [0, 1, 2, 3, 5] rfl ?_
          exact wJ_M_longest_73 B hr hk h1 ih x2 x3 x5 I hI h2 h3 h5 v
        · have v := v.2 h
          refine r_iload B dX11_longest_66 rfl ?_
          refine r_iconst B dX11_longest_68 ?_
          refine r_iadd B dX11_longest_69 ?_
          refine r_goto B (tgt := 74) dX11_longest_70 (by decide) ?_
          obtain ⟨h32, v⟩ := v
          refine r_sub [0, 1, 2, 3, 5] rfl ?_
          exact wJ_M_longest_74 B hr hk h1 ih x2 x3 x5 (x4 + 1) I hI h2 h3 h5 h32 v
set_option maxHeartbeats 4000000 in
set_option maxRecDepth 100000 in
theorem c_M_longest {l : Launch} {E : En} {A : Nat → Prop} (x1 : Int) (I : Mm)  (hI : rgM I) (h1 : r32 x1) : CI l E A yX11_longest cX11_longest 6 .int 1 25 [.ref (eA E 236), .int (i2 x1)] I (V_M_longest x1 I) := by
  intro Q v
  refine mk_met (own := RX11) (lv0 := [(0, .ref (eA E 236)), (1, .int (i2 x1))]) (by decide) rfl (Nat.le_of_ble_eq_true rfl) rfl (fun p e s m args below meth c0 B hr hk => ?_)
  unfold V_M_longest at v
  refine r_iload_n B dX11_longest_0 rfl rfl ?_
  refine r_i2l B dX11_longest_1 h1 ?_
  refine r_lconst B 0 dX11_longest_2 (by decide) ?_
  refine r_lconst B 1 dX11_longest_3 (by decide) ?_
  refine r_sI B (st := []) (as := [.long (l2 x1), .long (l2 0), .long (l2 1)]) (c_M_in x1 0 1 _ hI ((rg_64 h1)) ((show r64 (0) by exact ⟨by decide, by decide⟩)) ((show r64 (1) by exact ⟨by decide, by decide⟩))) v mw_M_in wl_X11_55 ⟨Nat.le_of_ble_eq_true rfl, Nat.le_of_ble_eq_true rfl⟩ rfl rfl (Nat.le_of_ble_eq_true rfl) dX11_longest_4 (fun z21 I22 hz21 hI22 v => ?_)
  refine r_if_ne B (tgt := 12) dX11_longest_7 (by decide) hz21 (fun h => ?_) (fun h => ?_)
  · have v := v.1 h
    refine r_iconst B dX11_longest_12 ?_
    refine r_istore_n B dX11_longest_13 rfl (by decide) (lv' := [(2, .int (i2 0)), (0, .ref (eA E 236)), (1, .int (i2 x1))]) rfl ?_
    refine r_sub [1, 2, 0] rfl ?_
    refine r_bipush B dX11_longest_14 (by decide) ?_
    refine r_istore_n B dX11_longest_16 rfl (by decide) (lv' := [(3, .int (i2 (-2))), (0, .ref (eA E 236)), (1, .int (i2 x1)), (2, .int (i2 0))]) rfl ?_
    refine r_sub [1, 2, 3, 0] rfl ?_
    refine r_iconst B dX11_longest_17 ?_
    refine r_istore B dX11_longest_18 (by decide) (lv' := [(4, .int (i2 0)), (0, .ref (eA E 236)), (1, .int (i2 x1)), (2, .int (i2 0)), (3, .int (i2 (-2)))]) rfl ?_
    refine r_sub [1, 2, 3, 4, 0] rfl ?_
    refine r_iconst B dX11_longest_20 ?_
    refine r_istore B dX11_longest_21 (by decide) (lv' := [(5, .int (i2 0)), (0, .ref (eA E 236)), (1, .int (i2 x1)), (2, .int (i2 0)), (3, .int (i2 (-2))), (4, .int (i2 0))]) rfl ?_
    refine r_sub [1, 2, 3, 4, 5, 0] rfl ?_
    obtain ⟨f34, v⟩ := v
    refine r_sub [0, 1, 2, 3, 4, 5] rfl ?_
    exact wL_M_longest_23 B hr hk h1 f34 0 (-2) 0 0 I22 hI22 ((rg_lit (by decide) (by decide))) ((rg_lit (by decide) (by decide))) ((rg_lit (by decide) (by decide))) ((rg_lit (by decide) (by decide))) v
  · have v := v.2 h
    refine r_iconst B dX11_longest_10 ?_
    exact r_iret B hr hk rfl ((rg_lit (by decide) (by decide))) hI22 v dX11_longest_11
set_option maxHeartbeats 4000000 in
set_option maxRecDepth 100000 in
theorem c_M_restHours {l : Launch} {E : En} {A : Nat → Prop} (x1 : Int) (x2 : Int) (I : Mm)  (hI : rgM I) (h1 : r32 x1) (h2 : r32 x2) : CI l E A yX11_restHours cX11_restHours 3 .int 0 0 [.ref (eA E 236), .int (i2 x1), .int (i2 x2)] I (V_M_restHours x1 x2 I) := by
  intro Q v
  refine mk_met (own := RX11) (lv0 := [(0, .ref (eA E 236)), (1, .int (i2 x1)), (2, .int (i2 x2))]) (by decide) rfl (Nat.le_of_ble_eq_true rfl) rfl (fun p e s m args below meth c0 B hr hk => ?_)
  unfold V_M_restHours at v
  refine r_iload_n B dX11_restHours_0 rfl rfl ?_
  refine r_iload_n B dX11_restHours_1 rfl rfl ?_
  refine r_icmp_ne B (tgt := 9) dX11_restHours_2 (by decide) h1 h2 (fun h => ?_) (fun h => ?_)
  · have v := v.1 h
    refine r_aload_n B dX11_restHours_9 rfl rfl ?_
    refine r_getR B (C := RX11) (T := TX11) (N := 25) o_236 23 rfl win_X11 (by decide) rfl wf_X11_45 dX11_restHours_10 ?_
    refine r_iload_n B dX11_restHours_13 rfl rfl ?_
    obtain ⟨h21, v⟩ := v
    refine r_ald B a_248 (by decide) h21 dX11_restHours_14 ?_
    exact r_iret B hr hk rfl ((hI _ _)) hI v dX11_restHours_15
  · have v := v.2 h
    refine r_iconst B dX11_restHours_5 ?_
    refine r_goto B (tgt := 15) dX11_restHours_6 (by decide) ?_
    exact r_iret B hr hk rfl ((rg_lit (by decide) (by decide))) hI v dX11_restHours_15
set_option maxHeartbeats 4000000 in
set_option maxRecDepth 100000 in
theorem c_M_restRules {l : Launch} {E : En} {A : Nat → Prop} (x1 : Int) (x2 : Int) (I : Mm)  (hI : rgM I) (h1 : r32 x1) (h2 : r32 x2) : CI l E A yX11_restRules cX11_restRules 3 .int 0 0 [.ref (eA E 236), .int (i2 x1), .int (i2 x2)] I (V_M_restRules x1 x2 I) := by
  intro Q v
  refine mk_met (own := RX11) (lv0 := [(0, .ref (eA E 236)), (1, .int (i2 x1)), (2, .int (i2 x2))]) (by decide) rfl (Nat.le_of_ble_eq_true rfl) rfl (fun p e s m args below meth c0 B hr hk => ?_)
  unfold V_M_restRules at v
  refine r_iload_n B dX11_restRules_0 rfl rfl ?_
  refine r_iload_n B dX11_restRules_1 rfl rfl ?_
  refine r_icmp_ne B (tgt := 9) dX11_restRules_2 (by decide) h1 h2 (fun h => ?_) (fun h => ?_)
  · have v := v.1 h
    refine r_aload_n B dX11_restRules_9 rfl rfl ?_
    refine r_getR B (C := RX11) (T := TX11) (N := 25) o_236 24 rfl win_X11 (by decide) rfl wf_X11_48 dX11_restRules_10 ?_
    refine r_iload_n B dX11_restRules_13 rfl rfl ?_
    obtain ⟨h21, v⟩ := v
    refine r_ald B a_249 (by decide) h21 dX11_restRules_14 ?_
    exact r_iret B hr hk rfl ((hI _ _)) hI v dX11_restRules_15
  · have v := v.2 h
    refine r_iconst B dX11_restRules_5 ?_
    refine r_goto B (tgt := 15) dX11_restRules_6 (by decide) ?_
    exact r_iret B hr hk rfl ((rg_lit (by decide) (by decide))) hI v dX11_restRules_15
set_option maxHeartbeats 4000000 in
set_option maxRecDepth 100000 in
theorem c_M_goesBy {l : Launch} {E : En} {A : Nat → Prop} (x1 : Int) (x2 : Int) (I : Mm)  (hI : rgM I) (h1 : r32 x1) (h2 : r32 x2) : CI l E A yX11_goesBy cX11_goesBy 8 .boolean 1 22 [.ref (eA E 236), .int (i2 x1), .int (i2 x2)] I (V_M_goesBy x1 x2 I) := by
  intro Q v
  refine mk_met (own := RX11) (lv0 := [(0, .ref (eA E 236)), (1, .int (i2 x1)), (2, .int (i2 x2))]) (by decide) rfl (Nat.le_of_ble_eq_true rfl) rfl (fun p e s m args below meth c0 B hr hk => ?_)
  unfold V_M_goesBy at v
  refine r_aload_n B dX11_goesBy_0 rfl rfl ?_
  refine r_getR B (C := RX11) (T := TX11) (N := 25) o_236 0 rfl win_X11 (by decide) rfl wf_X11_7 dX11_goesBy_1 ?_
  refine r_sipush B dX11_goesBy_4 (by decide) ?_
  refine r_iconst B dX11_goesBy_7 ?_
  refine r_iload_n B dX11_goesBy_8 rfl rfl ?_
  refine r_imul B dX11_goesBy_9 ?_
  refine r_iadd B dX11_goesBy_10 ?_
  obtain ⟨h21, v⟩ := v
  refine r_ald B a_237 (by decide) h21 dX11_goesBy_11 ?_
  refine r_istore_n B dX11_goesBy_12 rfl (by decide) (lv' := [(3, .int (i2 (I 237 (144 + (3 * x1))))), (0, .ref (eA E 236)), (1, .int (i2 x1)), (2, .int (i2 x2))]) rfl ?_
  refine r_sub [1, 2, 3, 0] rfl ?_
  refine r_aload_n B dX11_goesBy_13 rfl rfl ?_
  refine r_getR B (C := RX11) (T := TX11) (N := 25) o_236 0 rfl win_X11 (by decide) rfl wf_X11_7 dX11_goesBy_14 ?_
  refine r_sipush B dX11_goesBy_17 (by decide) ?_
  refine r_iconst B dX11_goesBy_20 ?_
  refine r_iload_n B dX11_goesBy_21 rfl rfl ?_
  refine r_imul B dX11_goesBy_22 ?_
  refine r_iadd B dX11_goesBy_23 ?_
  refine r_iconst B dX11_goesBy_24 ?_
  refine r_iadd B dX11_goesBy_25 ?_
  obtain ⟨h22, v⟩ := v
  refine r_ald B a_237 (by decide) h22 dX11_goesBy_26 ?_
  refine r_name (fun y23 ey23 => ?_)
  have v := v y23 ey23
  have hy23 : r32 y23 := by rw [ey23]; exact (hI _ _)
  refine r_istore B dX11_goesBy_27 (by decide) (lv' := [(4, .int (i2 y23)), (0, .ref (eA E 236)), (1, .int (i2 x1)), (2, .int (i2 x2)), (3, .int (i2 (I 237 (144 + (3 * x1)))))]) rfl ?_
  refine r_sub [1, 2, 3, 4, 0] rfl ?_
  refine r_aload_n B dX11_goesBy_29 rfl rfl ?_
  refine r_iload B dX11_goesBy_30 rfl ?_
  refine r_iload_n B dX11_goesBy_32 rfl rfl ?_
  refine r_cI B (st := []) (as := [.int (i2 y23), .int (i2 x2)]) (T := TX11) (N := 25) (c_M_restHours y23 x2 _ hI hy23 h2) v o_236 rfl mw_M_restHours wl_X11_385 ⟨Nat.le_of_ble_eq_true rfl, Nat.le_of_ble_eq_true rfl⟩ rfl rfl (Nat.le_of_ble_eq_true rfl) dX11_goesBy_33 (fun z24 I25 hz24 hI25 v => ?_)
  refine r_istore B dX11_goesBy_36 (by decide) (lv' := [(5, .int (i2 z24)), (0, .ref (eA E 236)), (1, .int (i2 x1)), (2, .int (i2 x2)), (3, .int (i2 (I 237 (144 + (3 * x1))))), (4, .int (i2 y23))]) rfl ?_
  refine r_sub [1, 2, 3, 4, 5, 0] rfl ?_
  refine r_iload B dX11_goesBy_38 rfl ?_
  refine r_if_ge B (tgt := 45) dX11_goesBy_40 (by decide) hz24 (fun h => ?_) (fun h => ?_)
  · have v := v.1 h
    refine r_aload_n B dX11_goesBy_45 rfl rfl ?_
    refine r_getR B (C := RX11) (T := TX11) (N := 25) o_236 0 rfl win_X11 (by decide) rfl wf_X11_7 dX11_goesBy_46 ?_
    refine r_sipush B dX11_goesBy_49 (by decide) ?_
    refine r_iconst B dX11_goesBy_52 ?_
    refine r_iload_n B dX11_goesBy_53 rfl rfl ?_
    refine r_imul B dX11_goesBy_54 ?_
    refine r_iadd B dX11_goesBy_55 ?_
    refine r_iconst B dX11_goesBy_56 ?_
    refine r_iadd B dX11_goesBy_57 ?_
    obtain ⟨h26, v⟩ := v
    refine r_ald B a_237 (by decide) h26 dX11_goesBy_58 ?_
    refine r_iload B dX11_goesBy_59 rfl ?_
    refine r_iadd B dX11_goesBy_61 ?_
    refine r_name (fun y27 ey27 => ?_)
    have v := v y27 ey27
    refine r_istore B dX11_goesBy_62 (by decide) (lv' := [(6, .int (i2 y27)), (0, .ref (eA E 236)), (1, .int (i2 x1)), (2, .int (i2 x2)), (3, .int (i2 (I 237 (144 + (3 * x1))))), (4, .int (i2 y23)), (5, .int (i2 z24))]) rfl ?_
    refine r_sub [1, 2, 3, 4, 5, 6, 0] rfl ?_
    refine r_iconst B dX11_goesBy_64 ?_
    refine r_aload_n B dX11_goesBy_65 rfl rfl ?_
    refine r_iload B dX11_goesBy_66 rfl ?_
    refine r_iload_n B dX11_goesBy_68 rfl rfl ?_
    refine r_cI B (st := [.int (i2 1)]) (as := [.int (i2 y23), .int (i2 x2)]) (T := TX11) (N := 25) (c_M_restRules y23 x2 _ hI25 hy23 h2) v o_236 rfl mw_M_restRules wl_X11_388 ⟨Nat.le_of_ble_eq_true rfl, Nat.le_of_ble_eq_true rfl⟩ rfl rfl (Nat.le_of_ble_eq_true rfl) dX11_goesBy_69 (fun z28 I29 hz28 hI29 v => ?_)
    refine r_iadd B dX11_goesBy_72 ?_
    refine r_istore B dX11_goesBy_73 (by decide) (lv' := [(7, .int (i2 (1 + z28))), (0, .ref (eA E 236)), (1, .int (i2 x1)), (2, .int (i2 x2)), (3, .int (i2 (I 237 (144 + (3 * x1))))), (4, .int (i2 y23)), (5, .int (i2 z24)), (6, .int (i2 y27))]) rfl ?_
    refine r_sub [1, 2, 3, 4, 5, 6, 7, 0] rfl ?_
    refine r_aload_n B dX11_goesBy_75 rfl rfl ?_
    refine r_getR B (C := RX11) (T := TX11) (N := 25) o_236 23 rfl win_X11 (by decide) rfl wf_X11_45 dX11_goesBy_76 ?_
    refine r_iload_n B dX11_goesBy_79 rfl rfl ?_
    obtain ⟨h30, v⟩ := v
    refine r_ald B a_248 (by decide) h30 dX11_goesBy_80 ?_
    refine r_if_lt B (tgt := 119) dX11_goesBy_81 (by decide) ((hI29 _ _)) (fun h => ?_) (fun h => ?_)
    · have v := v.1 h
      refine r_aload_n B dX11_goesBy_119 rfl rfl ?_
      refine r_getR B (C := RX11) (T := TX11) (N := 25) o_236 23 rfl win_X11 (by decide) rfl wf_X11_45 dX11_goesBy_120 ?_
      refine r_iload_n B dX11_goesBy_123 rfl rfl ?_
      refine r_iload B dX11_goesBy_124 rfl ?_
      obtain ⟨h31, v⟩ := v
      obtain ⟨h32, v⟩ := v
      refine r_ast B a_248 (by decide) h31 dX11_goesBy_126 ?_
      have hI33 : rgM (wrM I29 248 (I 237 (144 + (3 * x1))) y27) := rg_wr hI29 h32
      refine r_aload_n B dX11_goesBy_127 rfl rfl ?_
      refine r_getR B (C := RX11) (T := TX11) (N := 25) o_236 24 rfl win_X11 (by decide) rfl wf_X11_48 dX11_goesBy_128 ?_
      refine r_iload_n B dX11_goesBy_131 rfl rfl ?_
      refine r_iload B dX11_goesBy_132 rfl ?_
      obtain ⟨h34, v⟩ := v
      obtain ⟨h35, v⟩ := v
      refine r_ast B a_249 (by decide) h34 dX11_goesBy_134 ?_
      have hI36 : rgM (wrM ((wrM I29 248 (I 237 (144 + (3 * x1))) y27)) 249 (I 237 (144 + (3 * x1))) (1 + z28)) := rg_wr hI33 h35
      refine r_iconst B dX11_goesBy_135 ?_
      exact r_iret B hr hk rfl ((rg_lit (by decide) (by decide))) hI36 v dX11_goesBy_136
    · have v := v.2 h
      refine r_iload B dX11_goesBy_84 rfl ?_
      refine r_aload_n B dX11_goesBy_86 rfl rfl ?_
      refine r_getR B (C := RX11) (T := TX11) (N := 25) o_236 23 rfl win_X11 (by decide) rfl wf_X11_45 dX11_goesBy_87 ?_
      refine r_iload_n B dX11_goesBy_90 rfl rfl ?_
      obtain ⟨h37, v⟩ := v
      refine r_ald B a_248 (by decide) h37 dX11_goesBy_91 ?_
      obtain ⟨h38, v⟩ := v
      refine r_icmp_gt B (tgt := 117) dX11_goesBy_92 (by decide) h38 ((hI29 _ _)) (fun h => ?_) (fun h => ?_)
      · have v := v.1 h
        refine r_iconst B dX11_goesBy_117 ?_
        exact r_iret B hr hk rfl ((rg_lit (by decide) (by decide))) hI29 v dX11_goesBy_118
      · have v := v.2 h
        refine r_iload B dX11_goesBy_95 rfl ?_
        refine r_aload_n B dX11_goesBy_97 rfl rfl ?_
        refine r_getR B (C := RX11) (T := TX11) (N := 25) o_236 23 rfl win_X11 (by decide) rfl wf_X11_45 dX11_goesBy_98 ?_
        refine r_iload_n B dX11_goesBy_101 rfl rfl ?_
        obtain ⟨h39, v⟩ := v
        refine r_ald B a_248 (by decide) h39 dX11_goesBy_102 ?_
        refine r_icmp_ne B (tgt := 119) dX11_goesBy_103 (by decide) h38 ((hI29 _ _)) (fun h => ?_) (fun h => ?_)
        · have v := v.1 h
          refine r_aload_n B dX11_goesBy_119 rfl rfl ?_
          refine r_getR B (C := RX11) (T := TX11) (N := 25) o_236 23 rfl win_X11 (by decide) rfl wf_X11_45 dX11_goesBy_120 ?_
          refine r_iload_n B dX11_goesBy_123 rfl rfl ?_
          refine r_iload B dX11_goesBy_124 rfl ?_
          obtain ⟨h40, v⟩ := v
          refine r_ast B a_248 (by decide) h40 dX11_goesBy_126 ?_
          have hI41 : rgM (wrM I29 248 (I 237 (144 + (3 * x1))) y27) := rg_wr hI29 h38
          refine r_aload_n B dX11_goesBy_127 rfl rfl ?_
          refine r_getR B (C := RX11) (T := TX11) (N := 25) o_236 24 rfl win_X11 (by decide) rfl wf_X11_48 dX11_goesBy_128 ?_
          refine r_iload_n B dX11_goesBy_131 rfl rfl ?_
          refine r_iload B dX11_goesBy_132 rfl ?_
          obtain ⟨h42, v⟩ := v
          obtain ⟨h43, v⟩ := v
          refine r_ast B a_249 (by decide) h42 dX11_goesBy_134 ?_
          have hI44 : rgM (wrM ((wrM I29 248 (I 237 (144 + (3 * x1))) y27)) 249 (I 237 (144 + (3 * x1))) (1 + z28)) := rg_wr hI41 h43
          refine r_iconst B dX11_goesBy_135 ?_
          exact r_iret B hr hk rfl ((rg_lit (by decide) (by decide))) hI44 v dX11_goesBy_136
        · have v := v.2 h
          refine r_iload B dX11_goesBy_106 rfl ?_
          refine r_aload_n B dX11_goesBy_108 rfl rfl ?_
          refine r_getR B (C := RX11) (T := TX11) (N := 25) o_236 24 rfl win_X11 (by decide) rfl wf_X11_48 dX11_goesBy_109 ?_
          refine r_iload_n B dX11_goesBy_112 rfl rfl ?_
          obtain ⟨h45, v⟩ := v
          refine r_ald B a_249 (by decide) h45 dX11_goesBy_113 ?_
          obtain ⟨h46, v⟩ := v
          refine r_icmp_lt B (tgt := 119) dX11_goesBy_114 (by decide) h46 ((hI29 _ _)) (fun h => ?_) (fun h => ?_)
          · have v := v.1 h
            refine r_aload_n B dX11_goesBy_119 rfl rfl ?_
            refine r_getR B (C := RX11) (T := TX11) (N := 25) o_236 23 rfl win_X11 (by decide) rfl wf_X11_45 dX11_goesBy_120 ?_
            refine r_iload_n B dX11_goesBy_123 rfl rfl ?_
            refine r_iload B dX11_goesBy_124 rfl ?_
            obtain ⟨h47, v⟩ := v
            refine r_ast B a_248 (by decide) h47 dX11_goesBy_126 ?_
            have hI48 : rgM (wrM I29 248 (I 237 (144 + (3 * x1))) y27) := rg_wr hI29 h38
            refine r_aload_n B dX11_goesBy_127 rfl rfl ?_
            refine r_getR B (C := RX11) (T := TX11) (N := 25) o_236 24 rfl win_X11 (by decide) rfl wf_X11_48 dX11_goesBy_128 ?_
            refine r_iload_n B dX11_goesBy_131 rfl rfl ?_
            refine r_iload B dX11_goesBy_132 rfl ?_
            obtain ⟨h49, v⟩ := v
            refine r_ast B a_249 (by decide) h49 dX11_goesBy_134 ?_
            have hI50 : rgM (wrM ((wrM I29 248 (I 237 (144 + (3 * x1))) y27)) 249 (I 237 (144 + (3 * x1))) (1 + z28)) := rg_wr hI48 h46
            refine r_iconst B dX11_goesBy_135 ?_
            exact r_iret B hr hk rfl ((rg_lit (by decide) (by decide))) hI50 v dX11_goesBy_136
          · have v := v.2 h
            refine r_iconst B dX11_goesBy_117 ?_
            exact r_iret B hr hk rfl ((rg_lit (by decide) (by decide))) hI29 v dX11_goesBy_118
  · have v := v.2 h
    refine r_iconst B dX11_goesBy_43 ?_
    exact r_iret B hr hk rfl ((rg_lit (by decide) (by decide))) hI25 v dX11_goesBy_44
set_option maxHeartbeats 4000000 in
set_option maxRecDepth 100000 in
theorem wL_M_wayRule_2 {p : Program} {l : Launch} {e : Env} {s : State} {m : MethodId} {args : Array Value} {below : List Frame} {meth : Method} {c0 : Code} {E : En} {A : Nat → Prop} {x1 : Int} {x2 : Int} {Q : Int → Mm → Prop}  (B : Bd p (rmm 1 22) s m args c0 cX11_wayRule 5 RX11 E A 0 0) (hr : meth.sig.returnType = some .int) (hk : meth.locks = false) (h1 : r32 x1) (h2 : r32 x2)   : ∀ (n : Nat) (x3 : Int) (I : Mm), rgM I → r32 x3 → L_M_wayRule_2 x1 x2 Q n x3 I → WI p l e (rmm 1 22) s m args below meth c0 E A 5 0 0 (qI below E A args s Q) I 2 [(0, .ref (eA E 236)), (1, .int (i2 x1)), (2, .int (i2 x2)), (3, .int (i2 x3))] [] := by
  intro n
  induction n with
  | zero => intro x3 I _ _ v; exact absurd v id
  | succ n ih =>
    intro x3 I hI h3 v
    unfold L_M_wayRule_2 at v
    refine r_iload_n B dX11_wayRule_2 rfl rfl ?_
    refine r_aload_n B dX11_wayRule_3 rfl rfl ?_
    refine r_getR B (C := RX11) (T := TX11) (N := 25) o_236 0 rfl win_X11 (by decide) rfl wf_X11_7 dX11_wayRule_4 ?_
    refine r_iconst B dX11_wayRule_7 ?_
    refine r_ald B a_237 (by decide) (by decide) dX11_wayRule_8 ?_
    refine r_icmp_ge B (tgt := 114) dX11_wayRule_9 (by decide) h3 ((hI _ _)) (fun h => ?_) (fun h => ?_)
    · have v := v.1 h
      refine r_iconst B dX11_wayRule_114 ?_
      exact r_iret B hr hk rfl ((rg_lit (by decide) (by decide))) hI v dX11_wayRule_115
    · have v := v.2 h
      refine r_aload_n B dX11_wayRule_12 rfl rfl ?_
      refine r_getR B (C := RX11) (T := TX11) (N := 25) o_236 0 rfl win_X11 (by decide) rfl wf_X11_7 dX11_wayRule_13 ?_
      refine r_sipush B dX11_wayRule_16 (by decide) ?_
      refine r_iconst B dX11_wayRule_19 ?_
      refine r_iload_n B dX11_wayRule_20 rfl rfl ?_
      refine r_imul B dX11_wayRule_21 ?_
      refine r_iadd B dX11_wayRule_22 ?_
      refine r_iconst B dX11_wayRule_23 ?_
      refine r_iadd B dX11_wayRule_24 ?_
      obtain ⟨h21, v⟩ := v
      refine r_ald B a_237 (by decide) h21 dX11_wayRule_25 ?_
      refine r_name (fun y22 ey22 => ?_)
      have v := v y22 ey22
      have hy22 : r32 y22 := by rw [ey22]; exact (hI _ _)
      refine r_istore B dX11_wayRule_26 (by decide) (lv' := [(4, .int (i2 y22)), (0, .ref (eA E 236)), (1, .int (i2 x1)), (2, .int (i2 x2)), (3, .int (i2 x3))]) rfl ?_
      refine r_sub [1, 2, 3, 4, 0] rfl ?_
      refine r_aload_n B dX11_wayRule_28 rfl rfl ?_
      refine r_getR B (C := RX11) (T := TX11) (N := 25) o_236 0 rfl win_X11 (by decide) rfl wf_X11_7 dX11_wayRule_29 ?_
      refine r_sipush B dX11_wayRule_32 (by decide) ?_
      refine r_iconst B dX11_wayRule_35 ?_
      refine r_iload_n B dX11_wayRule_36 rfl rfl ?_
      refine r_imul B dX11_wayRule_37 ?_
      refine r_iadd B dX11_wayRule_38 ?_
      obtain ⟨h23, v⟩ := v
      refine r_ald B a_237 (by decide) h23 dX11_wayRule_39 ?_
      refine r_iload_n B dX11_wayRule_40 rfl rfl ?_
      refine r_icmp_ne B (tgt := 108) dX11_wayRule_41 (by decide) ((hI _ _)) h1 (fun h => ?_) (fun h => ?_)
      · have v := v.1 h
        refine r_iinc B (q := 3) dX11_wayRule_108 (by decide) rfl (lv' := [(3, .int (i2 (x3 + 1))), (0, .ref (eA E 236)), (1, .int (i2 x1)), (2, .int (i2 x2)), (4, .int (i2 y22))]) rfl ?_
        refine r_sub [1, 2, 3, 0, 4] rfl ?_
        refine r_goto B (tgt := 2) dX11_wayRule_111 (by decide) ?_
        obtain ⟨h24, v⟩ := v
        refine r_sub [0, 1, 2, 3] rfl ?_
        exact ih (x3 + 1) _ hI h24 v
      · have v := v.2 h
        refine r_aload_n B dX11_wayRule_44 rfl rfl ?_
        refine r_iload B dX11_wayRule_45 rfl ?_
        refine r_iload_n B dX11_wayRule_47 rfl rfl ?_
        refine r_cI B (st := []) (as := [.int (i2 y22), .int (i2 x2)]) (T := TX11) (N := 25) (c_M_restHours y22 x2 _ hI hy22 h2) v o_236 rfl mw_M_restHours wl_X11_385 ⟨Nat.le_of_ble_eq_true rfl, Nat.le_of_ble_eq_true rfl⟩ rfl rfl (Nat.le_of_ble_eq_true rfl) dX11_wayRule_48 (fun z25 I26 hz25 hI26 v => ?_)
        refine r_if_ge B (tgt := 57) dX11_wayRule_51 (by decide) hz25 (fun h => ?_) (fun h => ?_)
        · have v := v.1 h
          refine r_aload_n B dX11_wayRule_57 rfl rfl ?_
          refine r_getR B (C := RX11) (T := TX11) (N := 25) o_236 0 rfl win_X11 (by decide) rfl wf_X11_7 dX11_wayRule_58 ?_
          refine r_sipush B dX11_wayRule_61 (by decide) ?_
          refine r_iconst B dX11_wayRule_64 ?_
          refine r_iload_n B dX11_wayRule_65 rfl rfl ?_
          refine r_imul B dX11_wayRule_66 ?_
          refine r_iadd B dX11_wayRule_67 ?_
          refine r_iconst B dX11_wayRule_68 ?_
          refine r_iadd B dX11_wayRule_69 ?_
          obtain ⟨h27, v⟩ := v
          refine r_ald B a_237 (by decide) h27 dX11_wayRule_70 ?_
          refine r_aload_n B dX11_wayRule_71 rfl rfl ?_
          refine r_iload B dX11_wayRule_72 rfl ?_
          refine r_iload_n B dX11_wayRule_74 rfl rfl ?_
          refine r_cI B (st := [.int (i2 (I26 237 ((144 + (3 * x3)) + 2)))]) (as := [.int (i2 y22), .int (i2 x2)]) (T := TX11) (N := 25) (c_M_restHours y22 x2 _ hI26 hy22 h2) v o_236 rfl mw_M_restHours wl_X11_385 ⟨Nat.le_of_ble_eq_true rfl, Nat.le_of_ble_eq_true rfl⟩ rfl rfl (Nat.le_of_ble_eq_true rfl) dX11_wayRule_75 (fun z28 I29 hz28 hI29 v => ?_)
          refine r_iadd B dX11_wayRule_78 ?_
          refine r_aload_n B dX11_wayRule_79 rfl rfl ?_
          refine r_getR B (C := RX11) (T := TX11) (N := 25) o_236 23 rfl win_X11 (by decide) rfl wf_X11_45 dX11_wayRule_80 ?_
          refine r_iload_n B dX11_wayRule_83 rfl rfl ?_
          obtain ⟨h30, v⟩ := v
          refine r_ald B a_248 (by decide) h30 dX11_wayRule_84 ?_
          obtain ⟨h31, v⟩ := v
          refine r_icmp_ne B (tgt := 108) dX11_wayRule_85 (by decide) h31 ((hI29 _ _)) (fun h => ?_) (fun h => ?_)
          · have v := v.1 h
            refine r_iinc B (q := 3) dX11_wayRule_108 (by decide) rfl (lv' := [(3, .int (i2 (x3 + 1))), (0, .ref (eA E 236)), (1, .int (i2 x1)), (2, .int (i2 x2)), (4, .int (i2 y22))]) rfl ?_
            refine r_sub [1, 2, 3, 0, 4] rfl ?_
            refine r_goto B (tgt := 2) dX11_wayRule_111 (by decide) ?_
            obtain ⟨h32, v⟩ := v
            refine r_sub [0, 1, 2, 3] rfl ?_
            exact ih (x3 + 1) _ hI29 h32 v
          · have v := v.2 h
            refine r_iconst B dX11_wayRule_88 ?_
            refine r_aload_n B dX11_wayRule_89 rfl rfl ?_
            refine r_iload B dX11_wayRule_90 rfl ?_
            refine r_iload_n B dX11_wayRule_92 rfl rfl ?_
            refine r_cI B (st := [.int (i2 1)]) (as := [.int (i2 y22), .int (i2 x2)]) (T := TX11) (N := 25) (c_M_restRules y22 x2 _ hI29 hy22 h2) v o_236 rfl mw_M_restRules wl_X11_388 ⟨Nat.le_of_ble_eq_true rfl, Nat.le_of_ble_eq_true rfl⟩ rfl rfl (Nat.le_of_ble_eq_true rfl) dX11_wayRule_93 (fun z33 I34 hz33 hI34 v => ?_)
            refine r_iadd B dX11_wayRule_96 ?_
            refine r_aload_n B dX11_wayRule_97 rfl rfl ?_
            refine r_getR B (C := RX11) (T := TX11) (N := 25) o_236 24 rfl win_X11 (by decide) rfl wf_X11_48 dX11_wayRule_98 ?_
            refine r_iload_n B dX11_wayRule_101 rfl rfl ?_
            obtain ⟨h35, v⟩ := v
            refine r_ald B a_249 (by decide) h35 dX11_wayRule_102 ?_
            obtain ⟨h36, v⟩ := v
            refine r_icmp_ne B (tgt := 108) dX11_wayRule_103 (by decide) h36 ((hI34 _ _)) (fun h => ?_) (fun h => ?_)
            · have v := v.1 h
              refine r_iinc B (q := 3) dX11_wayRule_108 (by decide) rfl (lv' := [(3, .int (i2 (x3 + 1))), (0, .ref (eA E 236)), (1, .int (i2 x1)), (2, .int (i2 x2)), (4, .int (i2 y22))]) rfl ?_
              refine r_sub [1, 2, 3, 0, 4] rfl ?_
              refine r_goto B (tgt := 2) dX11_wayRule_111 (by decide) ?_
              obtain ⟨h37, v⟩ := v
              refine r_sub [0, 1, 2, 3] rfl ?_
              exact ih (x3 + 1) _ hI34 h37 v
            · have v := v.2 h
              refine r_iload_n B dX11_wayRule_106 rfl rfl ?_
              exact r_iret B hr hk rfl h3 hI34 v dX11_wayRule_107
        · have v := v.2 h
          refine r_goto B (tgt := 108) dX11_wayRule_54 (by decide) ?_
          refine r_iinc B (q := 3) dX11_wayRule_108 (by decide) rfl (lv' := [(3, .int (i2 (x3 + 1))), (0, .ref (eA E 236)), (1, .int (i2 x1)), (2, .int (i2 x2)), (4, .int (i2 y22))]) rfl ?_
          refine r_sub [1, 2, 3, 0, 4] rfl ?_
          refine r_goto B (tgt := 2) dX11_wayRule_111 (by decide) ?_
          obtain ⟨h38, v⟩ := v
          refine r_sub [0, 1, 2, 3] rfl ?_
          exact ih (x3 + 1) _ hI26 h38 v
set_option maxHeartbeats 4000000 in
set_option maxRecDepth 100000 in
theorem c_M_wayRule {l : Launch} {E : En} {A : Nat → Prop} (x1 : Int) (x2 : Int) (I : Mm)  (hI : rgM I) (h1 : r32 x1) (h2 : r32 x2) : CI l E A yX11_wayRule cX11_wayRule 5 .int 1 22 [.ref (eA E 236), .int (i2 x1), .int (i2 x2)] I (V_M_wayRule x1 x2 I) := by
  intro Q v
  refine mk_met (own := RX11) (lv0 := [(0, .ref (eA E 236)), (1, .int (i2 x1)), (2, .int (i2 x2))]) (by decide) rfl (Nat.le_of_ble_eq_true rfl) rfl (fun p e s m args below meth c0 B hr hk => ?_)
  unfold V_M_wayRule at v
  refine r_iconst B dX11_wayRule_0 ?_
  refine r_istore_n B dX11_wayRule_1 rfl (by decide) (lv' := [(3, .int (i2 0)), (0, .ref (eA E 236)), (1, .int (i2 x1)), (2, .int (i2 x2))]) rfl ?_
  refine r_sub [1, 2, 3, 0] rfl ?_
  obtain ⟨f39, v⟩ := v
  refine r_sub [0, 1, 2, 3] rfl ?_
  exact wL_M_wayRule_2 B hr hk h1 h2 f39 0 I hI ((rg_lit (by decide) (by decide))) v
