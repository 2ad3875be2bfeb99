set_option maxHeartbeats 4000000 in
set_option maxRecDepth 100000 in
theorem wL_M_way_26 {p : Program} {l : Launch} {e : Env} {s : State} {m : MethodId} {args : Array Value} {below : List Frame} {meth : Method} {c0 : Code} {E : En} {A : Nat → Prop} {x1 : Int} {x2 : Int} {x3 : Int} {Q : Int → Mm → Prop} {K47 : Mm → Prop} (B : Bd p (rmm 2 49) s m args c0 cX11_way 7 RX11 E A 0 0) (hr : meth.sig.returnType = some .int) (hk : meth.locks = false) (h1 : r32 x1) (h2 : r32 x2) (h3 : r32 x3)  (k47 : ∀ (I : Mm), rgM I → K47 I → WI p l e (rmm 2 49) s m args below meth c0 E A 7 0 0 (qI below E A args s Q) I 47 [(0, .ref (eA E 236)), (1, .int (i2 x1)), (2, .int (i2 x2)), (3, .int (i2 x3))] []) : ∀ (n : Nat) (x4 : Int) (I : Mm), rgM I → r32 x4 → L_M_way_26 x1 x2 x3 Q K47 n x4 I → WI p l e (rmm 2 49) s m args below meth c0 E A 7 0 0 (qI below E A args s Q) I 26 [(0, .ref (eA E 236)), (1, .int (i2 x1)), (2, .int (i2 x2)), (3, .int (i2 x3)), (4, .int (i2 x4))] [] := by
  intro n
  induction n with
  | zero => intro x4 I _ _ v; exact absurd v id
  | succ n ih =>
    intro x4 I hI h4 v
    unfold L_M_way_26 at v
    refine r_iload B dX11_way_26 rfl ?_
    refine r_bipush B dX11_way_28 (by decide) ?_
    refine r_icmp_ge B (tgt := 47) dX11_way_30 (by decide) h4 ((rg_lit (by decide) (by decide))) (fun h => ?_) (fun h => ?_)
    · have v := v.1 h
      refine r_sub [0, 1, 2, 3] rfl ?_
      exact k47 _ hI v
    · have v := v.2 h
      refine r_aload_n B dX11_way_33 rfl rfl ?_
      refine r_getR B (C := RX11) (T := TX11) (N := 25) o_236 23 rfl win_X11 (by decide) rfl wf_X11_45 dX11_way_34 ?_
      refine r_iload B dX11_way_37 rfl ?_
      refine r_iconst B dX11_way_39 ?_
      obtain ⟨h25, v⟩ := v
      refine r_ast B a_248 (by decide) h25 dX11_way_40 ?_
      have hI26 : rgM (wrM I 248 x4 (-1)) := rg_wr hI ((rg_lit (by decide) (by decide)))
      refine r_iinc B (q := 4) dX11_way_41 (by decide) rfl (lv' := [(4, .int (i2 (x4 + 1))), (0, .ref (eA E 236)), (1, .int (i2 x1)), (2, .int (i2 x2)), (3, .int (i2 x3))]) rfl ?_
      refine r_sub [1, 2, 3, 4, 0] rfl ?_
      refine r_goto B (tgt := 26) dX11_way_44 (by decide) ?_
      obtain ⟨h27, v⟩ := v
      refine r_sub [0, 1, 2, 3, 4] rfl ?_
      exact ih (x4 + 1) _ hI26 h27 v
set_option maxHeartbeats 4000000 in
set_option maxRecDepth 100000 in
theorem wL_M_way_61 {p : Program} {l : Launch} {e : Env} {s : State} {m : MethodId} {args : Array Value} {below : List Frame} {meth : Method} {c0 : Code} {E : En} {A : Nat → Prop} {x1 : Int} {x2 : Int} {x3 : Int} {Q : Int → Mm → Prop} {K50 : Int → Mm → Prop} (B : Bd p (rmm 2 49) s m args c0 cX11_way 7 RX11 E A 0 0) (hr : meth.sig.returnType = some .int) (hk : meth.locks = false) (h1 : r32 x1) (h2 : r32 x2) (h3 : r32 x3)  (k50 : ∀ (x4 : Int) (I : Mm), rgM I → r32 x4 → K50 x4 I → WI p l e (rmm 2 49) s m args below meth c0 E A 7 0 0 (qI below E A args s Q) I 50 [(0, .ref (eA E 236)), (1, .int (i2 x1)), (2, .int (i2 x2)), (3, .int (i2 x3)), (4, .int (i2 x4))] []) : ∀ (n : Nat) (x4 : Int) (x5 : Int) (I : Mm), rgM I → r32 x4 → r32 x5 → L_M_way_61 x1 x2 x3 Q K50 n x4 x5 I → WI p l e (rmm 2 49) s m args below meth c0 E A 7 0 0 (qI below E A args s Q) I 61 [(0, .ref (eA E 236)), (1, .int (i2 x1)), (2, .int (i2 x2)), (3, .int (i2 x3)), (4, .int (i2 x4)), (5, .int (i2 x5))] [] := by
  intro n
  induction n with
  | zero => intro x4 x5 I _ _ _ v; exact absurd v id
  | succ n ih =>
    intro x4 x5 I hI h4 h5 v
    unfold L_M_way_61 at v
    refine r_iload B dX11_way_61 rfl ?_
    refine r_aload_n B dX11_way_63 rfl rfl ?_
    refine r_getR B (C := RX11) (T := TX11) (N := 25) o_236 0 rfl win_X11 (by decide) rfl wf_X11_7 dX11_way_64 ?_
    refine r_iconst B dX11_way_67 ?_
    refine r_ald B a_237 (by decide) (by decide) dX11_way_68 ?_
    refine r_icmp_ge B (tgt := 100) dX11_way_69 (by decide) h5 ((hI _ _)) (fun h => ?_) (fun h => ?_)
    · have v := v.1 h
      refine r_goto B (tgt := 50) dX11_way_100 (by decide) ?_
      refine r_sub [0, 1, 2, 3, 4] rfl ?_
      exact k50 x4 _ hI h4 v
    · have v := v.2 h
      refine r_aload_n B dX11_way_72 rfl rfl ?_
      refine r_iload B dX11_way_73 rfl ?_
      refine r_iload_n B dX11_way_75 rfl rfl ?_
      refine r_cI B (st := []) (as := [.int (i2 x5), .int (i2 x2)]) (T := TX11) (N := 25) (c_M_goesBy x5 x2 _ hI h5 h2) v o_236 rfl mw_M_goesBy wl_X11_391 ⟨Nat.le_of_ble_eq_true rfl, Nat.le_of_ble_eq_true rfl⟩ rfl rfl (Nat.le_of_ble_eq_true rfl) dX11_way_76 (fun z29 I30 hz29 hI30 v => ?_)
      refine r_if_ne B (tgt := 87) dX11_way_79 (by decide) hz29 (fun h => ?_) (fun h => ?_)
      · have v := v.1 h
        refine r_iconst B dX11_way_87 ?_
        refine r_goto B (tgt := 92) dX11_way_88 (by decide) ?_
        refine r_istore B dX11_way_92 (by decide) (lv' := [(4, .int (i2 1)), (0, .ref (eA E 236)), (1, .int (i2 x1)), (2, .int (i2 x2)), (3, .int (i2 x3)), (5, .int (i2 x5))]) rfl ?_
        refine r_sub [1, 2, 3, 4, 0, 5] rfl ?_
        refine r_iinc B (q := 5) dX11_way_94 (by decide) rfl (lv' := [(5, .int (i2 (x5 + 1))), (0, .ref (eA E 236)), (1, .int (i2 x1)), (2, .int (i2 x2)), (3, .int (i2 x3)), (4, .int (i2 1))]) rfl ?_
        refine r_sub [1, 2, 3, 4, 5, 0] rfl ?_
        refine r_goto B (tgt := 61) dX11_way_97 (by decide) ?_
        obtain ⟨h31, v⟩ := v
        refine r_sub [0, 1, 2, 3, 4, 5] rfl ?_
        exact ih 1 (x5 + 1) _ hI30 ((rg_lit (by decide) (by decide))) h31 v
      · have v := v.2 h
        refine r_iload B dX11_way_82 rfl ?_
        refine r_if_eq B (tgt := 91) dX11_way_84 (by decide) h4 (fun h => ?_) (fun h => ?_)
        · have v := v.1 h
          refine r_iconst B dX11_way_91 ?_
          refine r_istore B dX11_way_92 (by decide) (lv' := [(4, .int (i2 0)), (0, .ref (eA E 236)), (1, .int (i2 x1)), (2, .int (i2 x2)), (3, .int (i2 x3)), (5, .int (i2 x5))]) rfl ?_
          refine r_sub [1, 2, 3, 4, 0, 5] rfl ?_
          refine r_iinc B (q := 5) dX11_way_94 (by decide) rfl (lv' := [(5, .int (i2 (x5 + 1))), (0, .ref (eA E 236)), (1, .int (i2 x1)), (2, .int (i2 x2)), (3, .int (i2 x3)), (4, .int (i2 0))]) rfl ?_
          refine r_sub [1, 2, 3, 4, 5, 0] rfl ?_
          refine r_goto B (tgt := 61) dX11_way_97 (by decide) ?_
          obtain ⟨h32, v⟩ := v
          refine r_sub [0, 1, 2, 3, 4, 5] rfl ?_
          exact ih 0 (x5 + 1) _ hI30 ((rg_lit (by decide) (by decide))) h32 v
        · have v := v.2 h
          refine r_iconst B dX11_way_87 ?_
          refine r_goto B (tgt := 92) dX11_way_88 (by decide) ?_
          refine r_istore B dX11_way_92 (by decide) (lv' := [(4, .int (i2 1)), (0, .ref (eA E 236)), (1, .int (i2 x1)), (2, .int (i2 x2)), (3, .int (i2 x3)), (5, .int (i2 x5))]) rfl ?_
          refine r_sub [1, 2, 3, 4, 0, 5] rfl ?_
          refine r_iinc B (q := 5) dX11_way_94 (by decide) rfl (lv' := [(5, .int (i2 (x5 + 1))), (0, .ref (eA E 236)), (1, .int (i2 x1)), (2, .int (i2 x2)), (3, .int (i2 x3)), (4, .int (i2 1))]) rfl ?_
          refine r_sub [1, 2, 3, 4, 5, 0] rfl ?_
          refine r_goto B (tgt := 61) dX11_way_97 (by decide) ?_
          obtain ⟨h33, v⟩ := v
          refine r_sub [0, 1, 2, 3, 4, 5] rfl ?_
          exact ih 1 (x5 + 1) _ hI30 ((rg_lit (by decide) (by decide))) h33 v
set_option maxHeartbeats 4000000 in
set_option maxRecDepth 100000 in
theorem wL_M_way_50 {p : Program} {l : Launch} {e : Env} {s : State} {m : MethodId} {args : Array Value} {below : List Frame} {meth : Method} {c0 : Code} {E : En} {A : Nat → Prop} {x1 : Int} {x2 : Int} {x3 : Int} {Q : Int → Mm → Prop} {K103 : Mm → Prop} (B : Bd p (rmm 2 49) s m args c0 cX11_way 7 RX11 E A 0 0) (hr : meth.sig.returnType = some .int) (hk : meth.locks = false) (h1 : r32 x1) (h2 : r32 x2) (h3 : r32 x3)  (k103 : ∀ (I : Mm), rgM I → K103 I → WI p l e (rmm 2 49) s m args below meth c0 E A 7 0 0 (qI below E A args s Q) I 103 [(0, .ref (eA E 236)), (1, .int (i2 x1)), (2, .int (i2 x2)), (3, .int (i2 x3))] []) : ∀ (n : Nat) (x4 : Int) (I : Mm), rgM I → r32 x4 → L_M_way_50 x1 x2 x3 Q K103 n x4 I → WI p l e (rmm 2 49) s m args below meth c0 E A 7 0 0 (qI below E A args s Q) I 50 [(0, .ref (eA E 236)), (1, .int (i2 x1)), (2, .int (i2 x2)), (3, .int (i2 x3)), (4, .int (i2 x4))] [] := by
  intro n
  induction n with
  | zero => intro x4 I _ _ v; exact absurd v id
  | succ n ih =>
    intro x4 I hI h4 v
    unfold L_M_way_50 at v
    refine r_iload B dX11_way_50 rfl ?_
    refine r_if_eq B (tgt := 103) dX11_way_52 (by decide) h4 (fun h => ?_) (fun h => ?_)
    · have v := v.1 h
      refine r_sub [0, 1, 2, 3] rfl ?_
      exact k103 _ hI v
    · have v := v.2 h
      refine r_iconst B dX11_way_55 ?_
      refine r_istore B dX11_way_56 (by decide) (lv' := [(4, .int (i2 0)), (0, .ref (eA E 236)), (1, .int (i2 x1)), (2, .int (i2 x2)), (3, .int (i2 x3))]) rfl ?_
      refine r_sub [1, 2, 3, 4, 0] rfl ?_
      refine r_iconst B dX11_way_58 ?_
      refine r_istore B dX11_way_59 (by decide) (lv' := [(5, .int (i2 0)), (0, .ref (eA E 236)), (1, .int (i2 x1)), (2, .int (i2 x2)), (3, .int (i2 x3)), (4, .int (i2 0))]) rfl ?_
      refine r_sub [1, 2, 3, 4, 5, 0] rfl ?_
      obtain ⟨f34, v⟩ := v
      refine r_sub [0, 1, 2, 3, 4, 5] rfl ?_
      exact wL_M_way_61 B hr hk h1 h2 h3 ih f34 0 0 I hI ((rg_lit (by decide) (by decide))) ((rg_lit (by decide) (by decide))) v
set_option maxHeartbeats 4000000 in
set_option maxRecDepth 100000 in
theorem wL_M_way_151 {p : Program} {l : Launch} {e : Env} {s : State} {m : MethodId} {args : Array Value} {below : List Frame} {meth : Method} {c0 : Code} {E : En} {A : Nat → Prop} {x1 : Int} {x2 : Int} {x3 : Int} {Q : Int → Mm → Prop}  (B : Bd p (rmm 2 49) s m args c0 cX11_way 7 RX11 E A 0 0) (hr : meth.sig.returnType = some .int) (hk : meth.locks = false) (h1 : r32 x1) (h2 : r32 x2) (h3 : r32 x3)   : ∀ (n : Nat) (x5 : Int) (x6 : Int) (I : Mm), rgM I → r32 x5 → r32 x6 → L_M_way_151 x1 x2 x3 Q n x5 x6 I → WI p l e (rmm 2 49) s m args below meth c0 E A 7 0 0 (qI below E A args s Q) I 151 [(0, .ref (eA E 236)), (2, .int (i2 x2)), (3, .int (i2 x3)), (5, .int (i2 x5)), (6, .int (i2 x6))] [] := by
  intro n
  induction n with
  | zero => intro x5 x6 I _ _ _ v; exact absurd v id
  | succ n ih =>
    intro x5 x6 I hI h5 h6 v
    unfold L_M_way_151 at v
    refine r_iload B dX11_way_151 rfl ?_
    refine r_iload_n B dX11_way_153 rfl rfl ?_
    refine r_icmp_ge B (tgt := 185) dX11_way_154 (by decide) h6 h3 (fun h => ?_) (fun h => ?_)
    · have v := v.1 h
      refine r_iload B dX11_way_185 rfl ?_
      exact r_iret B hr hk rfl h5 hI v dX11_way_187
    · have v := v.2 h
      refine r_aload_n B dX11_way_157 rfl rfl ?_
      refine r_aload_n B dX11_way_158 rfl rfl ?_
      refine r_getR B (C := RX11) (T := TX11) (N := 25) o_236 0 rfl win_X11 (by decide) rfl wf_X11_7 dX11_way_159 ?_
      refine r_sipush B dX11_way_162 (by decide) ?_
      refine r_iconst B dX11_way_165 ?_
      refine r_iload B dX11_way_166 rfl ?_
      refine r_imul B dX11_way_168 ?_
      refine r_iadd B dX11_way_169 ?_
      refine r_iconst B dX11_way_170 ?_
      refine r_iadd B dX11_way_171 ?_
      obtain ⟨h40, v⟩ := v
      refine r_ald B a_237 (by decide) h40 dX11_way_172 ?_
      refine r_iload_n B dX11_way_173 rfl rfl ?_
      refine r_cI B (st := []) (as := [.int (i2 (I 237 ((144 + (3 * x5)) + 1))), .int (i2 x2)]) (T := TX11) (N := 25) (c_M_wayRule (I 237 ((144 + (3 * x5)) + 1)) x2 _ hI ((hI _ _)) h2) v o_236 rfl mw_M_wayRule wl_X11_394 ⟨Nat.le_of_ble_eq_true rfl, Nat.le_of_ble_eq_true rfl⟩ rfl rfl (Nat.le_of_ble_eq_true rfl) dX11_way_174 (fun z41 I42 hz41 hI42 v => ?_)
      refine r_istore B dX11_way_177 (by decide) (lv' := [(5, .int (i2 z41)), (0, .ref (eA E 236)), (2, .int (i2 x2)), (3, .int (i2 x3)), (6, .int (i2 x6))]) rfl ?_
      refine r_sub [1, 2, 3, 0, 4] rfl ?_
      refine r_iinc B (q := 4) dX11_way_179 (by decide) rfl (lv' := [(6, .int (i2 (x6 + 1))), (0, .ref (eA E 236)), (2, .int (i2 x2)), (3, .int (i2 x3)), (5, .int (i2 z41))]) rfl ?_
      refine r_sub [1, 2, 3, 4, 0] rfl ?_
      refine r_goto B (tgt := 151) dX11_way_182 (by decide) ?_
      obtain ⟨h43, v⟩ := v
      refine r_sub [0, 1, 2, 3, 4] rfl ?_
      exact ih z41 (x6 + 1) _ hI42 hz41 h43 v
set_option maxHeartbeats 4000000 in
set_option maxRecDepth 100000 in
theorem c_M_way {l : Launch} {E : En} {A : Nat → Prop} (x1 : Int) (x2 : Int) (x3 : Int) (I : Mm)  (hI : rgM I) (h1 : r32 x1) (h2 : r32 x2) (h3 : r32 x3) : CI l E A yX11_way cX11_way 7 .int 2 49 [.ref (eA E 236), .int (i2 x1), .int (i2 x2), .int (i2 x3)] I (V_M_way x1 x2 x3 I) := by
  intro Q v
  refine mk_met (own := RX11) (lv0 := [(0, .ref (eA E 236)), (1, .int (i2 x1)), (2, .int (i2 x2)), (3, .int (i2 x3))]) (by decide) rfl (Nat.le_of_ble_eq_true rfl) rfl (fun p e s m args below meth c0 B hr hk => ?_)
  unfold V_M_way at v
  refine r_aload_n B dX11_way_0 rfl rfl ?_
  refine r_iload_n B dX11_way_1 rfl rfl ?_
  refine r_cI B (st := []) (as := [.int (i2 x1)]) (T := TX11) (N := 25) (c_M_isName x1 _ hI h1) v o_236 rfl mw_M_isName wl_X11_111 ⟨Nat.le_of_ble_eq_true rfl, Nat.le_of_ble_eq_true rfl⟩ rfl rfl (Nat.le_of_ble_eq_true rfl) dX11_way_2 (fun z21 I22 hz21 hI22 v => ?_)
  refine r_if_eq B (tgt := 21) dX11_way_5 (by decide) hz21 (fun h => ?_) (fun h => ?_)
  · have v := v.1 h
    refine r_iconst B dX11_way_21 ?_
    exact r_iret B hr hk rfl ((rg_lit (by decide) (by decide))) hI22 v dX11_way_22
  · have v := v.2 h
    refine r_aload_n B dX11_way_8 rfl rfl ?_
    refine r_iload_n B dX11_way_9 rfl rfl ?_
    refine r_cI B (st := []) (as := [.int (i2 x2)]) (T := TX11) (N := 25) (c_M_isName x2 _ hI22 h2) v o_236 rfl mw_M_isName wl_X11_111 ⟨Nat.le_of_ble_eq_true rfl, Nat.le_of_ble_eq_true rfl⟩ rfl rfl (Nat.le_of_ble_eq_true rfl) dX11_way_10 (fun z23 I24 hz23 hI24 v => ?_)
    refine r_if_eq B (tgt := 21) dX11_way_13 (by decide) hz23 (fun h => ?_) (fun h => ?_)
    · have v := v.1 h
      refine r_iconst B dX11_way_21 ?_
      exact r_iret B hr hk rfl ((rg_lit (by decide) (by decide))) hI24 v dX11_way_22
    · have v := v.2 h
      refine r_iload_n B dX11_way_16 rfl rfl ?_
      refine r_iconst B dX11_way_17 ?_
      refine r_icmp_ge B (tgt := 23) dX11_way_18 (by decide) h3 ((rg_lit (by decide) (by decide))) (fun h => ?_) (fun h => ?_)
      · have v := v.1 h
        refine r_iconst B dX11_way_23 ?_
        refine r_istore B dX11_way_24 (by decide) (lv' := [(4, .int (i2 0)), (0, .ref (eA E 236)), (1, .int (i2 x1)), (2, .int (i2 x2)), (3, .int (i2 x3))]) rfl ?_
        refine r_sub [1, 2, 3, 4, 0] rfl ?_
        obtain ⟨f47, v⟩ := v
        refine r_sub [0, 1, 2, 3, 4] rfl ?_
        refine wL_M_way_26 B hr hk h1 h2 h3 (fun I28 hI28 v => ?_) f47 0 I24 hI24 ((rg_lit (by decide) (by decide))) v
        · refine r_iconst B dX11_way_47 ?_
          refine r_istore B dX11_way_48 (by decide) (lv' := [(4, .int (i2 1)), (0, .ref (eA E 236)), (1, .int (i2 x1)), (2, .int (i2 x2)), (3, .int (i2 x3))]) rfl ?_
          refine r_sub [1, 2, 3, 4, 0] rfl ?_
          obtain ⟨f46, v⟩ := v
          refine r_sub [0, 1, 2, 3, 4] rfl ?_
          refine wL_M_way_50 B hr hk h1 h2 h3 (fun I35 hI35 v => ?_) f46 1 I28 hI28 ((rg_lit (by decide) (by decide))) v
          · refine r_aload_n B dX11_way_103 rfl rfl ?_
            refine r_getR B (C := RX11) (T := TX11) (N := 25) o_236 23 rfl win_X11 (by decide) rfl wf_X11_45 dX11_way_104 ?_
            refine r_iload_n B dX11_way_107 rfl rfl ?_
            obtain ⟨h36, v⟩ := v
            refine r_ald B a_248 (by decide) h36 dX11_way_108 ?_
            refine r_if_ge B (tgt := 115) dX11_way_109 (by decide) ((hI35 _ _)) (fun h => ?_) (fun h => ?_)
            · have v := v.1 h
              refine r_iload_n B dX11_way_115 rfl rfl ?_
              refine r_iconst B dX11_way_116 ?_
              refine r_icmp_ne B (tgt := 127) dX11_way_117 (by decide) h3 ((rg_lit (by decide) (by decide))) (fun h => ?_) (fun h => ?_)
              · have v := v.1 h
                refine r_iload_n B dX11_way_127 rfl rfl ?_
                refine r_aload_n B dX11_way_128 rfl rfl ?_
                refine r_getR B (C := RX11) (T := TX11) (N := 25) o_236 24 rfl win_X11 (by decide) rfl wf_X11_48 dX11_way_129 ?_
                refine r_iload_n B dX11_way_132 rfl rfl ?_
                obtain ⟨h37, v⟩ := v
                refine r_ald B a_249 (by decide) h37 dX11_way_133 ?_
                refine r_icmp_lt B (tgt := 140) dX11_way_134 (by decide) h3 ((hI35 _ _)) (fun h => ?_) (fun h => ?_)
                · have v := v.1 h
                  refine r_aload_n B dX11_way_140 rfl rfl ?_
                  refine r_iload_n B dX11_way_141 rfl rfl ?_
                  refine r_iload_n B dX11_way_142 rfl rfl ?_
                  refine r_cI B (st := []) (as := [.int (i2 x1), .int (i2 x2)]) (T := TX11) (N := 25) (c_M_wayRule x1 x2 _ hI35 h1 h2) v o_236 rfl mw_M_wayRule wl_X11_394 ⟨Nat.le_of_ble_eq_true rfl, Nat.le_of_ble_eq_true rfl⟩ rfl rfl (Nat.le_of_ble_eq_true rfl) dX11_way_143 (fun z38 I39 hz38 hI39 v => ?_)
                  refine r_istore B dX11_way_146 (by decide) (lv' := [(5, .int (i2 z38)), (0, .ref (eA E 236)), (1, .int (i2 x1)), (2, .int (i2 x2)), (3, .int (i2 x3))]) rfl ?_
                  refine r_sub [1, 2, 3, 4, 0] rfl ?_
                  refine r_iconst B dX11_way_148 ?_
                  refine r_istore B dX11_way_149 (by decide) (lv' := [(6, .int (i2 0)), (0, .ref (eA E 236)), (1, .int (i2 x1)), (2, .int (i2 x2)), (3, .int (i2 x3)), (5, .int (i2 z38))]) rfl ?_
                  refine r_sub [1, 2, 3, 4, 5, 0] rfl ?_
                  obtain ⟨f44, v⟩ := v
                  refine r_sub [0, 2, 3, 4, 5] rfl ?_
                  exact wL_M_way_151 B hr hk h1 h2 h3 f44 z38 0 I39 hI39 hz38 ((rg_lit (by decide) (by decide))) v
                · have v := v.2 h
                  refine r_bipush B dX11_way_137 (by decide) ?_
                  exact r_iret B hr hk rfl ((rg_lit (by decide) (by decide))) hI35 v dX11_way_139
              · have v := v.2 h
                refine r_aload_n B dX11_way_120 rfl rfl ?_
                refine r_getR B (C := RX11) (T := TX11) (N := 25) o_236 24 rfl win_X11 (by decide) rfl wf_X11_48 dX11_way_121 ?_
                refine r_iload_n B dX11_way_124 rfl rfl ?_
                obtain ⟨h45, v⟩ := v
                refine r_ald B a_249 (by decide) h45 dX11_way_125 ?_
                exact r_iret B hr hk rfl ((hI35 _ _)) hI35 v dX11_way_126
            · have v := v.2 h
              refine r_bipush B dX11_way_112 (by decide) ?_
              exact r_iret B hr hk rfl ((rg_lit (by decide) (by decide))) hI35 v dX11_way_114
      · have v := v.2 h
        refine r_iconst B dX11_way_21 ?_
        exact r_iret B hr hk rfl ((rg_lit (by decide) (by decide))) hI24 v dX11_way_22
set_option maxHeartbeats 4000000 in
set_option maxRecDepth 100000 in
theorem wL_M_by_35 {p : Program} {l : Launch} {e : Env} {s : State} {m : MethodId} {args : Array Value} {below : List Frame} {meth : Method} {c0 : Code} {E : En} {A : Nat → Prop} {x1 : Int} {x2 : Int} {Q : Int → Mm → Prop} {K78 : Int → Int → Mm → Prop} (B : Bd p (rmm 7 162) s m args c0 cX11_by 6 RX11 E A 0 0) (hr : meth.sig.returnType = some .int) (hk : meth.locks = false) (h1 : r32 x1) (h2 : r32 x2)  (k78 : ∀ (x3 : Int) (x4 : Int) (I : Mm), rgM I → r32 x3 → r32 x4 → K78 x3 x4 I → WI p l e (rmm 7 162) s m args below meth c0 E A 6 0 0 (qI below E A args s Q) I 78 [(0, .ref (eA E 236)), (2, .int (i2 x2)), (3, .int (i2 x3)), (4, .int (i2 x4))] []) : ∀ (n : Nat) (x3 : Int) (x4 : Int) (I : Mm), rgM I → r32 x3 → r32 x4 → L_M_by_35 x1 x2 Q K78 n x3 x4 I → WI p l e (rmm 7 162) s m args below meth c0 E A 6 0 0 (qI below E A args s Q) I 35 [(0, .ref (eA E 236)), (1, .int (i2 x1)), (2, .int (i2 x2)), (3, .int (i2 x3)), (4, .int (i2 x4))] [] := by
  intro n
  induction n with
  | zero => intro x3 x4 I _ _ _ v; exact absurd v id
  | succ n ih =>
    intro x3 x4 I hI h3 h4 v
    unfold L_M_by_35 at v
    refine r_iload_n B dX11_by_35 rfl rfl ?_
    refine r_sipush B dX11_by_36 (by decide) ?_
    refine r_icmp_ge B (tgt := 78) dX11_by_39 (by decide) h3 ((rg_lit (by decide) (by decide))) (fun h => ?_) (fun h => ?_)
    · have v := v.1 h
      refine r_sub [0, 2, 3, 4] rfl ?_
      exact k78 x3 x4 _ hI h3 h4 v
    · have v := v.2 h
      refine r_aload_n B dX11_by_42 rfl rfl ?_
      refine r_getR B (C := RX11) (T := TX11) (N := 25) o_236 0 rfl win_X11 (by decide) rfl wf_X11_7 dX11_by_43 ?_
      refine r_iconst B dX11_by_46 ?_
      refine r_ald B a_237 (by decide) (by decide) dX11_by_47 ?_
      refine r_if_le B (tgt := 78) dX11_by_48 (by decide) ((hI _ _)) (fun h => ?_) (fun h => ?_)
      · have v := v.1 h
        refine r_sub [0, 2, 3, 4] rfl ?_
        exact k78 x3 x4 _ hI h3 h4 v
      · have v := v.2 h
        refine r_aload_n B dX11_by_51 rfl rfl ?_
        refine r_getR B (C := RX11) (T := TX11) (N := 25) o_236 0 rfl win_X11 (by decide) rfl wf_X11_7 dX11_by_52 ?_
        refine r_sipush B dX11_by_55 (by decide) ?_
        refine r_ald B a_237 (by decide) (by decide) dX11_by_58 ?_
        refine r_iload_n B dX11_by_59 rfl rfl ?_
        refine r_icmp_gt B (tgt := 78) dX11_by_60 (by decide) ((hI _ _)) h1 (fun h => ?_) (fun h => ?_)
        · have v := v.1 h
          refine r_sub [0, 2, 3, 4] rfl ?_
          exact k78 x3 x4 _ hI h3 h4 v
        · have v := v.2 h
          refine r_iload B dX11_by_63 rfl ?_
          refine r_aload_n B dX11_by_65 rfl rfl ?_
          refine r_cI B (st := [.int (i2 x4)]) (as := []) (T := TX11) (N := 25) (c_M_takes _ hI ) v o_236 rfl mw_M_takes wl_X11_122 ⟨Nat.le_of_ble_eq_true rfl, Nat.le_of_ble_eq_true rfl⟩ rfl rfl (Nat.le_of_ble_eq_true rfl) dX11_by_66 (fun z26 I27 hz26 hI27 v => ?_)
          refine r_iadd B dX11_by_69 ?_
          refine r_istore B dX11_by_70 (by decide) (lv' := [(4, .int (i2 (x4 + z26))), (0, .ref (eA E 236)), (1, .int (i2 x1)), (2, .int (i2 x2)), (3, .int (i2 x3))]) rfl ?_
          refine r_sub [1, 2, 3, 4, 0] rfl ?_
          refine r_iinc B (q := 3) dX11_by_72 (by decide) rfl (lv' := [(3, .int (i2 (x3 + 1))), (0, .ref (eA E 236)), (1, .int (i2 x1)), (2, .int (i2 x2)), (4, .int (i2 (x4 + z26)))]) rfl ?_
          refine r_sub [1, 2, 3, 0, 4] rfl ?_
          refine r_goto B (tgt := 35) dX11_by_75 (by decide) ?_
          obtain ⟨h28, v⟩ := v
          obtain ⟨h29, v⟩ := v
          refine r_sub [0, 1, 2, 3, 4] rfl ?_
          exact ih (x3 + 1) (x4 + z26) _ hI27 h28 h29 v
set_option maxHeartbeats 4000000 in
set_option maxRecDepth 100000 in
theorem c_M_by {l : Launch} {E : En} {A : Nat → Prop} (x1 : Int) (x2 : Int) (I : Mm)  (hI : rgM I) (h1 : r32 x1) (h2 : r32 x2) : CI l E A yX11_by cX11_by 6 .int 7 162 [.ref (eA E 236), .int (i2 x1), .int (i2 x2)] I (V_M_by x1 x2 I) := by
  intro Q v
  refine mk_met (own := RX11) (lv0 := [(0, .ref (eA E 236)), (1, .int (i2 x1)), (2, .int (i2 x2))]) (by decide) rfl (Nat.le_of_ble_eq_true rfl) rfl (fun p e s m args below meth c0 B hr hk => ?_)
  unfold V_M_by at v
  refine r_iload_n B dX11_by_0 rfl rfl ?_
  refine r_i2l B dX11_by_1 h1 ?_
  refine r_lconst B 0 dX11_by_2 (by decide) ?_
  refine r_ldc2 B (999999999) dX11_by_3 wc_X11_115 (by decide) ?_
  refine r_sI B (st := []) (as := [.long (l2 x1), .long (l2 0), .long (l2 999999999)]) (c_M_in x1 0 999999999 _ hI ((rg_64 h1)) ((show r64 (0) by exact ⟨by decide, by decide⟩)) ((show r64 (999999999) by exact ⟨by decide, by decide⟩))) v mw_M_in wl_X11_55 ⟨Nat.le_of_ble_eq_true rfl, Nat.le_of_ble_eq_true rfl⟩ rfl rfl (Nat.le_of_ble_eq_true rfl) dX11_by_6 (fun z21 I22 hz21 hI22 v => ?_)
  refine r_if_eq B (tgt := 24) dX11_by_9 (by decide) hz21 (fun h => ?_) (fun h => ?_)
  · have v := v.1 h
    refine r_iconst B dX11_by_24 ?_
    exact r_iret B hr hk rfl ((rg_lit (by decide) (by decide))) hI22 v dX11_by_25
  · have v := v.2 h
    refine r_iload_n B dX11_by_12 rfl rfl ?_
    refine r_i2l B dX11_by_13 h2 ?_
    refine r_lconst B 0 dX11_by_14 (by decide) ?_
    refine r_ldc2 B (2) dX11_by_15 wc_X11_59 (by decide) ?_
    refine r_sI B (st := []) (as := [.long (l2 x2), .long (l2 0), .long (l2 2)]) (c_M_in x2 0 2 _ hI22 ((rg_64 h2)) ((show r64 (0) by exact ⟨by decide, by decide⟩)) ((show r64 (2) by exact ⟨by decide, by decide⟩))) v mw_M_in wl_X11_55 ⟨Nat.le_of_ble_eq_true rfl, Nat.le_of_ble_eq_true rfl⟩ rfl rfl (Nat.le_of_ble_eq_true rfl) dX11_by_18 (fun z23 I24 hz23 hI24 v => ?_)
    refine r_if_ne B (tgt := 26) dX11_by_21 (by decide) hz23 (fun h => ?_) (fun h => ?_)
    · have v := v.1 h
      refine r_aload_n B dX11_by_26 rfl rfl ?_
      refine r_cV B (st := []) (as := []) (T := TX11) (N := 25) (c_M_keepsAside _ hI24 ) v o_236 rfl mw_M_keepsAside wl_X11_201 ⟨Nat.le_of_ble_eq_true rfl, Nat.le_of_ble_eq_true rfl⟩ rfl rfl (Nat.le_of_ble_eq_true rfl) dX11_by_27 (fun I25 hI25 v => ?_)
      refine r_iconst B dX11_by_30 ?_
      refine r_istore_n B dX11_by_31 rfl (by decide) (lv' := [(3, .int (i2 0)), (0, .ref (eA E 236)), (1, .int (i2 x1)), (2, .int (i2 x2))]) rfl ?_
      refine r_sub [1, 2, 3, 0] rfl ?_
      refine r_iconst B dX11_by_32 ?_
      refine r_istore B dX11_by_33 (by decide) (lv' := [(4, .int (i2 0)), (0, .ref (eA E 236)), (1, .int (i2 x1)), (2, .int (i2 x2)), (3, .int (i2 0))]) rfl ?_
      refine r_sub [1, 2, 3, 4, 0] rfl ?_
      obtain ⟨f34, v⟩ := v
      refine r_sub [0, 1, 2, 3, 4] rfl ?_
      refine wL_M_by_35 B hr hk h1 h2 (fun y30 y31 I32 hI32 hy30 hy31 v => ?_) f34 0 0 I25 hI25 ((rg_lit (by decide) (by decide))) ((rg_lit (by decide) (by decide))) v
      · refine r_aload_n B dX11_by_78 rfl rfl ?_
        refine r_getR B (C := RX11) (T := TX11) (N := 25) o_236 0 rfl win_X11 (by decide) rfl wf_X11_7 dX11_by_79 ?_
        refine r_iconst B dX11_by_82 ?_
        refine r_ald B a_237 (by decide) (by decide) dX11_by_83 ?_
        refine r_istore B dX11_by_84 (by decide) (lv' := [(5, .int (i2 (I32 237 0))), (0, .ref (eA E 236)), (2, .int (i2 x2)), (3, .int (i2 y30)), (4, .int (i2 y31))]) rfl ?_
        refine r_sub [1, 2, 3, 4, 0] rfl ?_
        refine r_aload_n B dX11_by_86 rfl rfl ?_
        refine r_cV B (st := []) (as := []) (T := TX11) (N := 25) (c_M_isAgain _ hI32 ) v o_236 rfl mw_M_isAgain wl_X11_204 ⟨Nat.le_of_ble_eq_true rfl, Nat.le_of_ble_eq_true rfl⟩ rfl rfl (Nat.le_of_ble_eq_true rfl) dX11_by_87 (fun I33 hI33 v => ?_)
        refine r_iload_n B dX11_by_90 rfl rfl ?_
        refine r_if_ne B (tgt := 98) dX11_by_91 (by decide) h2 (fun h => ?_) (fun h => ?_)
        · have v := v.1 h
          refine r_iload_n B dX11_by_98 rfl rfl ?_
          refine r_iconst B dX11_by_99 ?_
          refine r_icmp_ne B (tgt := 108) dX11_by_100 (by decide) h2 ((rg_lit (by decide) (by decide))) (fun h => ?_) (fun h => ?_)
          · have v := v.1 h
            refine r_iload B dX11_by_108 rfl ?_
            exact r_iret B hr hk rfl ((hI32 _ _)) hI33 v dX11_by_110
          · have v := v.2 h
            refine r_iload B dX11_by_103 rfl ?_
            refine r_goto B (tgt := 110) dX11_by_105 (by decide) ?_
            exact r_iret B hr hk rfl hy31 hI33 v dX11_by_110
        · have v := v.2 h
          refine r_iload_n B dX11_by_94 rfl rfl ?_
          refine r_goto B (tgt := 110) dX11_by_95 (by decide) ?_
          exact r_iret B hr hk rfl hy30 hI33 v dX11_by_110
    · have v := v.2 h
      refine r_iconst B dX11_by_24 ?_
      exact r_iret B hr hk rfl ((rg_lit (by decide) (by decide))) hI24 v dX11_by_25
