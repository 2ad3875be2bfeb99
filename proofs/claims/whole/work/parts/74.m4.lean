set_option maxHeartbeats 4000000 in
set_option maxRecDepth 100000 in
theorem c_X_same {l : Launch} {E : En} {A : Nat → Prop} (x1 : Int) (x2 : Int) (I : Mm)  (hI : rgM I) (h1 : r32 x1) (h2 : r32 x2) : CI l E A yX10_same cX10_same 5 .int 1 23 [.ref (eA E 0), .int (i2 x1), .int (i2 x2)] I (V_X_same x1 x2 I) := by
  intro Q v
  refine mk_met (own := RX10) (lv0 := [(0, .ref (eA E 0)), (1, .int (i2 x1)), (2, .int (i2 x2))]) (by decide) rfl (Nat.le_of_ble_eq_true rfl) rfl (fun p e s m args below meth c0 B hr hk => ?_)
  unfold V_X_same at v
  refine r_iload_n B dX10_same_0 rfl rfl ?_
  refine r_sI B (st := []) (as := [.int (i2 x1)]) (c_X_isShelf x1 _ hI h1) v mw_X_isShelf wl_X10_225 ⟨Nat.le_of_ble_eq_true rfl, Nat.le_of_ble_eq_true rfl⟩ rfl rfl (Nat.le_of_ble_eq_true rfl) dX10_same_1 (fun z21 I22 hz21 hI22 v => ?_)
  refine r_if_eq B (tgt := 16) dX10_same_4 (by decide) hz21 (fun h => ?_) (fun h => ?_)
  · have v := v.1 h
    refine r_iconst B dX10_same_16 ?_
    exact r_iret B hr hk rfl ((rg_lit (by decide) (by decide))) hI22 v dX10_same_17
  · have v := v.2 h
    refine r_iload_n B dX10_same_7 rfl rfl ?_
    refine r_if_lt B (tgt := 16) dX10_same_8 (by decide) h2 (fun h => ?_) (fun h => ?_)
    · have v := v.1 h
      refine r_iconst B dX10_same_16 ?_
      exact r_iret B hr hk rfl ((rg_lit (by decide) (by decide))) hI22 v dX10_same_17
    · have v := v.2 h
      refine r_iload_n B dX10_same_11 rfl rfl ?_
      refine r_iconst B dX10_same_12 ?_
      refine r_icmp_le B (tgt := 18) dX10_same_13 (by decide) h2 ((rg_lit (by decide) (by decide))) (fun h => ?_) (fun h => ?_)
      · have v := v.1 h
        refine r_aload_n B dX10_same_18 rfl rfl ?_
        refine r_iload_n B dX10_same_19 rfl rfl ?_
        refine r_cI B (st := []) (as := [.int (i2 x1)]) (T := TX10) (N := 11) (c_X_isKept x1 _ hI22 h1) v o_0 rfl mw_X_isKept wl_X10_228 ⟨Nat.le_of_ble_eq_true rfl, Nat.le_of_ble_eq_true rfl⟩ rfl rfl (Nat.le_of_ble_eq_true rfl) dX10_same_20 (fun z23 I24 hz23 hI24 v => ?_)
        refine r_if_ne B (tgt := 29) dX10_same_23 (by decide) hz23 (fun h => ?_) (fun h => ?_)
        · have v := v.1 h
          refine r_aload_n B dX10_same_29 rfl rfl ?_
          refine r_getR B (C := RX10) (T := TX10) (N := 11) o_0 7 rfl win_X10 (by decide) rfl wf_X10_56 dX10_same_30 ?_
          refine r_iload_n B dX10_same_33 rfl rfl ?_
          obtain ⟨h25, v⟩ := v
          refine r_aald B (b := 202) (n := 2) q_201.1 q_201.2.1 (by decide) q_201.2.2 h25 dX10_same_34 ?_
          refine r_astore_n B dX10_same_35 rfl (by decide) (lv' := [(3, .ref (eA E (202 + 16 * x1))), (0, .ref (eA E 0)), (1, .int (i2 x1)), (2, .int (i2 x2))]) rfl ?_
          refine r_sub [1, 2, 3, 0] rfl ?_
          refine r_iload_n B dX10_same_36 rfl rfl ?_
          refine r_if_ne B (tgt := 57) dX10_same_37 (by decide) h2 (fun h => ?_) (fun h => ?_)
          · have v := v.1 h
            refine r_aload_n B dX10_same_57 rfl rfl ?_
            refine r_getR B (C := RX10) (T := TX10) (N := 11) o_0 0 rfl win_X10 (by decide) rfl wf_X10_10 dX10_same_58 ?_
            refine r_getR B (C := RX0) (T := TX0) (N := 9) (ca_1.1) 2 rfl win_X0 (by decide) rfl wf_X10_191 dX10_same_61 ?_
            refine r_aload_n B dX10_same_64 rfl rfl ?_
            refine r_getR B (C := RX0) (T := TX0) (N := 9) ((ca_shel h25).1) 2 rfl win_X0 (by decide) rfl wf_X10_191 dX10_same_65 ?_
            refine r_cI B (st := []) (as := [.ref (eA E (202 + 16 * x1 + 9))]) (T := TX5) (N := 4) (c_Ru_isLike (1 + 9) (202 + 16 * x1 + 9) _ (ca_1.2.2.2.1) ((ca_shel h25).2.2.2.1) hI24 ) v (ca_1.2.2.2.1.1) rfl mw_Ru_isLike wl_X10_334 ⟨Nat.le_of_ble_eq_true rfl, Nat.le_of_ble_eq_true rfl⟩ rfl rfl (Nat.le_of_ble_eq_true rfl) dX10_same_68 (fun z26 I27 hz26 hI27 v => ?_)
            refine r_istore B dX10_same_71 (by decide) (lv' := [(4, .int (i2 z26)), (0, .ref (eA E 0)), (1, .int (i2 x1)), (2, .int (i2 x2)), (3, .ref (eA E (202 + 16 * x1)))]) rfl ?_
            refine r_sub [1, 2, 3, 4, 0] rfl ?_
            refine r_iload B dX10_same_73 rfl ?_
            refine r_if_eq B (tgt := 82) dX10_same_75 (by decide) hz26 (fun h => ?_) (fun h => ?_)
            · have v := v.1 h
              refine r_iconst B dX10_same_82 ?_
              exact r_iret B hr hk rfl ((rg_lit (by decide) (by decide))) hI27 v dX10_same_83
            · have v := v.2 h
              refine r_iconst B dX10_same_78 ?_
              refine r_goto B (tgt := 83) dX10_same_79 (by decide) ?_
              exact r_iret B hr hk rfl ((rg_lit (by decide) (by decide))) hI27 v dX10_same_83
          · have v := v.2 h
            refine r_aload_n B dX10_same_40 rfl rfl ?_
            refine r_getR B (C := RX10) (T := TX10) (N := 11) o_0 0 rfl win_X10 (by decide) rfl wf_X10_10 dX10_same_41 ?_
            refine r_getR B (C := RX0) (T := TX0) (N := 9) (ca_1.1) 1 rfl win_X0 (by decide) rfl wf_X10_89 dX10_same_44 ?_
            refine r_aload_n B dX10_same_47 rfl rfl ?_
            refine r_getR B (C := RX0) (T := TX0) (N := 9) ((ca_shel h25).1) 1 rfl win_X0 (by decide) rfl wf_X10_89 dX10_same_48 ?_
            refine r_cI B (st := []) (as := [.ref (eA E (202 + 16 * x1 + 5))]) (T := TX8) (N := 4) (c_Th_isLike (1 + 5) (202 + 16 * x1 + 5) _ (ca_1.2.2.1) ((ca_shel h25).2.2.1) hI24 ) v (ca_1.2.2.1.1) rfl mw_Th_isLike wl_X10_330 ⟨Nat.le_of_ble_eq_true rfl, Nat.le_of_ble_eq_true rfl⟩ rfl rfl (Nat.le_of_ble_eq_true rfl) dX10_same_51 (fun z28 I29 hz28 hI29 v => ?_)
            refine r_goto B (tgt := 71) dX10_same_54 (by decide) ?_
            refine r_istore B dX10_same_71 (by decide) (lv' := [(4, .int (i2 z28)), (0, .ref (eA E 0)), (1, .int (i2 x1)), (2, .int (i2 x2)), (3, .ref (eA E (202 + 16 * x1)))]) rfl ?_
            refine r_sub [1, 2, 3, 4, 0] rfl ?_
            refine r_iload B dX10_same_73 rfl ?_
            refine r_if_eq B (tgt := 82) dX10_same_75 (by decide) hz28 (fun h => ?_) (fun h => ?_)
            · have v := v.1 h
              refine r_iconst B dX10_same_82 ?_
              exact r_iret B hr hk rfl ((rg_lit (by decide) (by decide))) hI29 v dX10_same_83
            · have v := v.2 h
              refine r_iconst B dX10_same_78 ?_
              refine r_goto B (tgt := 83) dX10_same_79 (by decide) ?_
              exact r_iret B hr hk rfl ((rg_lit (by decide) (by decide))) hI29 v dX10_same_83
        · have v := v.2 h
          refine r_bipush B dX10_same_26 (by decide) ?_
          exact r_iret B hr hk rfl ((rg_lit (by decide) (by decide))) hI24 v dX10_same_28
      · have v := v.2 h
        refine r_iconst B dX10_same_16 ?_
        exact r_iret B hr hk rfl ((rg_lit (by decide) (by decide))) hI22 v dX10_same_17
set_option maxHeartbeats 4000000 in
set_option maxRecDepth 100000 in
theorem c_Te_put {l : Launch} {E : En} {A : Nat → Prop} (x1 : Int) (I : Mm)  (hI : rgM I) (h1 : r32 x1) : CV l E A yX7_put cX7_put 2 0 0 [.ref (eA E 36), .int (i2 x1)] I (V_Te_put x1 I) := by
  intro Q v
  refine mk_met (own := RX7) (lv0 := [(0, .ref (eA E 36)), (1, .int (i2 x1))]) (by decide) rfl (Nat.le_of_ble_eq_true rfl) rfl (fun p e s m args below meth c0 B hr hk => ?_)
  unfold V_Te_put at v
  refine r_aload_n B dX7_put_0 rfl rfl ?_
  refine r_getI B (C := RX7) (T := TX7) (N := 3) o_36 1 rfl win_X7 (by decide) rfl wf_X7_15 dX7_put_1 (jj := 1) rfl ?_
  refine r_aload_n B dX7_put_4 rfl rfl ?_
  refine r_getI B (C := RX7) (T := TX7) (N := 3) o_36 0 rfl win_X7 (by decide) rfl wf_X7_9 dX7_put_5 (jj := 0) rfl ?_
  refine r_icmp_ne B (tgt := 16) dX7_put_8 (by decide) ((hI _ _)) ((hI _ _)) (fun h => ?_) (fun h => ?_)
  · have v := v.1 h
    refine r_aload_n B dX7_put_16 rfl rfl ?_
    refine r_dup B dX7_put_17 rfl ?_
    refine r_getI B (C := RX7) (T := TX7) (N := 3) o_36 1 rfl win_X7 (by decide) rfl wf_X7_15 dX7_put_18 (jj := 1) rfl ?_
    refine r_iconst B dX7_put_21 ?_
    refine r_iadd B dX7_put_22 ?_
    obtain ⟨h21, v⟩ := v
    refine r_putI B (C := RX7) (T := TX7) (N := 3) o_36 1 rfl win_X7 tyX7 tyX7_ok nmX7 (by decide) rfl rfl rfl wf_X7_15 dX7_put_23 (jj := 1) rfl ?_
    have hI22 : rgM (wrM I 36 1 (I 36 1 + 1)) := rg_wr hI h21
    exact r_vret B hr hk hI22 v dX7_put_26
  · have v := v.2 h
    refine r_aload_n B dX7_put_11 rfl rfl ?_
    refine r_iload_n B dX7_put_12 rfl rfl ?_
    refine r_putI B (C := RX7) (T := TX7) (N := 3) o_36 2 rfl win_X7 tyX7 tyX7_ok nmX7 (by decide) rfl rfl rfl wf_X7_18 dX7_put_13 (jj := 2) rfl ?_
    have hI23 : rgM (wrM I 36 2 x1) := rg_wr hI h1
    refine r_aload_n B dX7_put_16 rfl rfl ?_
    refine r_dup B dX7_put_17 rfl ?_
    refine r_getI B (C := RX7) (T := TX7) (N := 3) o_36 1 rfl win_X7 (by decide) rfl wf_X7_15 dX7_put_18 (jj := 1) rfl ?_
    refine r_iconst B dX7_put_21 ?_
    refine r_iadd B dX7_put_22 ?_
    obtain ⟨h24, v⟩ := v
    refine r_putI B (C := RX7) (T := TX7) (N := 3) o_36 1 rfl win_X7 tyX7 tyX7_ok nmX7 (by decide) rfl rfl rfl wf_X7_15 dX7_put_23 (jj := 1) rfl ?_
    have hI25 : rgM (wrM ((wrM I 36 2 x1)) 36 1 ((wrM I 36 2 x1) 36 1 + 1)) := rg_wr hI23 h24
    exact r_vret B hr hk hI25 v dX7_put_26
set_option maxHeartbeats 4000000 in
set_option maxRecDepth 100000 in
theorem wL_Te_putText_2 {p : Program} {l : Launch} {e : Env} {s : State} {m : MethodId} {args : Array Value} {below : List Frame} {meth : Method} {c0 : Code} {E : En} {A : Nat → Prop} {w1 : Nat} {Q : Mm → Prop}  (B : Bd p (rmm 4 120) s m args c0 cX7_putText 3 RX7 E A 0 0) (hr : meth.sig.returnType = none) (hk : meth.locks = false) (hw1 : w1 < slen.length)   : ∀ (n : Nat) (x2 : Int) (I : Mm), rgM I → r32 x2 → L_Te_putText_2 w1 Q n x2 I → WI p l e (rmm 4 120) s m args below meth c0 E A 3 0 0 (qV below E A args s Q) I 2 [(0, .ref (eA E 36)), (1, .ref (eS E w1)), (2, .int (i2 x2))] [] := by
  intro n
  induction n with
  | zero => intro x2 I _ _ v; exact absurd v id
  | succ n ih =>
    intro x2 I hI h2 v
    unfold L_Te_putText_2 at v
    refine r_iload_n B dX7_putText_2 rfl rfl ?_
    refine r_aload_n B dX7_putText_3 rfl rfl ?_
    refine r_strlen B hw1 hI ⟨Nat.le_of_ble_eq_true rfl, Nat.le_of_ble_eq_true rfl⟩ (Nat.le_of_ble_eq_true rfl) wl_X7_90 dX7_putText_4 ?_
    refine r_icmp_ge B (tgt := 25) dX7_putText_7 (by decide) h2 ((rg_slen hw1)) (fun h => ?_) (fun h => ?_)
    · have v := v.1 h
      exact r_vret B hr hk hI v dX7_putText_25
    · have v := v.2 h
      refine r_aload_n B dX7_putText_10 rfl rfl ?_
      refine r_aload_n B dX7_putText_11 rfl rfl ?_
      refine r_iload_n B dX7_putText_12 rfl rfl ?_
      obtain ⟨h22, v⟩ := v
      refine r_strchr B hw1 hI h2 h22 ⟨Nat.le_of_ble_eq_true rfl, Nat.le_of_ble_eq_true rfl⟩ (Nat.le_of_ble_eq_true rfl) wl_X7_95 dX7_putText_13 ?_
      refine r_cV B (st := []) (as := [.int (i2 (sch w1 x2))]) (T := TX7) (N := 3) (c_Te_put (sch w1 x2) _ hI ((rg_sch _ _))) v o_36 rfl mw_Te_put wl_X7_99 ⟨Nat.le_of_ble_eq_true rfl, Nat.le_of_ble_eq_true rfl⟩ rfl rfl (Nat.le_of_ble_eq_true rfl) dX7_putText_16 (fun I23 hI23 v => ?_)
      refine r_iinc B (q := 2) dX7_putText_19 (by decide) rfl (lv' := [(2, .int (i2 (x2 + 1))), (0, .ref (eA E 36)), (1, .ref (eS E w1))]) rfl ?_
      refine r_sub [1, 2, 0] rfl ?_
      refine r_goto B (tgt := 2) dX7_putText_22 (by decide) ?_
      obtain ⟨h24, v⟩ := v
      refine r_sub [0, 1, 2] rfl ?_
      exact ih (x2 + 1) _ hI23 h24 v
set_option maxHeartbeats 4000000 in
set_option maxRecDepth 100000 in
theorem c_Te_putText {l : Launch} {E : En} {A : Nat → Prop} (w1 : Nat) (I : Mm) (hw1 : w1 < slen.length) (hI : rgM I)  : CV l E A yX7_putText cX7_putText 3 4 120 [.ref (eA E 36), .ref (eS E w1)] I (V_Te_putText w1 I) := by
  intro Q v
  refine mk_met (own := RX7) (lv0 := [(0, .ref (eA E 36)), (1, .ref (eS E w1))]) (by decide) rfl (Nat.le_of_ble_eq_true rfl) rfl (fun p e s m args below meth c0 B hr hk => ?_)
  unfold V_Te_putText at v
  refine r_iconst B dX7_putText_0 ?_
  refine r_istore_n B dX7_putText_1 rfl (by decide) (lv' := [(2, .int (i2 0)), (0, .ref (eA E 36)), (1, .ref (eS E w1))]) rfl ?_
  refine r_sub [1, 2, 0] rfl ?_
  obtain ⟨f25, v⟩ := v
  refine r_sub [0, 1, 2] rfl ?_
  exact wL_Te_putText_2 B hr hk hw1 f25 0 I hI ((rg_lit (by decide) (by decide))) v
set_option maxHeartbeats 4000000 in
set_option maxRecDepth 100000 in
theorem wJ_Te_putNumber_18 {p : Program} {l : Launch} {e : Env} {s : State} {m : MethodId} {args : Array Value} {below : List Frame} {meth : Method} {c0 : Code} {E : En} {A : Nat → Prop} {x1 : Int} {Q : Mm → Prop} {K3 : Int → Mm → Prop} (B : Bd p (rmm 1 21) s m args c0 cX7_putNumber 3 RX7 E A 0 0) (hr : meth.sig.returnType = none) (hk : meth.locks = false) (h1 : r32 x1)  (k3 : ∀ (x2 : Int) (I : Mm), rgM I → r32 x2 → K3 x2 I → WI p l e (rmm 1 21) s m args below meth c0 E A 3 0 0 (qV below E A args s Q) I 3 [(0, .ref (eA E 36)), (1, .int (i2 x1)), (2, .int (i2 x2))] []) : ∀ (x2 : Int) (I : Mm), rgM I → r32 x2 → J_Te_putNumber_18 x1 Q K3 x2 I → WI p l e (rmm 1 21) s m args below meth c0 E A 3 0 0 (qV below E A args s Q) I 18 [(0, .ref (eA E 36)), (1, .int (i2 x1)), (2, .int (i2 x2))] [] := by
  intro x2 I hI h2 v
  unfold J_Te_putNumber_18 at v
  refine r_aload_n B dX7_putNumber_18 rfl rfl ?_
  refine r_bipush B dX7_putNumber_19 (by decide) ?_
  refine r_iload_n B dX7_putNumber_21 rfl rfl ?_
  refine r_iload_n B dX7_putNumber_22 rfl rfl ?_
  obtain ⟨h21, v⟩ := v
  refine r_idiv B dX7_putNumber_23 h1 h2 h21 ?_
  refine r_bipush B dX7_putNumber_24 (by decide) ?_
  obtain ⟨h22, v⟩ := v
  refine r_irem B dX7_putNumber_26 ((rg_div h1 h21.1 h21.2)) ((rg_lit (by decide) (by decide))) (show 0 ≤ (x1 / x2) ∧ (0 : Int) < 10 from ⟨h22, by decide⟩) ?_
  refine r_iadd B dX7_putNumber_27 ?_
  obtain ⟨h23, v⟩ := v
  refine r_cV B (st := []) (as := [.int (i2 (48 + ((x1 / x2) % 10)))]) (T := TX7) (N := 3) (c_Te_put (48 + ((x1 / x2) % 10)) _ hI h23) v o_36 rfl mw_Te_put wl_X7_99 ⟨Nat.le_of_ble_eq_true rfl, Nat.le_of_ble_eq_true rfl⟩ rfl rfl (Nat.le_of_ble_eq_true rfl) dX7_putNumber_28 (fun I24 hI24 v => ?_)
  refine r_iload_n B dX7_putNumber_31 rfl rfl ?_
  refine r_bipush B dX7_putNumber_32 (by decide) ?_
  obtain ⟨h25, v⟩ := v
  refine r_idiv B dX7_putNumber_34 h2 ((rg_lit (by decide) (by decide))) (show 0 ≤ x2 ∧ (0 : Int) < 10 from ⟨h25, by decide⟩) ?_
  refine r_istore_n B dX7_putNumber_35 rfl (by decide) (lv' := [(2, .int (i2 (x2 / 10))), (0, .ref (eA E 36)), (1, .int (i2 x1))]) rfl ?_
  refine r_sub [1, 2, 0] rfl ?_
  refine r_goto B (tgt := 3) dX7_putNumber_36 (by decide) ?_
  refine r_sub [0, 1, 2] rfl ?_
  exact k3 (x2 / 10) _ hI24 ((rg_div h2 (show 0 ≤ x2 ∧ (0 : Int) < 10 from ⟨h25, by decide⟩).1 (show 0 ≤ x2 ∧ (0 : Int) < 10 from ⟨h25, by decide⟩).2)) v
set_option maxHeartbeats 4000000 in
set_option maxRecDepth 100000 in
theorem wL_Te_putNumber_3 {p : Program} {l : Launch} {e : Env} {s : State} {m : MethodId} {args : Array Value} {below : List Frame} {meth : Method} {c0 : Code} {E : En} {A : Nat → Prop} {x1 : Int} {Q : Mm → Prop}  (B : Bd p (rmm 1 21) s m args c0 cX7_putNumber 3 RX7 E A 0 0) (hr : meth.sig.returnType = none) (hk : meth.locks = false) (h1 : r32 x1)   : ∀ (n : Nat) (x2 : Int) (I : Mm), rgM I → r32 x2 → L_Te_putNumber_3 x1 Q n x2 I → WI p l e (rmm 1 21) s m args below meth c0 E A 3 0 0 (qV below E A args s Q) I 3 [(0, .ref (eA E 36)), (1, .int (i2 x1)), (2, .int (i2 x2))] [] := by
  intro n
  induction n with
  | zero => intro x2 I _ _ v; exact absurd v id
  | succ n ih =>
    intro x2 I hI h2 v
    unfold L_Te_putNumber_3 at v
    refine r_iload_n B dX7_putNumber_3 rfl rfl ?_
    refine r_iconst B dX7_putNumber_4 ?_
    refine r_icmp_lt B (tgt := 39) dX7_putNumber_5 (by decide) h2 ((rg_lit (by decide) (by decide))) (fun h => ?_) (fun h => ?_)
    · have v := v.1 h
      exact r_vret B hr hk hI v dX7_putNumber_39
    · have v := v.2 h
      refine r_iload_n B dX7_putNumber_8 rfl rfl ?_
      refine r_iload_n B dX7_putNumber_9 rfl rfl ?_
      refine r_icmp_ge B (tgt := 18) dX7_putNumber_10 (by decide) h1 h2 (fun h => ?_) (fun h => ?_)
      · have v := v.1 h
        refine r_sub [0, 1, 2] rfl ?_
        exact wJ_Te_putNumber_18 B hr hk h1 ih x2 I hI h2 v
      · have v := v.2 h
        refine r_iload_n B dX7_putNumber_13 rfl rfl ?_
        refine r_iconst B dX7_putNumber_14 ?_
        refine r_icmp_ne B (tgt := 31) dX7_putNumber_15 (by decide) h2 ((rg_lit (by decide) (by decide))) (fun h => ?_) (fun h => ?_)
        · have v := v.1 h
          refine r_iload_n B dX7_putNumber_31 rfl rfl ?_
          refine r_bipush B dX7_putNumber_32 (by decide) ?_
          obtain ⟨h27, v⟩ := v
          refine r_idiv B dX7_putNumber_34 h2 ((rg_lit (by decide) (by decide))) (show 0 ≤ x2 ∧ (0 : Int) < 10 from ⟨h27, by decide⟩) ?_
          refine r_istore_n B dX7_putNumber_35 rfl (by decide) (lv' := [(2, .int (i2 (x2 / 10))), (0, .ref (eA E 36)), (1, .int (i2 x1))]) rfl ?_
          refine r_sub [1, 2, 0] rfl ?_
          refine r_goto B (tgt := 3) dX7_putNumber_36 (by decide) ?_
          refine r_sub [0, 1, 2] rfl ?_
          exact ih (x2 / 10) _ hI ((rg_div h2 (show 0 ≤ x2 ∧ (0 : Int) < 10 from ⟨h27, by decide⟩).1 (show 0 ≤ x2 ∧ (0 : Int) < 10 from ⟨h27, by decide⟩).2)) v
        · have v := v.2 h
          refine r_sub [0, 1, 2] rfl ?_
          exact wJ_Te_putNumber_18 B hr hk h1 ih x2 I hI h2 v
set_option maxHeartbeats 4000000 in
set_option maxRecDepth 100000 in
theorem c_Te_putNumber {l : Launch} {E : En} {A : Nat → Prop} (x1 : Int) (I : Mm)  (hI : rgM I) (h1 : r32 x1) : CV l E A yX7_putNumber cX7_putNumber 3 1 21 [.ref (eA E 36), .int (i2 x1)] I (V_Te_putNumber x1 I) := by
  intro Q v
  refine mk_met (own := RX7) (lv0 := [(0, .ref (eA E 36)), (1, .int (i2 x1))]) (by decide) rfl (Nat.le_of_ble_eq_true rfl) rfl (fun p e s m args below meth c0 B hr hk => ?_)
  unfold V_Te_putNumber at v
  refine r_ldc B (1000000000) dX7_putNumber_0 wc_X7_102 (by decide) ?_
  refine r_istore_n B dX7_putNumber_2 rfl (by decide) (lv' := [(2, .int (i2 1000000000)), (0, .ref (eA E 36)), (1, .int (i2 x1))]) rfl ?_
  refine r_sub [1, 2, 0] rfl ?_
  obtain ⟨f29, v⟩ := v
  refine r_sub [0, 1, 2] rfl ?_
  exact wL_Te_putNumber_3 B hr hk h1 f29 1000000000 I hI ((rg_lit (by decide) (by decide))) v
set_option maxHeartbeats 4000000 in
set_option maxRecDepth 100000 in
theorem wL_Te_putName_25 {p : Program} {l : Launch} {e : Env} {s : State} {m : MethodId} {args : Array Value} {below : List Frame} {meth : Method} {c0 : Code} {E : En} {A : Nat → Prop} {c1 : Int} {x2 : Int} {x3 : Int} {x4 : Int} {Q : Mm → Prop}  (B : Bd p (rmm 2 44) s m args c0 cX7_putName 6 RX7 E A 0 0) (hr : meth.sig.returnType = none) (hk : meth.locks = false) (hc1 : isNm c1) (h2 : r32 x2) (h3 : r32 x3) (h4 : r32 x4)  : ∀ (n : Nat) (x5 : Int) (I : Mm), rgM I → r32 x5 → L_Te_putName_25 c1 x2 x3 x4 Q n x5 I → WI p l e (rmm 2 44) s m args below meth c0 E A 6 0 0 (qV below E A args s Q) I 25 [(0, .ref (eA E 36)), (3, .int (i2 x3)), (4, .int (i2 x4)), (5, .int (i2 x5))] [] := by
  intro n
  induction n with
  | zero => intro x5 I _ _ v; exact absurd v id
  | succ n ih =>
    intro x5 I hI h5 v
    unfold L_Te_putName_25 at v
    refine r_iload B dX7_putName_25 rfl ?_
    refine r_iload B dX7_putName_27 rfl ?_
    refine r_icmp_ge B (tgt := 48) dX7_putName_29 (by decide) h5 h4 (fun h => ?_) (fun h => ?_)
    · have v := v.1 h
      exact r_vret B hr hk hI v dX7_putName_48
    · have v := v.2 h
      refine r_aload_n B dX7_putName_32 rfl rfl ?_
      refine r_iload_n B dX7_putName_33 rfl rfl ?_
      refine r_iload B dX7_putName_34 rfl ?_
      refine r_nI B (st := [.ref (eA E 36)]) (as := [.int (i2 x3), .int (i2 x5)]) (host := "DayRows") (c_X_letterAt x3 x5 _ hI h3 h5) v mw_X_letterAt (by decide) ⟨Nat.le_of_ble_eq_true rfl, Nat.le_of_ble_eq_true rfl⟩ rfl rfl (Nat.le_of_ble_eq_true rfl) dX7_putName_36 (fun z26 I27 hz26 hI27 v => ?_)
      refine r_cV B (st := []) (as := [.int (i2 z26)]) (T := TX7) (N := 3) (c_Te_put z26 _ hI27 hz26) v o_36 rfl mw_Te_put wl_X7_99 ⟨Nat.le_of_ble_eq_true rfl, Nat.le_of_ble_eq_true rfl⟩ rfl rfl (Nat.le_of_ble_eq_true rfl) dX7_putName_39 (fun I28 hI28 v => ?_)
      refine r_iinc B (q := 3) dX7_putName_42 (by decide) rfl (lv' := [(5, .int (i2 (x5 + 1))), (0, .ref (eA E 36)), (3, .int (i2 x3)), (4, .int (i2 x4))]) rfl ?_
      refine r_sub [1, 2, 3, 0] rfl ?_
      refine r_goto B (tgt := 25) dX7_putName_45 (by decide) ?_
      obtain ⟨h29, v⟩ := v
      refine r_sub [0, 1, 2, 3] rfl ?_
      exact ih (x5 + 1) _ hI28 h29 v
set_option maxHeartbeats 4000000 in
set_option maxRecDepth 100000 in
theorem c_Te_putName {l : Launch} {E : En} {A : Nat → Prop} (c1 : Int) (x2 : Int) (I : Mm) (hc1 : isNm c1) (hI : rgM I) (h2 : r32 x2) : CV l E A yX7_putName cX7_putName 6 2 44 [.ref (eA E 36), .ref (eA E c1), .int (i2 x2)] I (V_Te_putName c1 x2 I) := by
  intro Q v
  refine mk_met (own := RX7) (lv0 := [(0, .ref (eA E 36)), (1, .ref (eA E c1)), (2, .int (i2 x2))]) (by decide) rfl (Nat.le_of_ble_eq_true rfl) rfl (fun p e s m args below meth c0 B hr hk => ?_)
  unfold V_Te_putName at v
  refine r_aload_n B dX7_putName_0 rfl rfl ?_
  refine r_iload_n B dX7_putName_1 rfl rfl ?_
  refine r_cI B (st := []) (as := [.int (i2 x2)]) (T := TX3) (N := 4) (c_Nm_has c1 x2 _ hc1 hI h2) v (hc1.1) rfl mw_Nm_has wl_X7_103 ⟨Nat.le_of_ble_eq_true rfl, Nat.le_of_ble_eq_true rfl⟩ rfl rfl (Nat.le_of_ble_eq_true rfl) dX7_putName_2 (fun z21 I22 hz21 hI22 v => ?_)
  refine r_if_ne B (tgt := 9) dX7_putName_5 (by decide) hz21 (fun h => ?_) (fun h => ?_)
  · have v := v.1 h
    refine r_aload_n B dX7_putName_9 rfl rfl ?_
    refine r_getR B (C := RX3) (T := TX3) (N := 4) (hc1.1) 1 rfl win_X3 (by decide) rfl wf_X7_109 dX7_putName_10 ?_
    refine r_iload_n B dX7_putName_13 rfl rfl ?_
    obtain ⟨h23, v⟩ := v
    refine r_ald B (hc1.2.1) (by decide) h23 dX7_putName_14 ?_
    refine r_istore_n B dX7_putName_15 rfl (by decide) (lv' := [(3, .int (i2 (I22 (c1 + 1) x2))), (0, .ref (eA E 36)), (1, .ref (eA E c1)), (2, .int (i2 x2))]) rfl ?_
    refine r_sub [1, 2, 3, 0] rfl ?_
    refine r_iload_n B dX7_putName_16 rfl rfl ?_
    refine r_nI B (st := []) (as := [.int (i2 (I22 (c1 + 1) x2))]) (host := "DayRows") (c_X_lettersIn (I22 (c1 + 1) x2) _ hI22 ((hI22 _ _))) v mw_X_lettersIn (by decide) ⟨Nat.le_of_ble_eq_true rfl, Nat.le_of_ble_eq_true rfl⟩ rfl rfl (Nat.le_of_ble_eq_true rfl) dX7_putName_17 (fun z24 I25 hz24 hI25 v => ?_)
    refine r_istore B dX7_putName_20 (by decide) (lv' := [(4, .int (i2 z24)), (0, .ref (eA E 36)), (1, .ref (eA E c1)), (2, .int (i2 x2)), (3, .int (i2 (I22 (c1 + 1) x2)))]) rfl ?_
    refine r_sub [1, 2, 3, 4, 0] rfl ?_
    refine r_iconst B dX7_putName_22 ?_
    refine r_istore B dX7_putName_23 (by decide) (lv' := [(5, .int (i2 0)), (0, .ref (eA E 36)), (1, .ref (eA E c1)), (2, .int (i2 x2)), (3, .int (i2 (I22 (c1 + 1) x2))), (4, .int (i2 z24))]) rfl ?_
    refine r_sub [1, 2, 3, 4, 5, 0] rfl ?_
    obtain ⟨f30, v⟩ := v
    refine r_sub [0, 3, 4, 5] rfl ?_
    exact wL_Te_putName_25 B hr hk hc1 h2 ((hI22 _ _)) hz24 f30 0 I25 hI25 ((rg_lit (by decide) (by decide))) v
  · have v := v.2 h
    exact r_vret B hr hk hI22 v dX7_putName_8
set_option maxHeartbeats 4000000 in
set_option maxRecDepth 100000 in
theorem wL_Te_write_35 {p : Program} {l : Launch} {e : Env} {s : State} {m : MethodId} {args : Array Value} {below : List Frame} {meth : Method} {c0 : Code} {E : En} {A : Nat → Prop} {c1 : Int} {Q : Mm → Prop} {K91 : Mm → Prop} (B : Bd p (rmm 5 142) s m args c0 cX7_write 4 RX7 E A 0 0) (hr : meth.sig.returnType = none) (hk : meth.locks = false) (hc1 : isCa c1)  (k91 : ∀ (I : Mm), rgM I → K91 I → WI p l e (rmm 5 142) s m args below meth c0 E A 4 0 0 (qV below E A args s Q) I 91 [(0, .ref (eA E 36)), (1, .ref (eA E c1)), (2, .ref (eA E (c1 + 1)))] []) : ∀ (n : Nat) (x3 : Int) (I : Mm), rgM I → r32 x3 → L_Te_write_35 c1 Q K91 n x3 I → WI p l e (rmm 5 142) s m args below meth c0 E A 4 0 0 (qV below E A args s Q) I 35 [(0, .ref (eA E 36)), (1, .ref (eA E c1)), (2, .ref (eA E (c1 + 1))), (3, .int (i2 x3))] [] := by
  intro n
  induction n with
  | zero => intro x3 I _ _ v; exact absurd v id
  | succ n ih =>
    intro x3 I hI h3 v
    unfold L_Te_write_35 at v
    refine r_iload_n B dX7_write_35 rfl rfl ?_
    refine r_aload_n B dX7_write_36 rfl rfl ?_
    refine r_getR B (C := RX0) (T := TX0) (N := 9) (hc1.1) 1 rfl win_X0 (by decide) rfl wf_X7_49 dX7_write_37 ?_
    refine r_getI B (C := RX8) (T := TX8) (N := 4) (hc1.2.2.1.1) 0 rfl win_X8 (by decide) rfl wf_X7_53 dX7_write_40 (jj := 0) rfl ?_
    refine r_icmp_ge B (tgt := 91) dX7_write_43 (by decide) h3 ((hI _ _)) (fun h => ?_) (fun h => ?_)
    · have v := v.1 h
      refine r_sub [0, 1, 2] rfl ?_
      exact k91 _ hI v
    · have v := v.2 h
      refine r_aload_n B dX7_write_46 rfl rfl ?_
      refine r_ldcS B (i := 10) (tx := ";at ") (by decide) dX7_write_47 ?_
      refine r_cV B (st := []) (as := [.ref (eS E 10)]) (T := TX7) (N := 3) (c_Te_putText 10 _ ((by decide)) hI ) v o_36 rfl mw_Te_putText wl_X7_27 ⟨Nat.le_of_ble_eq_true rfl, Nat.le_of_ble_eq_true rfl⟩ rfl rfl (Nat.le_of_ble_eq_true rfl) dX7_write_49 (fun I25 hI25 v => ?_)
      refine r_aload_n B dX7_write_52 rfl rfl ?_
      refine r_aload_n B dX7_write_53 rfl rfl ?_
      refine r_getR B (C := RX0) (T := TX0) (N := 9) (hc1.1) 1 rfl win_X0 (by decide) rfl wf_X7_49 dX7_write_54 ?_
      refine r_getR B (C := RX8) (T := TX8) (N := 4) (hc1.2.2.1.1) 3 rfl win_X8 (by decide) rfl wf_X7_60 dX7_write_57 ?_
      refine r_iload_n B dX7_write_60 rfl rfl ?_
      obtain ⟨h26, v⟩ := v
      refine r_ald B (hc1.2.2.1.2.2.2) (by decide) h26 dX7_write_61 ?_
      refine r_cV B (st := []) (as := [.int (i2 (I25 (c1 + 5 + 3) x3))]) (T := TX7) (N := 3) (c_Te_putNumber (I25 (c1 + 5 + 3) x3) _ hI25 ((hI25 _ _))) v o_36 rfl mw_Te_putNumber wl_X7_36 ⟨Nat.le_of_ble_eq_true rfl, Nat.le_of_ble_eq_true rfl⟩ rfl rfl (Nat.le_of_ble_eq_true rfl) dX7_write_62 (fun I27 hI27 v => ?_)
      refine r_aload_n B dX7_write_65 rfl rfl ?_
      refine r_ldcS B (i := 11) (tx := " ") (by decide) dX7_write_66 ?_
      refine r_cV B (st := []) (as := [.ref (eS E 11)]) (T := TX7) (N := 3) (c_Te_putText 11 _ ((by decide)) hI27 ) v o_36 rfl mw_Te_putText wl_X7_27 ⟨Nat.le_of_ble_eq_true rfl, Nat.le_of_ble_eq_true rfl⟩ rfl rfl (Nat.le_of_ble_eq_true rfl) dX7_write_68 (fun I28 hI28 v => ?_)
      refine r_aload_n B dX7_write_71 rfl rfl ?_
      refine r_aload_n B dX7_write_72 rfl rfl ?_
      refine r_aload_n B dX7_write_73 rfl rfl ?_
      refine r_getR B (C := RX0) (T := TX0) (N := 9) (hc1.1) 1 rfl win_X0 (by decide) rfl wf_X7_49 dX7_write_74 ?_
      refine r_getR B (C := RX8) (T := TX8) (N := 4) (hc1.2.2.1.1) 2 rfl win_X8 (by decide) rfl wf_X7_66 dX7_write_77 ?_
      refine r_iload_n B dX7_write_80 rfl rfl ?_
      obtain ⟨h29, v⟩ := v
      refine r_ald B (hc1.2.2.1.2.2.1) (by decide) h29 dX7_write_81 ?_
      refine r_cV B (st := []) (as := [.ref (eA E (c1 + 1)), .int (i2 (I28 (c1 + 5 + 2) x3))]) (T := TX7) (N := 3) (c_Te_putName (c1 + 1) (I28 (c1 + 5 + 2) x3) _ (hc1.2.1) hI28 ((hI28 _ _))) v o_36 rfl mw_Te_putName wl_X7_68 ⟨Nat.le_of_ble_eq_true rfl, Nat.le_of_ble_eq_true rfl⟩ rfl rfl (Nat.le_of_ble_eq_true rfl) dX7_write_82 (fun I30 hI30 v => ?_)
      refine r_iinc B (q := 3) dX7_write_85 (by decide) rfl (lv' := [(3, .int (i2 (x3 + 1))), (0, .ref (eA E 36)), (1, .ref (eA E c1)), (2, .ref (eA E (c1 + 1)))]) rfl ?_
      refine r_sub [1, 2, 3, 0] rfl ?_
      refine r_goto B (tgt := 35) dX7_write_88 (by decide) ?_
      obtain ⟨h31, v⟩ := v
      refine r_sub [0, 1, 2, 3] rfl ?_
      exact ih (x3 + 1) _ hI30 h31 v
set_option maxHeartbeats 4000000 in
set_option maxRecDepth 100000 in
theorem wL_Te_write_93 {p : Program} {l : Launch} {e : Env} {s : State} {m : MethodId} {args : Array Value} {below : List Frame} {meth : Method} {c0 : Code} {E : En} {A : Nat → Prop} {c1 : Int} {Q : Mm → Prop}  (B : Bd p (rmm 5 142) s m args c0 cX7_write 4 RX7 E A 0 0) (hr : meth.sig.returnType = none) (hk : meth.locks = false) (hc1 : isCa c1)   : ∀ (n : Nat) (x3 : Int) (I : Mm), rgM I → r32 x3 → L_Te_write_93 c1 Q n x3 I → WI p l e (rmm 5 142) s m args below meth c0 E A 4 0 0 (qV below E A args s Q) I 93 [(0, .ref (eA E 36)), (1, .ref (eA E c1)), (2, .ref (eA E (c1 + 1))), (3, .int (i2 x3))] [] := by
  intro n
  induction n with
  | zero => intro x3 I _ _ v; exact absurd v id
  | succ n ih =>
    intro x3 I hI h3 v
    unfold L_Te_write_93 at v
    refine r_iload_n B dX7_write_93 rfl rfl ?_
    refine r_aload_n B dX7_write_94 rfl rfl ?_
    refine r_getR B (C := RX0) (T := TX0) (N := 9) (hc1.1) 2 rfl win_X0 (by decide) rfl wf_X7_72 dX7_write_95 ?_
    refine r_getI B (C := RX5) (T := TX5) (N := 4) (hc1.2.2.2.1.1) 0 rfl win_X5 (by decide) rfl wf_X7_76 dX7_write_98 (jj := 0) rfl ?_
    refine r_icmp_ge B (tgt := 169) dX7_write_101 (by decide) h3 ((hI _ _)) (fun h => ?_) (fun h => ?_)
    · have v := v.1 h
      exact r_vret B hr hk hI v dX7_write_169
    · have v := v.2 h
      refine r_aload_n B dX7_write_104 rfl rfl ?_
      refine r_ldcS B (i := 12) (tx := ";after ") (by decide) dX7_write_105 ?_
      refine r_cV B (st := []) (as := [.ref (eS E 12)]) (T := TX7) (N := 3) (c_Te_putText 12 _ ((by decide)) hI ) v o_36 rfl mw_Te_putText wl_X7_27 ⟨Nat.le_of_ble_eq_true rfl, Nat.le_of_ble_eq_true rfl⟩ rfl rfl (Nat.le_of_ble_eq_true rfl) dX7_write_107 (fun I33 hI33 v => ?_)
      refine r_aload_n B dX7_write_110 rfl rfl ?_
      refine r_aload_n B dX7_write_111 rfl rfl ?_
      refine r_aload_n B dX7_write_112 rfl rfl ?_
      refine r_getR B (C := RX0) (T := TX0) (N := 9) (hc1.1) 2 rfl win_X0 (by decide) rfl wf_X7_72 dX7_write_113 ?_
      refine r_getR B (C := RX5) (T := TX5) (N := 4) (hc1.2.2.2.1.1) 1 rfl win_X5 (by decide) rfl wf_X7_81 dX7_write_116 ?_
      refine r_iload_n B dX7_write_119 rfl rfl ?_
      obtain ⟨h34, v⟩ := v
      refine r_ald B (hc1.2.2.2.1.2.1) (by decide) h34 dX7_write_120 ?_
      refine r_cV B (st := []) (as := [.ref (eA E (c1 + 1)), .int (i2 (I33 (c1 + 9 + 1) x3))]) (T := TX7) (N := 3) (c_Te_putName (c1 + 1) (I33 (c1 + 9 + 1) x3) _ (hc1.2.1) hI33 ((hI33 _ _))) v o_36 rfl mw_Te_putName wl_X7_68 ⟨Nat.le_of_ble_eq_true rfl, Nat.le_of_ble_eq_true rfl⟩ rfl rfl (Nat.le_of_ble_eq_true rfl) dX7_write_121 (fun I35 hI35 v => ?_)
      refine r_aload_n B dX7_write_124 rfl rfl ?_
      refine r_ldcS B (i := 13) (tx := " in ") (by decide) dX7_write_125 ?_
      refine r_cV B (st := []) (as := [.ref (eS E 13)]) (T := TX7) (N := 3) (c_Te_putText 13 _ ((by decide)) hI35 ) v o_36 rfl mw_Te_putText wl_X7_27 ⟨Nat.le_of_ble_eq_true rfl, Nat.le_of_ble_eq_true rfl⟩ rfl rfl (Nat.le_of_ble_eq_true rfl) dX7_write_127 (fun I36 hI36 v => ?_)
      refine r_aload_n B dX7_write_130 rfl rfl ?_
      refine r_aload_n B dX7_write_131 rfl rfl ?_
      refine r_getR B (C := RX0) (T := TX0) (N := 9) (hc1.1) 2 rfl win_X0 (by decide) rfl wf_X7_72 dX7_write_132 ?_
      refine r_getR B (C := RX5) (T := TX5) (N := 4) (hc1.2.2.2.1.1) 3 rfl win_X5 (by decide) rfl wf_X7_84 dX7_write_135 ?_
      refine r_iload_n B dX7_write_138 rfl rfl ?_
      obtain ⟨h37, v⟩ := v
      refine r_ald B (hc1.2.2.2.1.2.2.2) (by decide) h37 dX7_write_139 ?_
      refine r_cV B (st := []) (as := [.int (i2 (I36 (c1 + 9 + 3) x3))]) (T := TX7) (N := 3) (c_Te_putNumber (I36 (c1 + 9 + 3) x3) _ hI36 ((hI36 _ _))) v o_36 rfl mw_Te_putNumber wl_X7_36 ⟨Nat.le_of_ble_eq_true rfl, Nat.le_of_ble_eq_true rfl⟩ rfl rfl (Nat.le_of_ble_eq_true rfl) dX7_write_140 (fun I38 hI38 v => ?_)
      refine r_aload_n B dX7_write_143 rfl rfl ?_
      refine r_ldcS B (i := 11) (tx := " ") (by decide) dX7_write_144 ?_
      refine r_cV B (st := []) (as := [.ref (eS E 11)]) (T := TX7) (N := 3) (c_Te_putText 11 _ ((by decide)) hI38 ) v o_36 rfl mw_Te_putText wl_X7_27 ⟨Nat.le_of_ble_eq_true rfl, Nat.le_of_ble_eq_true rfl⟩ rfl rfl (Nat.le_of_ble_eq_true rfl) dX7_write_146 (fun I39 hI39 v => ?_)
      refine r_aload_n B dX7_write_149 rfl rfl ?_
      refine r_aload_n B dX7_write_150 rfl rfl ?_
      refine r_aload_n B dX7_write_151 rfl rfl ?_
      refine r_getR B (C := RX0) (T := TX0) (N := 9) (hc1.1) 2 rfl win_X0 (by decide) rfl wf_X7_72 dX7_write_152 ?_
      refine r_getR B (C := RX5) (T := TX5) (N := 4) (hc1.2.2.2.1.1) 2 rfl win_X5 (by decide) rfl wf_X7_87 dX7_write_155 ?_
      refine r_iload_n B dX7_write_158 rfl rfl ?_
      obtain ⟨h40, v⟩ := v
      refine r_ald B (hc1.2.2.2.1.2.2.1) (by decide) h40 dX7_write_159 ?_
      refine r_cV B (st := []) (as := [.ref (eA E (c1 + 1)), .int (i2 (I39 (c1 + 9 + 2) x3))]) (T := TX7) (N := 3) (c_Te_putName (c1 + 1) (I39 (c1 + 9 + 2) x3) _ (hc1.2.1) hI39 ((hI39 _ _))) v o_36 rfl mw_Te_putName wl_X7_68 ⟨Nat.le_of_ble_eq_true rfl, Nat.le_of_ble_eq_true rfl⟩ rfl rfl (Nat.le_of_ble_eq_true rfl) dX7_write_160 (fun I41 hI41 v => ?_)
      refine r_iinc B (q := 3) dX7_write_163 (by decide) rfl (lv' := [(3, .int (i2 (x3 + 1))), (0, .ref (eA E 36)), (1, .ref (eA E c1)), (2, .ref (eA E (c1 + 1)))]) rfl ?_
      refine r_sub [1, 2, 3, 0] rfl ?_
      refine r_goto B (tgt := 93) dX7_write_166 (by decide) ?_
      obtain ⟨h42, v⟩ := v
      refine r_sub [0, 1, 2, 3] rfl ?_
      exact ih (x3 + 1) _ hI41 h42 v
set_option maxHeartbeats 4000000 in
set_option maxRecDepth 100000 in
theorem c_Te_write {l : Launch} {E : En} {A : Nat → Prop} (c1 : Int) (I : Mm) (hc1 : isCa c1) (hI : rgM I)  : CV l E A yX7_write cX7_write 4 5 142 [.ref (eA E 36), .ref (eA E c1)] I (V_Te_write c1 I) := by
  intro Q v
  refine mk_met (own := RX7) (lv0 := [(0, .ref (eA E 36)), (1, .ref (eA E c1))]) (by decide) rfl (Nat.le_of_ble_eq_true rfl) rfl (fun p e s m args below meth c0 B hr hk => ?_)
  unfold V_Te_write at v
  refine r_aload_n B dX7_write_0 rfl rfl ?_
  refine r_ldcS B (i := 8) (tx := "rows ") (by decide) dX7_write_1 ?_
  refine r_cV B (st := []) (as := [.ref (eS E 8)]) (T := TX7) (N := 3) (c_Te_putText 8 _ ((by decide)) hI ) v o_36 rfl mw_Te_putText wl_X7_27 ⟨Nat.le_of_ble_eq_true rfl, Nat.le_of_ble_eq_true rfl⟩ rfl rfl (Nat.le_of_ble_eq_true rfl) dX7_write_3 (fun I21 hI21 v => ?_)
  refine r_aload_n B dX7_write_6 rfl rfl ?_
  refine r_aload_n B dX7_write_7 rfl rfl ?_
  refine r_getI B (C := RX0) (T := TX0) (N := 9) (hc1.1) 5 rfl win_X0 (by decide) rfl wf_X7_31 dX7_write_8 (jj := 5) rfl ?_
  refine r_cV B (st := []) (as := [.int (i2 (I21 c1 5))]) (T := TX7) (N := 3) (c_Te_putNumber (I21 c1 5) _ hI21 ((hI21 _ _))) v o_36 rfl mw_Te_putNumber wl_X7_36 ⟨Nat.le_of_ble_eq_true rfl, Nat.le_of_ble_eq_true rfl⟩ rfl rfl (Nat.le_of_ble_eq_true rfl) dX7_write_11 (fun I22 hI22 v => ?_)
  refine r_aload_n B dX7_write_14 rfl rfl ?_
  refine r_ldcS B (i := 9) (tx := ";wide ") (by decide) dX7_write_15 ?_
  refine r_cV B (st := []) (as := [.ref (eS E 9)]) (T := TX7) (N := 3) (c_Te_putText 9 _ ((by decide)) hI22 ) v o_36 rfl mw_Te_putText wl_X7_27 ⟨Nat.le_of_ble_eq_true rfl, Nat.le_of_ble_eq_true rfl⟩ rfl rfl (Nat.le_of_ble_eq_true rfl) dX7_write_17 (fun I23 hI23 v => ?_)
  refine r_aload_n B dX7_write_20 rfl rfl ?_
  refine r_aload_n B dX7_write_21 rfl rfl ?_
  refine r_getI B (C := RX0) (T := TX0) (N := 9) (hc1.1) 6 rfl win_X0 (by decide) rfl wf_X7_42 dX7_write_22 (jj := 6) rfl ?_
  refine r_cV B (st := []) (as := [.int (i2 (I23 c1 6))]) (T := TX7) (N := 3) (c_Te_putNumber (I23 c1 6) _ hI23 ((hI23 _ _))) v o_36 rfl mw_Te_putNumber wl_X7_36 ⟨Nat.le_of_ble_eq_true rfl, Nat.le_of_ble_eq_true rfl⟩ rfl rfl (Nat.le_of_ble_eq_true rfl) dX7_write_25 (fun I24 hI24 v => ?_)
  refine r_aload_n B dX7_write_28 rfl rfl ?_
  refine r_getR B (C := RX0) (T := TX0) (N := 9) (hc1.1) 0 rfl win_X0 (by decide) rfl wf_X7_45 dX7_write_29 ?_
  refine r_astore_n B dX7_write_32 rfl (by decide) (lv' := [(2, .ref (eA E (c1 + 1))), (0, .ref (eA E 36)), (1, .ref (eA E c1))]) rfl ?_
  refine r_sub [1, 2, 0] rfl ?_
  refine r_iconst B dX7_write_33 ?_
  refine r_istore_n B dX7_write_34 rfl (by decide) (lv' := [(3, .int (i2 0)), (0, .ref (eA E 36)), (1, .ref (eA E c1)), (2, .ref (eA E (c1 + 1)))]) rfl ?_
  refine r_sub [1, 2, 3, 0] rfl ?_
  obtain ⟨f44, v⟩ := v
  refine r_sub [0, 1, 2, 3] rfl ?_
  refine wL_Te_write_35 B hr hk hc1 (fun I32 hI32 v => ?_) f44 0 I24 hI24 ((rg_lit (by decide) (by decide))) v
  · refine r_iconst B dX7_write_91 ?_
    refine r_istore_n B dX7_write_92 rfl (by decide) (lv' := [(3, .int (i2 0)), (0, .ref (eA E 36)), (1, .ref (eA E c1)), (2, .ref (eA E (c1 + 1)))]) rfl ?_
    refine r_sub [1, 2, 3, 0] rfl ?_
    obtain ⟨f43, v⟩ := v
    refine r_sub [0, 1, 2, 3] rfl ?_
    exact wL_Te_write_93 B hr hk hc1 f43 0 I32 hI32 ((rg_lit (by decide) (by decide))) v
set_option maxHeartbeats 4000000 in
set_option maxRecDepth 100000 in
theorem c_Te_byteAt {l : Launch} {E : En} {A : Nat → Prop} (c1 : Int) (x2 : Int) (I : Mm) (hc1 : isCa c1) (hI : rgM I) (h2 : r32 x2) : CI l E A yX7_byteAt cX7_byteAt 3 .int 6 165 [.ref (eA E 36), .ref (eA E c1), .int (i2 x2)] I (V_Te_byteAt c1 x2 I) := by
  intro Q v
  refine mk_met (own := RX7) (lv0 := [(0, .ref (eA E 36)), (1, .ref (eA E c1)), (2, .int (i2 x2))]) (by decide) rfl (Nat.le_of_ble_eq_true rfl) rfl (fun p e s m args below meth c0 B hr hk => ?_)
  unfold V_Te_byteAt at v
  refine r_aload_n B dX7_byteAt_0 rfl rfl ?_
  refine r_iload_n B dX7_byteAt_1 rfl rfl ?_
  refine r_putI B (C := RX7) (T := TX7) (N := 3) o_36 0 rfl win_X7 tyX7 tyX7_ok nmX7 (by decide) rfl rfl rfl wf_X7_9 dX7_byteAt_2 (jj := 0) rfl ?_
  have hI21 : rgM (wrM I 36 0 x2) := rg_wr hI h2
  refine r_aload_n B dX7_byteAt_5 rfl rfl ?_
  refine r_iconst B dX7_byteAt_6 ?_
  refine r_putI B (C := RX7) (T := TX7) (N := 3) o_36 1 rfl win_X7 tyX7 tyX7_ok nmX7 (by decide) rfl rfl rfl wf_X7_15 dX7_byteAt_7 (jj := 1) rfl ?_
  have hI22 : rgM (wrM ((wrM I 36 0 x2)) 36 1 0) := rg_wr hI21 ((rg_lit (by decide) (by decide)))
  refine r_aload_n B dX7_byteAt_10 rfl rfl ?_
  refine r_bipush B dX7_byteAt_11 (by decide) ?_
  refine r_putI B (C := RX7) (T := TX7) (N := 3) o_36 2 rfl win_X7 tyX7 tyX7_ok nmX7 (by decide) rfl rfl rfl wf_X7_18 dX7_byteAt_13 (jj := 2) rfl ?_
  have hI23 : rgM (wrM ((wrM ((wrM I 36 0 x2)) 36 1 0)) 36 2 (-2)) := rg_wr hI22 ((rg_lit (by decide) (by decide)))
  refine r_aload_n B dX7_byteAt_16 rfl rfl ?_
  refine r_aload_n B dX7_byteAt_17 rfl rfl ?_
  refine r_cV B (st := []) (as := [.ref (eA E c1)]) (T := TX7) (N := 3) (c_Te_write c1 _ hc1 hI23 ) v o_36 rfl mw_Te_write wl_X7_21 ⟨Nat.le_of_ble_eq_true rfl, Nat.le_of_ble_eq_true rfl⟩ rfl rfl (Nat.le_of_ble_eq_true rfl) dX7_byteAt_18 (fun I24 hI24 v => ?_)
  refine r_iload_n B dX7_byteAt_21 rfl rfl ?_
  refine r_iconst B dX7_byteAt_22 ?_
  refine r_icmp_ne B (tgt := 33) dX7_byteAt_23 (by decide) h2 ((rg_lit (by decide) (by decide))) (fun h => ?_) (fun h => ?_)
  · have v := v.1 h
    refine r_aload_n B dX7_byteAt_33 rfl rfl ?_
    refine r_getI B (C := RX7) (T := TX7) (N := 3) o_36 2 rfl win_X7 (by decide) rfl wf_X7_18 dX7_byteAt_34 (jj := 2) rfl ?_
    exact r_iret B hr hk rfl ((hI24 _ _)) hI24 v dX7_byteAt_37
  · have v := v.2 h
    refine r_aload_n B dX7_byteAt_26 rfl rfl ?_
    refine r_getI B (C := RX7) (T := TX7) (N := 3) o_36 1 rfl win_X7 (by decide) rfl wf_X7_15 dX7_byteAt_27 (jj := 1) rfl ?_
    refine r_goto B (tgt := 37) dX7_byteAt_30 (by decide) ?_
    exact r_iret B hr hk rfl ((hI24 _ _)) hI24 v dX7_byteAt_37
set_option maxHeartbeats 4000000 in
set_option maxRecDepth 100000 in
theorem c_X_told {l : Launch} {E : En} {A : Nat → Prop} (x1 : Int) (I : Mm)  (hI : rgM I) (h1 : r32 x1) : CI l E A yX10_told cX10_told 2 .int 7 187 [.ref (eA E 0), .int (i2 x1)] I (V_X_told x1 I) := by
  intro Q v
  refine mk_met (own := RX10) (lv0 := [(0, .ref (eA E 0)), (1, .int (i2 x1))]) (by decide) rfl (Nat.le_of_ble_eq_true rfl) rfl (fun p e s m args below meth c0 B hr hk => ?_)
  unfold V_X_told at v
  refine r_iload_n B dX10_told_0 rfl rfl ?_
  refine r_iconst B dX10_told_1 ?_
  refine r_icmp_ge B (tgt := 9) dX10_told_2 (by decide) h1 ((rg_lit (by decide) (by decide))) (fun h => ?_) (fun h => ?_)
  · have v := v.1 h
    refine r_aload_n B dX10_told_9 rfl rfl ?_
    refine r_getR B (C := RX10) (T := TX10) (N := 11) o_0 4 rfl win_X10 (by decide) rfl wf_X10_38 dX10_told_10 ?_
    refine r_aload_n B dX10_told_13 rfl rfl ?_
    refine r_getR B (C := RX10) (T := TX10) (N := 11) o_0 0 rfl win_X10 (by decide) rfl wf_X10_10 dX10_told_14 ?_
    refine r_iload_n B dX10_told_17 rfl rfl ?_
    refine r_cI B (st := []) (as := [.ref (eA E 1), .int (i2 x1)]) (T := TX7) (N := 3) (c_Te_byteAt 1 x1 _ ca_1 hI h1) v o_36 rfl mw_Te_byteAt wl_X10_337 ⟨Nat.le_of_ble_eq_true rfl, Nat.le_of_ble_eq_true rfl⟩ rfl rfl (Nat.le_of_ble_eq_true rfl) dX10_told_18 (fun z21 I22 hz21 hI22 v => ?_)
    exact r_iret B hr hk rfl hz21 hI22 v dX10_told_21
  · have v := v.2 h
    refine r_iconst B dX10_told_5 ?_
    refine r_goto B (tgt := 21) dX10_told_6 (by decide) ?_
    exact r_iret B hr hk rfl ((rg_lit (by decide) (by decide))) hI v dX10_told_21
set_option maxHeartbeats 4000000 in
set_option maxRecDepth 100000 in
theorem c_X_share {l : Launch} {E : En} {A : Nat → Prop} (x1 : Int) (I : Mm)  (hI : rgM I) (h1 : r32 x1) : CI l E A yX10_share cX10_share 3 .int 0 0 [.ref (eA E 0), .int (i2 x1)] I (V_X_share x1 I) := by
  intro Q v
  refine mk_met (own := RX10) (lv0 := [(0, .ref (eA E 0)), (1, .int (i2 x1))]) (by decide) rfl (Nat.le_of_ble_eq_true rfl) rfl (fun p e s m args below meth c0 B hr hk => ?_)
  unfold V_X_share at v
  refine r_iload_n B dX10_share_0 rfl rfl ?_
  refine r_iconst B dX10_share_1 ?_
  refine r_icmp_lt B (tgt := 11) dX10_share_2 (by decide) h1 ((rg_lit (by decide) (by decide))) (fun h => ?_) (fun h => ?_)
  · have v := v.1 h
    refine r_iconst B dX10_share_11 ?_
    exact r_iret B hr hk rfl ((rg_lit (by decide) (by decide))) hI v dX10_share_12
  · have v := v.2 h
    refine r_iload_n B dX10_share_5 rfl rfl ?_
    refine r_bipush B dX10_share_6 (by decide) ?_
    refine r_icmp_le B (tgt := 13) dX10_share_8 (by decide) h1 ((rg_lit (by decide) (by decide))) (fun h => ?_) (fun h => ?_)
    · have v := v.1 h
      refine r_aload_n B dX10_share_13 rfl rfl ?_
      refine r_getR B (C := RX10) (T := TX10) (N := 11) o_0 0 rfl win_X10 (by decide) rfl wf_X10_10 dX10_share_14 ?_
      refine r_getR B (C := RX0) (T := TX0) (N := 9) (ca_1.1) 1 rfl win_X0 (by decide) rfl wf_X10_89 dX10_share_17 ?_
      refine r_getI B (C := RX8) (T := TX8) (N := 4) (ca_1.2.2.1.1) 0 rfl win_X8 (by decide) rfl wf_X10_93 dX10_share_20 (jj := 0) rfl ?_
      refine r_istore_n B dX10_share_23 rfl (by decide) (lv' := [(2, .int (i2 (I (1 + 5) 0))), (0, .ref (eA E 0)), (1, .int (i2 x1))]) rfl ?_
      refine r_sub [1, 2, 0] rfl ?_
      refine r_iload_n B dX10_share_24 rfl rfl ?_
      refine r_iconst B dX10_share_25 ?_
      refine r_icmp_ge B (tgt := 32) dX10_share_26 (by decide) ((hI _ _)) ((rg_lit (by decide) (by decide))) (fun h => ?_) (fun h => ?_)
      · have v := v.1 h
        refine r_aload_n B dX10_share_32 rfl rfl ?_
        refine r_getR B (C := RX10) (T := TX10) (N := 11) o_0 0 rfl win_X10 (by decide) rfl wf_X10_10 dX10_share_33 ?_
        refine r_getR B (C := RX0) (T := TX0) (N := 9) (ca_1.1) 1 rfl win_X0 (by decide) rfl wf_X10_89 dX10_share_36 ?_
        refine r_getR B (C := RX8) (T := TX8) (N := 4) (ca_1.2.2.1.1) 3 rfl win_X8 (by decide) rfl wf_X10_154 dX10_share_39 ?_
        refine r_iload_n B dX10_share_42 rfl rfl ?_
        refine r_iload_n B dX10_share_43 rfl rfl ?_
        refine r_imul B dX10_share_44 ?_
        refine r_bipush B dX10_share_45 (by decide) ?_
        refine r_iadd B dX10_share_47 ?_
        refine r_bipush B dX10_share_48 (by decide) ?_
        obtain ⟨h21, v⟩ := v
        obtain ⟨h22, v⟩ := v
        refine r_idiv B dX10_share_50 h21 ((rg_lit (by decide) (by decide))) (show 0 ≤ ((I (1 + 5) 0 * x1) + 99) ∧ (0 : Int) < 100 from ⟨h22, by decide⟩) ?_
        refine r_iconst B dX10_share_51 ?_
        refine r_isub B dX10_share_52 ?_
        obtain ⟨h23, v⟩ := v
        refine r_ald B (ca_1.2.2.1.2.2.2) (by decide) h23 dX10_share_53 ?_
        exact r_iret B hr hk rfl ((hI _ _)) hI v dX10_share_54
      · have v := v.2 h
        refine r_bipush B dX10_share_29 (by decide) ?_
        exact r_iret B hr hk rfl ((rg_lit (by decide) (by decide))) hI v dX10_share_31
    · have v := v.2 h
      refine r_iconst B dX10_share_11 ?_
      exact r_iret B hr hk rfl ((rg_lit (by decide) (by decide))) hI v dX10_share_12
set_option maxHeartbeats 4000000 in
set_option maxRecDepth 100000 in
theorem wL_X_bestRows_34 {p : Program} {l : Launch} {e : Env} {s : State} {m : MethodId} {args : Array Value} {below : List Frame} {meth : Method} {c0 : Code} {E : En} {A : Nat → Prop} {x1 : Int} {x2 : Int} {Q : Int → Mm → Prop}  (B : Bd p (rmm 3 70) s m args c0 cX10_bestRows 7 RX10 E A 0 0) (hr : meth.sig.returnType = some .int) (hk : meth.locks = false) (h1 : r32 x1) (h2 : r32 x2)   : ∀ (n : Nat) (x3 : Int) (x4 : Int) (x5 : Int) (I : Mm), rgM I → r32 x3 → r32 x4 → r32 x5 → L_X_bestRows_34 x1 x2 Q n x3 x4 x5 I → WI p l e (rmm 3 70) s m args below meth c0 E A 7 0 0 (qI below E A args s Q) I 34 [(0, .ref (eA E 0)), (1, .int (i2 x1)), (2, .int (i2 x2)), (3, .int (i2 x3)), (4, .int (i2 x4)), (5, .int (i2 x5))] [] := by
  intro n
  induction n with
  | zero => intro x3 x4 x5 I _ _ _ _ v; exact absurd v id
  | succ n ih =>
    intro x3 x4 x5 I hI h3 h4 h5 v
    unfold L_X_bestRows_34 at v
    refine r_iload B dX10_bestRows_34 rfl ?_
    refine r_bipush B dX10_bestRows_36 (by decide) ?_
    refine r_icmp_gt B (tgt := 76) dX10_bestRows_38 (by decide) h5 ((rg_lit (by decide) (by decide))) (fun h => ?_) (fun h => ?_)
    · have v := v.1 h
      refine r_iload_n B dX10_bestRows_76 rfl rfl ?_
      refine r_if_ne B (tgt := 84) dX10_bestRows_77 (by decide) h2 (fun h => ?_) (fun h => ?_)
      · have v := v.1 h
        refine r_iload B dX10_bestRows_84 rfl ?_
        exact r_iret B hr hk rfl h4 hI v dX10_bestRows_86
      · have v := v.2 h
        refine r_iload_n B dX10_bestRows_80 rfl rfl ?_
        refine r_goto B (tgt := 86) dX10_bestRows_81 (by decide) ?_
        exact r_iret B hr hk rfl h3 hI v dX10_bestRows_86
    · have v := v.2 h
      refine r_aload_n B dX10_bestRows_41 rfl rfl ?_
      refine r_getR B (C := RX10) (T := TX10) (N := 11) o_0 0 rfl win_X10 (by decide) rfl wf_X10_10 dX10_bestRows_42 ?_
      refine r_iload B dX10_bestRows_45 rfl ?_
      refine r_iload_n B dX10_bestRows_47 rfl rfl ?_
      refine r_cI B (st := []) (as := [.int (i2 x5), .int (i2 x1)]) (T := TX0) (N := 9) (c_Ca_looksForAll 1 x5 x1 _ ca_1 hI h5 h1) v (ca_1.1) rfl mw_Ca_looksForAll wl_X10_294 ⟨Nat.le_of_ble_eq_true rfl, Nat.le_of_ble_eq_true rfl⟩ rfl rfl (Nat.le_of_ble_eq_true rfl) dX10_bestRows_48 (fun z25 I26 hz25 hI26 v => ?_)
      refine r_istore B dX10_bestRows_51 (by decide) (lv' := [(6, .int (i2 z25)), (0, .ref (eA E 0)), (1, .int (i2 x1)), (2, .int (i2 x2)), (3, .int (i2 x3)), (4, .int (i2 x4)), (5, .int (i2 x5))]) rfl ?_
      refine r_sub [1, 2, 3, 4, 5, 6, 0] rfl ?_
      refine r_iload B dX10_bestRows_53 rfl ?_
      refine r_iload B dX10_bestRows_55 rfl ?_
      refine r_icmp_ge B (tgt := 67) dX10_bestRows_57 (by decide) hz25 h4 (fun h => ?_) (fun h => ?_)
      · have v := v.1 h
        refine r_iload B dX10_bestRows_67 rfl ?_
        refine r_iconst B dX10_bestRows_69 ?_
        refine r_imul B dX10_bestRows_70 ?_
        refine r_istore B dX10_bestRows_71 (by decide) (lv' := [(5, .int (i2 (x5 * 2))), (0, .ref (eA E 0)), (1, .int (i2 x1)), (2, .int (i2 x2)), (3, .int (i2 x3)), (4, .int (i2 x4)), (6, .int (i2 z25))]) rfl ?_
        refine r_sub [1, 2, 3, 4, 5, 0, 6] rfl ?_
        refine r_goto B (tgt := 34) dX10_bestRows_73 (by decide) ?_
        obtain ⟨h27, v⟩ := v
        refine r_sub [0, 1, 2, 3, 4, 5] rfl ?_
        exact ih x3 x4 (x5 * 2) _ hI26 h3 h4 h27 v
      · have v := v.2 h
        refine r_iload B dX10_bestRows_60 rfl ?_
        refine r_istore B dX10_bestRows_62 (by decide) (lv' := [(4, .int (i2 z25)), (0, .ref (eA E 0)), (1, .int (i2 x1)), (2, .int (i2 x2)), (3, .int (i2 x3)), (5, .int (i2 x5)), (6, .int (i2 z25))]) rfl ?_
        refine r_sub [1, 2, 3, 4, 0, 5, 6] rfl ?_
        refine r_iload B dX10_bestRows_64 rfl ?_
        refine r_istore_n B dX10_bestRows_66 rfl (by decide) (lv' := [(3, .int (i2 x5)), (0, .ref (eA E 0)), (1, .int (i2 x1)), (2, .int (i2 x2)), (4, .int (i2 z25)), (5, .int (i2 x5)), (6, .int (i2 z25))]) rfl ?_
        refine r_sub [1, 2, 3, 0, 4, 5, 6] rfl ?_
        refine r_iload B dX10_bestRows_67 rfl ?_
        refine r_iconst B dX10_bestRows_69 ?_
        refine r_imul B dX10_bestRows_70 ?_
        refine r_istore B dX10_bestRows_71 (by decide) (lv' := [(5, .int (i2 (x5 * 2))), (0, .ref (eA E 0)), (1, .int (i2 x1)), (2, .int (i2 x2)), (3, .int (i2 x5)), (4, .int (i2 z25)), (6, .int (i2 z25))]) rfl ?_
        refine r_sub [1, 2, 3, 4, 5, 0, 6] rfl ?_
        refine r_goto B (tgt := 34) dX10_bestRows_73 (by decide) ?_
        obtain ⟨h28, v⟩ := v
        refine r_sub [0, 1, 2, 3, 4, 5] rfl ?_
        exact ih x5 z25 (x5 * 2) _ hI26 h5 hz25 h28 v
set_option maxHeartbeats 4000000 in
set_option maxRecDepth 100000 in
theorem c_X_bestRows {l : Launch} {E : En} {A : Nat → Prop} (x1 : Int) (x2 : Int) (I : Mm)  (hI : rgM I) (h1 : r32 x1) (h2 : r32 x2) : CI l E A yX10_bestRows cX10_bestRows 7 .int 3 70 [.ref (eA E 0), .int (i2 x1), .int (i2 x2)] I (V_X_bestRows x1 x2 I) := by
  intro Q v
  refine mk_met (own := RX10) (lv0 := [(0, .ref (eA E 0)), (1, .int (i2 x1)), (2, .int (i2 x2))]) (by decide) rfl (Nat.le_of_ble_eq_true rfl) rfl (fun p e s m args below meth c0 B hr hk => ?_)
  unfold V_X_bestRows at v
  refine r_iload_n B dX10_bestRows_0 rfl rfl ?_
  refine r_sI B (st := []) (as := [.int (i2 x1)]) (c_X_isWidth x1 _ hI h1) v mw_X_isWidth wl_X10_209 ⟨Nat.le_of_ble_eq_true rfl, Nat.le_of_ble_eq_true rfl⟩ rfl rfl (Nat.le_of_ble_eq_true rfl) dX10_bestRows_1 (fun z21 I22 hz21 hI22 v => ?_)
  refine r_if_eq B (tgt := 16) dX10_bestRows_4 (by decide) hz21 (fun h => ?_) (fun h => ?_)
  · have v := v.1 h
    refine r_iconst B dX10_bestRows_16 ?_
    exact r_iret B hr hk rfl ((rg_lit (by decide) (by decide))) hI22 v dX10_bestRows_17
  · have v := v.2 h
    refine r_iload_n B dX10_bestRows_7 rfl rfl ?_
    refine r_if_lt B (tgt := 16) dX10_bestRows_8 (by decide) h2 (fun h => ?_) (fun h => ?_)
    · have v := v.1 h
      refine r_iconst B dX10_bestRows_16 ?_
      exact r_iret B hr hk rfl ((rg_lit (by decide) (by decide))) hI22 v dX10_bestRows_17
    · have v := v.2 h
      refine r_iload_n B dX10_bestRows_11 rfl rfl ?_
      refine r_iconst B dX10_bestRows_12 ?_
      refine r_icmp_le B (tgt := 18) dX10_bestRows_13 (by decide) h2 ((rg_lit (by decide) (by decide))) (fun h => ?_) (fun h => ?_)
      · have v := v.1 h
        refine r_iconst B dX10_bestRows_18 ?_
        refine r_istore_n B dX10_bestRows_19 rfl (by decide) (lv' := [(3, .int (i2 2)), (0, .ref (eA E 0)), (1, .int (i2 x1)), (2, .int (i2 x2))]) rfl ?_
        refine r_sub [1, 2, 3, 0] rfl ?_
        refine r_aload_n B dX10_bestRows_20 rfl rfl ?_
        refine r_getR B (C := RX10) (T := TX10) (N := 11) o_0 0 rfl win_X10 (by decide) rfl wf_X10_10 dX10_bestRows_21 ?_
        refine r_iconst B dX10_bestRows_24 ?_
        refine r_iload_n B dX10_bestRows_25 rfl rfl ?_
        refine r_cI B (st := []) (as := [.int (i2 2), .int (i2 x1)]) (T := TX0) (N := 9) (c_Ca_looksForAll 1 2 x1 _ ca_1 hI22 ((rg_lit (by decide) (by decide))) h1) v (ca_1.1) rfl mw_Ca_looksForAll wl_X10_294 ⟨Nat.le_of_ble_eq_true rfl, Nat.le_of_ble_eq_true rfl⟩ rfl rfl (Nat.le_of_ble_eq_true rfl) dX10_bestRows_26 (fun z23 I24 hz23 hI24 v => ?_)
        refine r_istore B dX10_bestRows_29 (by decide) (lv' := [(4, .int (i2 z23)), (0, .ref (eA E 0)), (1, .int (i2 x1)), (2, .int (i2 x2)), (3, .int (i2 2))]) rfl ?_
        refine r_sub [1, 2, 3, 4, 0] rfl ?_
        refine r_iconst B dX10_bestRows_31 ?_
        refine r_istore B dX10_bestRows_32 (by decide) (lv' := [(5, .int (i2 4)), (0, .ref (eA E 0)), (1, .int (i2 x1)), (2, .int (i2 x2)), (3, .int (i2 2)), (4, .int (i2 z23))]) rfl ?_
        refine r_sub [1, 2, 3, 4, 5, 0] rfl ?_
        obtain ⟨f29, v⟩ := v
        refine r_sub [0, 1, 2, 3, 4, 5] rfl ?_
        exact wL_X_bestRows_34 B hr hk h1 h2 f29 2 z23 4 I24 hI24 ((rg_lit (by decide) (by decide))) hz23 ((rg_lit (by decide) (by decide))) v
      · have v := v.2 h
        refine r_iconst B dX10_bestRows_16 ?_
        exact r_iret B hr hk rfl ((rg_lit (by decide) (by decide))) hI22 v dX10_bestRows_17
set_option maxHeartbeats 4000000 in
set_option maxRecDepth 100000 in
theorem c_X_skewBy {l : Launch} {E : En} {A : Nat → Prop} (x1 : Int) (x2 : Int) (x3 : Int) (I : Mm)  (hI : rgM I) (h1 : r32 x1) (h2 : r32 x2) (h3 : r32 x3) : CI l E A yX10_skewBy cX10_skewBy 4 .int 3 87 [.ref (eA E 0), .int (i2 x1), .int (i2 x2), .int (i2 x3)] I (V_X_skewBy x1 x2 x3 I) := by
  intro Q v
  refine mk_met (own := RX10) (lv0 := [(0, .ref (eA E 0)), (1, .int (i2 x1)), (2, .int (i2 x2)), (3, .int (i2 x3))]) (by decide) rfl (Nat.le_of_ble_eq_true rfl) rfl (fun p e s m args below meth c0 B hr hk => ?_)
  unfold V_X_skewBy at v
  refine r_iload_n B dX10_skewBy_0 rfl rfl ?_
  refine r_sI B (st := []) (as := [.int (i2 x1)]) (c_X_isRows x1 _ hI h1) v mw_X_isRows wl_X10_206 ⟨Nat.le_of_ble_eq_true rfl, Nat.le_of_ble_eq_true rfl⟩ rfl rfl (Nat.le_of_ble_eq_true rfl) dX10_skewBy_1 (fun z21 I22 hz21 hI22 v => ?_)
  refine r_if_eq B (tgt := 23) dX10_skewBy_4 (by decide) hz21 (fun h => ?_) (fun h => ?_)
  · have v := v.1 h
    refine r_iconst B dX10_skewBy_23 ?_
    exact r_iret B hr hk rfl ((rg_lit (by decide) (by decide))) hI22 v dX10_skewBy_24
  · have v := v.2 h
    refine r_iload_n B dX10_skewBy_7 rfl rfl ?_
    refine r_sI B (st := []) (as := [.int (i2 x2)]) (c_X_isWidth x2 _ hI22 h2) v mw_X_isWidth wl_X10_209 ⟨Nat.le_of_ble_eq_true rfl, Nat.le_of_ble_eq_true rfl⟩ rfl rfl (Nat.le_of_ble_eq_true rfl) dX10_skewBy_8 (fun z23 I24 hz23 hI24 v => ?_)
    refine r_if_eq B (tgt := 23) dX10_skewBy_11 (by decide) hz23 (fun h => ?_) (fun h => ?_)
    · have v := v.1 h
      refine r_iconst B dX10_skewBy_23 ?_
      exact r_iret B hr hk rfl ((rg_lit (by decide) (by decide))) hI24 v dX10_skewBy_24
    · have v := v.2 h
      refine r_iload_n B dX10_skewBy_14 rfl rfl ?_
      refine r_if_lt B (tgt := 23) dX10_skewBy_15 (by decide) h3 (fun h => ?_) (fun h => ?_)
      · have v := v.1 h
        refine r_iconst B dX10_skewBy_23 ?_
        exact r_iret B hr hk rfl ((rg_lit (by decide) (by decide))) hI24 v dX10_skewBy_24
      · have v := v.2 h
        refine r_iload_n B dX10_skewBy_18 rfl rfl ?_
        refine r_iconst B dX10_skewBy_19 ?_
        refine r_icmp_le B (tgt := 25) dX10_skewBy_20 (by decide) h3 ((rg_lit (by decide) (by decide))) (fun h => ?_) (fun h => ?_)
        · have v := v.1 h
          refine r_aload_n B dX10_skewBy_25 rfl rfl ?_
          refine r_iload_n B dX10_skewBy_26 rfl rfl ?_
          refine r_iload_n B dX10_skewBy_27 rfl rfl ?_
          refine r_iload_n B dX10_skewBy_28 rfl rfl ?_
          refine r_cI B (st := []) (as := [.int (i2 x1), .int (i2 x2), .int (i2 x3)]) (T := TX10) (N := 11) (c_X_skewIn x1 x2 x3 _ hI24 h1 h2 h3) v o_0 rfl mw_X_skewIn wl_X10_279 ⟨Nat.le_of_ble_eq_true rfl, Nat.le_of_ble_eq_true rfl⟩ rfl rfl (Nat.le_of_ble_eq_true rfl) dX10_skewBy_29 (fun z25 I26 hz25 hI26 v => ?_)
          exact r_iret B hr hk rfl hz25 hI26 v dX10_skewBy_32
        · have v := v.2 h
          refine r_iconst B dX10_skewBy_23 ?_
          exact r_iret B hr hk rfl ((rg_lit (by decide) (by decide))) hI24 v dX10_skewBy_24
set_option maxHeartbeats 4000000 in
set_option maxRecDepth 100000 in
theorem wJ_Th_longestOfOneName_41 {p : Program} {l : Launch} {e : Env} {s : State} {m : MethodId} {args : Array Value} {below : List Frame} {meth : Method} {c0 : Code} {E : En} {A : Nat → Prop} {c : Int} {x1 : Int} {Q : Int → Mm → Prop} {K11 : Int → Int → Int → Int → Mm → Prop} (B : Bd p (rmm 0 0) s m args c0 cX8_longestOfOneName 6 RX8 E A 0 0) (hr : meth.sig.returnType = some .int) (hk : meth.locks = false) (hc : isTh c) (h1 : r32 x1)  (k11 : ∀ (x2 : Int) (x3 : Int) (x4 : Int) (x5 : Int) (I : Mm), rgM I → r32 x2 → r32 x3 → r32 x4 → r32 x5 → K11 x2 x3 x4 x5 I → WI p l e (rmm 0 0) s m args below meth c0 E A 6 0 0 (qI below E A args s Q) I 11 [(0, .ref (eA E c)), (1, .int (i2 x1)), (2, .int (i2 x2)), (3, .int (i2 x3)), (4, .int (i2 x4)), (5, .int (i2 x5))] []) : ∀ (x2 : Int) (x3 : Int) (x4 : Int) (x5 : Int) (I : Mm), rgM I → r32 x2 → r32 x3 → r32 x4 → r32 x5 → J_Th_longestOfOneName_41 c x1 Q K11 x2 x3 x4 x5 I → WI p l e (rmm 0 0) s m args below meth c0 E A 6 0 0 (qI below E A args s Q) I 41 [(0, .ref (eA E c)), (1, .int (i2 x1)), (2, .int (i2 x2)), (3, .int (i2 x3)), (4, .int (i2 x4)), (5, .int (i2 x5))] [] := by
  intro x2 x3 x4 x5 I hI h2 h3 h4 h5 v
  unfold J_Th_longestOfOneName_41 at v
  refine r_iload B dX8_longestOfOneName_41 rfl ?_
  refine r_iload B dX8_longestOfOneName_43 rfl ?_
  refine r_isub B dX8_longestOfOneName_45 ?_
  refine r_iconst B dX8_longestOfOneName_46 ?_
  refine r_iadd B dX8_longestOfOneName_47 ?_
  refine r_iload_n B dX8_longestOfOneName_48 rfl rfl ?_
  obtain ⟨h23, v⟩ := v
  refine r_icmp_le B (tgt := 68) dX8_longestOfOneName_49 (by decide) h23 h2 (fun h => ?_) (fun h => ?_)
  · have v := v.1 h
    refine r_iinc B (q := 5) dX8_longestOfOneName_68 (by decide) rfl (lv' := [(5, .int (i2 (x5 + 1))), (0, .ref (eA E c)), (1, .int (i2 x1)), (2, .int (i2 x2)), (3, .int (i2 x3)), (4, .int (i2 x4))]) rfl ?_
    refine r_sub [1, 2, 3, 4, 5, 0] rfl ?_
    refine r_goto B (tgt := 11) dX8_longestOfOneName_71 (by decide) ?_
    obtain ⟨h24, v⟩ := v
    refine r_sub [0, 1, 2, 3, 4, 5] rfl ?_
    exact k11 x2 x3 x4 (x5 + 1) _ hI h2 h3 h4 h24 v
  · have v := v.2 h
    refine r_iload B dX8_longestOfOneName_52 rfl ?_
    refine r_iload B dX8_longestOfOneName_54 rfl ?_
    refine r_isub B dX8_longestOfOneName_56 ?_
    refine r_iconst B dX8_longestOfOneName_57 ?_
    refine r_iadd B dX8_longestOfOneName_58 ?_
    refine r_istore_n B dX8_longestOfOneName_59 rfl (by decide) (lv' := [(2, .int (i2 ((x5 - x4) + 1))), (0, .ref (eA E c)), (1, .int (i2 x1)), (3, .int (i2 x3)), (4, .int (i2 x4)), (5, .int (i2 x5))]) rfl ?_
    refine r_sub [1, 2, 0, 3, 4, 5] rfl ?_
    refine r_aload_n B dX8_longestOfOneName_60 rfl rfl ?_
    refine r_getR B (C := RX8) (T := TX8) (N := 4) (hc.1) 1 rfl win_X8 (by decide) rfl wf_X8_9 dX8_longestOfOneName_61 ?_
    refine r_iload B dX8_longestOfOneName_64 rfl ?_
    obtain ⟨h25, v⟩ := v
    refine r_ald B (hc.2.1) (by decide) h25 dX8_longestOfOneName_66 ?_
    refine r_istore_n B dX8_longestOfOneName_67 rfl (by decide) (lv' := [(3, .int (i2 (I (c + 1) x4))), (0, .ref (eA E c)), (1, .int (i2 x1)), (2, .int (i2 ((x5 - x4) + 1))), (4, .int (i2 x4)), (5, .int (i2 x5))]) rfl ?_
    refine r_sub [1, 2, 3, 0, 4, 5] rfl ?_
    refine r_iinc B (q := 5) dX8_longestOfOneName_68 (by decide) rfl (lv' := [(5, .int (i2 (x5 + 1))), (0, .ref (eA E c)), (1, .int (i2 x1)), (2, .int (i2 ((x5 - x4) + 1))), (3, .int (i2 (I (c + 1) x4))), (4, .int (i2 x4))]) rfl ?_
    refine r_sub [1, 2, 3, 4, 5, 0] rfl ?_
    refine r_goto B (tgt := 11) dX8_longestOfOneName_71 (by decide) ?_
    obtain ⟨h26, v⟩ := v
    obtain ⟨h27, v⟩ := v
    refine r_sub [0, 1, 2, 3, 4, 5] rfl ?_
    exact k11 ((x5 - x4) + 1) (I (c + 1) x4) x4 (x5 + 1) _ hI h26 ((hI _ _)) h4 h27 v
set_option maxHeartbeats 4000000 in
set_option maxRecDepth 100000 in
theorem wL_Th_longestOfOneName_11 {p : Program} {l : Launch} {e : Env} {s : State} {m : MethodId} {args : Array Value} {below : List Frame} {meth : Method} {c0 : Code} {E : En} {A : Nat → Prop} {c : Int} {x1 : Int} {Q : Int → Mm → Prop}  (B : Bd p (rmm 0 0) s m args c0 cX8_longestOfOneName 6 RX8 E A 0 0) (hr : meth.sig.returnType = some .int) (hk : meth.locks = false) (hc : isTh c) (h1 : r32 x1)   : ∀ (n : Nat) (x2 : Int) (x3 : Int) (x4 : Int) (x5 : Int) (I : Mm), rgM I → r32 x2 → r32 x3 → r32 x4 → r32 x5 → L_Th_longestOfOneName_11 c x1 Q n x2 x3 x4 x5 I → WI p l e (rmm 0 0) s m args below meth c0 E A 6 0 0 (qI below E A args s Q) I 11 [(0, .ref (eA E c)), (1, .int (i2 x1)), (2, .int (i2 x2)), (3, .int (i2 x3)), (4, .int (i2 x4)), (5, .int (i2 x5))] [] := by
  intro n
  induction n with
  | zero => intro x2 x3 x4 x5 I _ _ _ _ _ v; exact absurd v id
  | succ n ih =>
    intro x2 x3 x4 x5 I hI h2 h3 h4 h5 v
    unfold L_Th_longestOfOneName_11 at v
    refine r_iload B dX8_longestOfOneName_11 rfl ?_
    refine r_aload_n B dX8_longestOfOneName_13 rfl rfl ?_
    refine r_getI B (C := RX8) (T := TX8) (N := 4) (hc.1) 0 rfl win_X8 (by decide) rfl wf_X8_21 dX8_longestOfOneName_14 (jj := 0) rfl ?_
    refine r_icmp_ge B (tgt := 74) dX8_longestOfOneName_17 (by decide) h5 ((hI _ _)) (fun h => ?_) (fun h => ?_)
    · have v := v.1 h
      refine r_iload_n B dX8_longestOfOneName_74 rfl rfl ?_
      refine r_if_ne B (tgt := 82) dX8_longestOfOneName_75 (by decide) h1 (fun h => ?_) (fun h => ?_)
      · have v := v.1 h
        refine r_iload_n B dX8_longestOfOneName_82 rfl rfl ?_
        exact r_iret B hr hk rfl h3 hI v dX8_longestOfOneName_83
      · have v := v.2 h
        refine r_iload_n B dX8_longestOfOneName_78 rfl rfl ?_
        refine r_goto B (tgt := 83) dX8_longestOfOneName_79 (by decide) ?_
        exact r_iret B hr hk rfl h2 hI v dX8_longestOfOneName_83
    · have v := v.2 h
      refine r_aload_n B dX8_longestOfOneName_20 rfl rfl ?_
      refine r_getR B (C := RX8) (T := TX8) (N := 4) (hc.1) 2 rfl win_X8 (by decide) rfl wf_X8_15 dX8_longestOfOneName_21 ?_
      refine r_iload B dX8_longestOfOneName_24 rfl ?_
      obtain ⟨h21, v⟩ := v
      refine r_ald B (hc.2.2.1) (by decide) h21 dX8_longestOfOneName_26 ?_
      refine r_aload_n B dX8_longestOfOneName_27 rfl rfl ?_
      refine r_getR B (C := RX8) (T := TX8) (N := 4) (hc.1) 2 rfl win_X8 (by decide) rfl wf_X8_15 dX8_longestOfOneName_28 ?_
      refine r_iload B dX8_longestOfOneName_31 rfl ?_
      obtain ⟨h22, v⟩ := v
      refine r_ald B (hc.2.2.1) (by decide) h22 dX8_longestOfOneName_33 ?_
      refine r_icmp_eq B (tgt := 41) dX8_longestOfOneName_34 (by decide) ((hI _ _)) ((hI _ _)) (fun h => ?_) (fun h => ?_)
      · have v := v.1 h
        refine r_sub [0, 1, 2, 3, 4, 5] rfl ?_
        exact wJ_Th_longestOfOneName_41 B hr hk hc h1 ih x2 x3 x4 x5 I hI h2 h3 h4 h5 v
      · have v := v.2 h
        refine r_iload B dX8_longestOfOneName_37 rfl ?_
        refine r_istore B dX8_longestOfOneName_39 (by decide) (lv' := [(4, .int (i2 x5)), (0, .ref (eA E c)), (1, .int (i2 x1)), (2, .int (i2 x2)), (3, .int (i2 x3)), (5, .int (i2 x5))]) rfl ?_
        refine r_sub [1, 2, 3, 4, 0, 5] rfl ?_
        refine r_sub [0, 1, 2, 3, 4, 5] rfl ?_
        exact wJ_Th_longestOfOneName_41 B hr hk hc h1 ih x2 x3 x5 x5 I hI h2 h3 h5 h5 v
set_option maxHeartbeats 4000000 in
set_option maxRecDepth 100000 in
theorem c_Th_longestOfOneName {l : Launch} {E : En} {A : Nat → Prop} (c : Int) (x1 : Int) (I : Mm) (hc : isTh c) (hI : rgM I) (h1 : r32 x1) : CI l E A yX8_longestOfOneName cX8_longestOfOneName 6 .int 0 0 [.ref (eA E c), .int (i2 x1)] I (V_Th_longestOfOneName c x1 I) := by
  intro Q v
  refine mk_met (own := RX8) (lv0 := [(0, .ref (eA E c)), (1, .int (i2 x1))]) (by decide) rfl (Nat.le_of_ble_eq_true rfl) rfl (fun p e s m args below meth c0 B hr hk => ?_)
  unfold V_Th_longestOfOneName at v
  refine r_iconst B dX8_longestOfOneName_0 ?_
  refine r_istore_n B dX8_longestOfOneName_1 rfl (by decide) (lv' := [(2, .int (i2 0)), (0, .ref (eA E c)), (1, .int (i2 x1))]) rfl ?_
  refine r_sub [1, 2, 0] rfl ?_
  refine r_bipush B dX8_longestOfOneName_2 (by decide) ?_
  refine r_istore_n B dX8_longestOfOneName_4 rfl (by decide) (lv' := [(3, .int (i2 (-2))), (0, .ref (eA E c)), (1, .int (i2 x1)), (2, .int (i2 0))]) rfl ?_
  refine r_sub [1, 2, 3, 0] rfl ?_
  refine r_iconst B dX8_longestOfOneName_5 ?_
  refine r_istore B dX8_longestOfOneName_6 (by decide) (lv' := [(4, .int (i2 0)), (0, .ref (eA E c)), (1, .int (i2 x1)), (2, .int (i2 0)), (3, .int (i2 (-2)))]) rfl ?_
  refine r_sub [1, 2, 3, 4, 0] rfl ?_
  refine r_iconst B dX8_longestOfOneName_8 ?_
  refine r_istore B dX8_longestOfOneName_9 (by decide) (lv' := [(5, .int (i2 0)), (0, .ref (eA E c)), (1, .int (i2 x1)), (2, .int (i2 0)), (3, .int (i2 (-2))), (4, .int (i2 0))]) rfl ?_
  refine r_sub [1, 2, 3, 4, 5, 0] rfl ?_
  obtain ⟨f30, v⟩ := v
  refine r_sub [0, 1, 2, 3, 4, 5] rfl ?_
  exact wL_Th_longestOfOneName_11 B hr hk hc h1 f30 0 (-2) 0 0 I hI ((rg_lit (by decide) (by decide))) ((rg_lit (by decide) (by decide))) ((rg_lit (by decide) (by decide))) ((rg_lit (by decide) (by decide))) v
set_option maxHeartbeats 4000000 in
set_option maxRecDepth 100000 in
theorem c_X_longest {l : Launch} {E : En} {A : Nat → Prop} (x1 : Int) (I : Mm)  (hI : rgM I) (h1 : r32 x1) : CI l E A yX10_longest cX10_longest 2 .int 1 25 [.ref (eA E 0), .int (i2 x1)] I (V_X_longest x1 I) := by
  intro Q v
  refine mk_met (own := RX10) (lv0 := [(0, .ref (eA E 0)), (1, .int (i2 x1))]) (by decide) rfl (Nat.le_of_ble_eq_true rfl) rfl (fun p e s m args below meth c0 B hr hk => ?_)
  unfold V_X_longest at v
  refine r_iload_n B dX10_longest_0 rfl rfl ?_
  refine r_if_lt B (tgt := 9) dX10_longest_1 (by decide) h1 (fun h => ?_) (fun h => ?_)
  · have v := v.1 h
    refine r_iconst B dX10_longest_9 ?_
    refine r_goto B (tgt := 24) dX10_longest_10 (by decide) ?_
    exact r_iret B hr hk rfl ((rg_lit (by decide) (by decide))) hI v dX10_longest_24
  · have v := v.2 h
    refine r_iload_n B dX10_longest_4 rfl rfl ?_
    refine r_iconst B dX10_longest_5 ?_
    refine r_icmp_le B (tgt := 13) dX10_longest_6 (by decide) h1 ((rg_lit (by decide) (by decide))) (fun h => ?_) (fun h => ?_)
    · have v := v.1 h
      refine r_aload_n B dX10_longest_13 rfl rfl ?_
      refine r_getR B (C := RX10) (T := TX10) (N := 11) o_0 0 rfl win_X10 (by decide) rfl wf_X10_10 dX10_longest_14 ?_
      refine r_getR B (C := RX0) (T := TX0) (N := 9) (ca_1.1) 1 rfl win_X0 (by decide) rfl wf_X10_89 dX10_longest_17 ?_
      refine r_iload_n B dX10_longest_20 rfl rfl ?_
      refine r_cI B (st := []) (as := [.int (i2 x1)]) (T := TX8) (N := 4) (c_Th_longestOfOneName (1 + 5) x1 _ (ca_1.2.2.1) hI h1) v (ca_1.2.2.1.1) rfl mw_Th_longestOfOneName wl_X10_341 ⟨Nat.le_of_ble_eq_true rfl, Nat.le_of_ble_eq_true rfl⟩ rfl rfl (Nat.le_of_ble_eq_true rfl) dX10_longest_21 (fun z21 I22 hz21 hI22 v => ?_)
      exact r_iret B hr hk rfl hz21 hI22 v dX10_longest_24
    · have v := v.2 h
      refine r_iconst B dX10_longest_9 ?_
      refine r_goto B (tgt := 24) dX10_longest_10 (by decide) ?_
      exact r_iret B hr hk rfl ((rg_lit (by decide) (by decide))) hI v dX10_longest_24
set_option maxHeartbeats 4000000 in
set_option maxRecDepth 100000 in
theorem wL_Wa_ruleOfPrice_3 {p : Program} {l : Launch} {e : Env} {s : State} {m : MethodId} {args : Array Value} {below : List Frame} {meth : Method} {c0 : Code} {E : En} {A : Nat → Prop} {c1 : Int} {x2 : Int} {x3 : Int} {Q : Int → Mm → Prop}  (B : Bd p (rmm 2 46) s m args c0 cX9_ruleOfPrice 5 RX9 E A 0 0) (hr : meth.sig.returnType = some .int) (hk : meth.locks = false) (hc1 : isRu c1) (h2 : r32 x2) (h3 : r32 x3)   : ∀ (n : Nat) (x4 : Int) (I : Mm), rgM I → r32 x4 → L_Wa_ruleOfPrice_3 c1 x2 x3 Q n x4 I → WI p l e (rmm 2 46) s m args below meth c0 E A 5 0 0 (qI below E A args s Q) I 3 [(0, .ref (eA E 37)), (1, .ref (eA E c1)), (2, .int (i2 x2)), (3, .int (i2 x3)), (4, .int (i2 x4))] [] := by
  intro n
  induction n with
  | zero => intro x4 I _ _ v; exact absurd v id
  | succ n ih =>
    intro x4 I hI h4 v
    unfold L_Wa_ruleOfPrice_3 at v
    refine r_iload B dX9_ruleOfPrice_3 rfl ?_
    refine r_aload_n B dX9_ruleOfPrice_5 rfl rfl ?_
    refine r_getI B (C := RX5) (T := TX5) (N := 4) (hc1.1) 0 rfl win_X5 (by decide) rfl wf_X9_36 dX9_ruleOfPrice_6 (jj := 0) rfl ?_
    refine r_icmp_ge B (tgt := 43) dX9_ruleOfPrice_9 (by decide) h4 ((hI _ _)) (fun h => ?_) (fun h => ?_)
    · have v := v.1 h
      refine r_iconst B dX9_ruleOfPrice_43 ?_
      exact r_iret B hr hk rfl ((rg_lit (by decide) (by decide))) hI v dX9_ruleOfPrice_44
    · have v := v.2 h
      refine r_aload_n B dX9_ruleOfPrice_12 rfl rfl ?_
      refine r_getR B (C := RX5) (T := TX5) (N := 4) (hc1.1) 1 rfl win_X5 (by decide) rfl wf_X9_40 dX9_ruleOfPrice_13 ?_
      refine r_iload B dX9_ruleOfPrice_16 rfl ?_
      obtain ⟨h21, v⟩ := v
      refine r_ald B (hc1.2.1) (by decide) h21 dX9_ruleOfPrice_18 ?_
      refine r_iload_n B dX9_ruleOfPrice_19 rfl rfl ?_
      refine r_icmp_ne B (tgt := 37) dX9_ruleOfPrice_20 (by decide) ((hI _ _)) h2 (fun h => ?_) (fun h => ?_)
      · have v := v.1 h
        refine r_iinc B (q := 4) dX9_ruleOfPrice_37 (by decide) rfl (lv' := [(4, .int (i2 (x4 + 1))), (0, .ref (eA E 37)), (1, .ref (eA E c1)), (2, .int (i2 x2)), (3, .int (i2 x3))]) rfl ?_
        refine r_sub [1, 2, 3, 4, 0] rfl ?_
        refine r_goto B (tgt := 3) dX9_ruleOfPrice_40 (by decide) ?_
        obtain ⟨h22, v⟩ := v
        refine r_sub [0, 1, 2, 3, 4] rfl ?_
        exact ih (x4 + 1) _ hI h22 v
      · have v := v.2 h
        refine r_aload_n B dX9_ruleOfPrice_23 rfl rfl ?_
        refine r_aload_n B dX9_ruleOfPrice_24 rfl rfl ?_
        refine r_iload B dX9_ruleOfPrice_25 rfl ?_
        refine r_cI B (st := []) (as := [.ref (eA E c1), .int (i2 x4)]) (T := TX9) (N := 1) (c_Wa_priceBy c1 x4 _ hc1 hI h4) v o_37 rfl mw_Wa_priceBy wl_X9_43 ⟨Nat.le_of_ble_eq_true rfl, Nat.le_of_ble_eq_true rfl⟩ rfl rfl (Nat.le_of_ble_eq_true rfl) dX9_ruleOfPrice_27 (fun z23 I24 hz23 hI24 v => ?_)
        refine r_iload_n B dX9_ruleOfPrice_30 rfl rfl ?_
        refine r_icmp_ne B (tgt := 37) dX9_ruleOfPrice_31 (by decide) hz23 h3 (fun h => ?_) (fun h => ?_)
        · have v := v.1 h
          refine r_iinc B (q := 4) dX9_ruleOfPrice_37 (by decide) rfl (lv' := [(4, .int (i2 (x4 + 1))), (0, .ref (eA E 37)), (1, .ref (eA E c1)), (2, .int (i2 x2)), (3, .int (i2 x3))]) rfl ?_
          refine r_sub [1, 2, 3, 4, 0] rfl ?_
          refine r_goto B (tgt := 3) dX9_ruleOfPrice_40 (by decide) ?_
          obtain ⟨h25, v⟩ := v
          refine r_sub [0, 1, 2, 3, 4] rfl ?_
          exact ih (x4 + 1) _ hI24 h25 v
        · have v := v.2 h
          refine r_iload B dX9_ruleOfPrice_34 rfl ?_
          exact r_iret B hr hk rfl h4 hI24 v dX9_ruleOfPrice_36
set_option maxHeartbeats 4000000 in
set_option maxRecDepth 100000 in
theorem c_Wa_ruleOfPrice {l : Launch} {E : En} {A : Nat → Prop} (c1 : Int) (x2 : Int) (x3 : Int) (I : Mm) (hc1 : isRu c1) (hI : rgM I) (h2 : r32 x2) (h3 : r32 x3) : CI l E A yX9_ruleOfPrice cX9_ruleOfPrice 5 .int 2 46 [.ref (eA E 37), .ref (eA E c1), .int (i2 x2), .int (i2 x3)] I (V_Wa_ruleOfPrice c1 x2 x3 I) := by
  intro Q v
  refine mk_met (own := RX9) (lv0 := [(0, .ref (eA E 37)), (1, .ref (eA E c1)), (2, .int (i2 x2)), (3, .int (i2 x3))]) (by decide) rfl (Nat.le_of_ble_eq_true rfl) rfl (fun p e s m args below meth c0 B hr hk => ?_)
  unfold V_Wa_ruleOfPrice at v
  refine r_iconst B dX9_ruleOfPrice_0 ?_
  refine r_istore B dX9_ruleOfPrice_1 (by decide) (lv' := [(4, .int (i2 0)), (0, .ref (eA E 37)), (1, .ref (eA E c1)), (2, .int (i2 x2)), (3, .int (i2 x3))]) rfl ?_
  refine r_sub [1, 2, 3, 4, 0] rfl ?_
  obtain ⟨f26, v⟩ := v
  refine r_sub [0, 1, 2, 3, 4] rfl ?_
  exact wL_Wa_ruleOfPrice_3 B hr hk hc1 h2 h3 f26 0 I hI ((rg_lit (by decide) (by decide))) v
set_option maxHeartbeats 4000000 in
set_option maxRecDepth 100000 in
theorem wL_Wa_ruleAt_54 {p : Program} {l : Launch} {e : Env} {s : State} {m : MethodId} {args : Array Value} {below : List Frame} {meth : Method} {c0 : Code} {E : En} {A : Nat → Prop} {c1 : Int} {x2 : Int} {x3 : Int} {x4 : Int} {Q : Int → Mm → Prop}  (B : Bd p (rmm 3 107) s m args c0 cX9_ruleAt 10 RX9 E A 0 0) (hr : meth.sig.returnType = some .int) (hk : meth.locks = false) (hc1 : isRu c1) (h2 : r32 x2) (h3 : r32 x3) (h4 : r32 x4)   : ∀ (n : Nat) (x5 : Int) (x7 : Int) (x8 : Int) (x9 : Int) (I : Mm), rgM I → r32 x5 → r32 x7 → r32 x8 → r32 x9 → L_Wa_ruleAt_54 c1 x2 x3 x4 Q n x5 x7 x8 x9 I → WI p l e (rmm 3 107) s m args below meth c0 E A 10 0 0 (qI below E A args s Q) I 54 [(0, .ref (eA E 37)), (1, .ref (eA E c1)), (4, .int (i2 x4)), (5, .int (i2 x5)), (7, .int (i2 x7)), (8, .int (i2 x8)), (9, .int (i2 x9))] [] := by
  intro n
  induction n with
  | zero => intro x5 x7 x8 x9 I _ _ _ _ _ v; exact absurd v id
  | succ n ih =>
    intro x5 x7 x8 x9 I hI h5 h7 h8 h9 v
    unfold L_Wa_ruleAt_54 at v
    refine r_iload B dX9_ruleAt_54 rfl ?_
    refine r_iload B dX9_ruleAt_56 rfl ?_
    refine r_icmp_gt B (tgt := 111) dX9_ruleAt_58 (by decide) h9 h4 (fun h => ?_) (fun h => ?_)
    · have v := v.1 h
      refine r_iload B dX9_ruleAt_111 rfl ?_
      exact r_iret B hr hk rfl h8 hI v dX9_ruleAt_113
    · have v := v.2 h
      refine r_aload_n B dX9_ruleAt_61 rfl rfl ?_
      refine r_aload_n B dX9_ruleAt_62 rfl rfl ?_
      refine r_iload B dX9_ruleAt_63 rfl ?_
      refine r_iload B dX9_ruleAt_65 rfl ?_
      refine r_cI B (st := []) (as := [.ref (eA E c1), .int (i2 x7), .int (i2 x5)]) (T := TX9) (N := 1) (c_Wa_ruleOfPrice c1 x7 x5 _ hc1 hI h7 h5) v o_37 rfl mw_Wa_ruleOfPrice wl_X9_20 ⟨Nat.le_of_ble_eq_true rfl, Nat.le_of_ble_eq_true rfl⟩ rfl rfl (Nat.le_of_ble_eq_true rfl) dX9_ruleAt_67 (fun z24 I25 hz24 hI25 v => ?_)
      refine r_istore B dX9_ruleAt_70 (by decide) (lv' := [(8, .int (i2 z24)), (0, .ref (eA E 37)), (1, .ref (eA E c1)), (4, .int (i2 x4)), (5, .int (i2 x5)), (7, .int (i2 x7)), (9, .int (i2 x9))]) rfl ?_
      refine r_sub [1, 2, 3, 4, 5, 0, 6] rfl ?_
      refine r_aload_n B dX9_ruleAt_72 rfl rfl ?_
      refine r_iload B dX9_ruleAt_73 rfl ?_
      refine r_cI B (st := []) (as := [.int (i2 z24)]) (T := TX5) (N := 4) (c_Ru_has c1 z24 _ hc1 hI25 hz24) v (hc1.1) rfl mw_Ru_has wl_X9_23 ⟨Nat.le_of_ble_eq_true rfl, Nat.le_of_ble_eq_true rfl⟩ rfl rfl (Nat.le_of_ble_eq_true rfl) dX9_ruleAt_75 (fun z26 I27 hz26 hI27 v => ?_)
      refine r_if_ne B (tgt := 84) dX9_ruleAt_78 (by decide) hz26 (fun h => ?_) (fun h => ?_)
      · have v := v.1 h
        refine r_aload_n B dX9_ruleAt_84 rfl rfl ?_
        refine r_getR B (C := RX5) (T := TX5) (N := 4) (hc1.1) 2 rfl win_X5 (by decide) rfl wf_X9_29 dX9_ruleAt_85 ?_
        refine r_iload B dX9_ruleAt_88 rfl ?_
        obtain ⟨h28, v⟩ := v
        refine r_ald B (hc1.2.2.1) (by decide) h28 dX9_ruleAt_90 ?_
        refine r_istore B dX9_ruleAt_91 (by decide) (lv' := [(7, .int (i2 (I27 (c1 + 2) z24))), (0, .ref (eA E 37)), (1, .ref (eA E c1)), (4, .int (i2 x4)), (5, .int (i2 x5)), (8, .int (i2 z24)), (9, .int (i2 x9))]) rfl ?_
        refine r_sub [1, 2, 3, 4, 0, 5, 6] rfl ?_
        refine r_iload B dX9_ruleAt_93 rfl ?_
        refine r_aload_n B dX9_ruleAt_95 rfl rfl ?_
        refine r_aload_n B dX9_ruleAt_96 rfl rfl ?_
        refine r_iload B dX9_ruleAt_97 rfl ?_
        refine r_cI B (st := [.int (i2 x5)]) (as := [.ref (eA E c1), .int (i2 z24)]) (T := TX9) (N := 1) (c_Wa_priceOf c1 z24 _ hc1 hI27 hz24) v o_37 rfl mw_Wa_priceOf wl_X9_32 ⟨Nat.le_of_ble_eq_true rfl, Nat.le_of_ble_eq_true rfl⟩ rfl rfl (Nat.le_of_ble_eq_true rfl) dX9_ruleAt_99 (fun z29 I30 hz29 hI30 v => ?_)
        refine r_isub B dX9_ruleAt_102 ?_
        refine r_istore B dX9_ruleAt_103 (by decide) (lv' := [(5, .int (i2 (x5 - z29))), (0, .ref (eA E 37)), (1, .ref (eA E c1)), (4, .int (i2 x4)), (7, .int (i2 (I27 (c1 + 2) z24))), (8, .int (i2 z24)), (9, .int (i2 x9))]) rfl ?_
        refine r_sub [1, 2, 3, 0, 4, 5, 6] rfl ?_
        refine r_iinc B (q := 6) dX9_ruleAt_105 (by decide) rfl (lv' := [(9, .int (i2 (x9 + 1))), (0, .ref (eA E 37)), (1, .ref (eA E c1)), (4, .int (i2 x4)), (5, .int (i2 (x5 - z29))), (7, .int (i2 (I27 (c1 + 2) z24))), (8, .int (i2 z24))]) rfl ?_
        refine r_sub [1, 2, 3, 4, 5, 6, 0] rfl ?_
        refine r_goto B (tgt := 54) dX9_ruleAt_108 (by decide) ?_
        obtain ⟨h31, v⟩ := v
        obtain ⟨h32, v⟩ := v
        refine r_sub [0, 1, 2, 3, 4, 5, 6] rfl ?_
        exact ih (x5 - z29) (I27 (c1 + 2) z24) z24 (x9 + 1) _ hI30 h31 ((hI27 _ _)) hz24 h32 v
      · have v := v.2 h
        refine r_bipush B dX9_ruleAt_81 (by decide) ?_
        exact r_iret B hr hk rfl ((rg_lit (by decide) (by decide))) hI27 v dX9_ruleAt_83
set_option maxHeartbeats 4000000 in
set_option maxRecDepth 100000 in
theorem c_Wa_ruleAt {l : Launch} {E : En} {A : Nat → Prop} (c1 : Int) (x2 : Int) (x3 : Int) (x4 : Int) (I : Mm) (hc1 : isRu c1) (hI : rgM I) (h2 : r32 x2) (h3 : r32 x3) (h4 : r32 x4) : CI l E A yX9_ruleAt cX9_ruleAt 10 .int 3 107 [.ref (eA E 37), .ref (eA E c1), .int (i2 x2), .int (i2 x3), .int (i2 x4)] I (V_Wa_ruleAt c1 x2 x3 x4 I) := by
  intro Q v
  refine mk_met (own := RX9) (lv0 := [(0, .ref (eA E 37)), (1, .ref (eA E c1)), (2, .int (i2 x2)), (3, .int (i2 x3)), (4, .int (i2 x4))]) (by decide) rfl (Nat.le_of_ble_eq_true rfl) rfl (fun p e s m args below meth c0 B hr hk => ?_)
  unfold V_Wa_ruleAt at v
  refine r_aload_n B dX9_ruleAt_0 rfl rfl ?_
  refine r_aload_n B dX9_ruleAt_1 rfl rfl ?_
  refine r_iload_n B dX9_ruleAt_2 rfl rfl ?_
  refine r_iload_n B dX9_ruleAt_3 rfl rfl ?_
  refine r_cI B (st := []) (as := [.ref (eA E c1), .int (i2 x2), .int (i2 x3)]) (T := TX9) (N := 1) (c_Wa_find c1 x2 x3 _ hc1 hI h2 h3) v o_37 rfl mw_Wa_find wl_X9_15 ⟨Nat.le_of_ble_eq_true rfl, Nat.le_of_ble_eq_true rfl⟩ rfl rfl (Nat.le_of_ble_eq_true rfl) dX9_ruleAt_4 (fun z21 I22 hz21 hI22 v => ?_)
  refine r_istore B dX9_ruleAt_7 (by decide) (lv' := [(5, .int (i2 z21)), (0, .ref (eA E 37)), (1, .ref (eA E c1)), (2, .int (i2 x2)), (3, .int (i2 x3)), (4, .int (i2 x4))]) rfl ?_
  refine r_sub [1, 2, 3, 4, 5, 0] rfl ?_
  refine r_iload B dX9_ruleAt_9 rfl ?_
  refine r_ldc B (2000000000) dX9_ruleAt_11 wc_X9_19 (by decide) ?_
  refine r_icmp_ne B (tgt := 19) dX9_ruleAt_13 (by decide) hz21 ((rg_lit (by decide) (by decide))) (fun h => ?_) (fun h => ?_)
  · have v := v.1 h
    refine r_iload B dX9_ruleAt_19 rfl ?_
    refine r_bipush B dX9_ruleAt_21 (by decide) ?_
    obtain ⟨h23, v⟩ := v
    refine r_irem B dX9_ruleAt_23 hz21 ((rg_lit (by decide) (by decide))) (show 0 ≤ z21 ∧ (0 : Int) < 32 from ⟨h23, by decide⟩) ?_
    refine r_istore B dX9_ruleAt_24 (by decide) (lv' := [(6, .int (i2 (z21 % 32))), (0, .ref (eA E 37)), (1, .ref (eA E c1)), (2, .int (i2 x2)), (3, .int (i2 x3)), (4, .int (i2 x4)), (5, .int (i2 z21))]) rfl ?_
    refine r_sub [1, 2, 3, 4, 5, 6, 0] rfl ?_
    refine r_iload B dX9_ruleAt_26 rfl ?_
    refine r_iconst B dX9_ruleAt_28 ?_
    refine r_icmp_ne B (tgt := 35) dX9_ruleAt_29 (by decide) h4 ((rg_lit (by decide) (by decide))) (fun h => ?_) (fun h => ?_)
    · have v := v.1 h
      refine r_iload B dX9_ruleAt_35 rfl ?_
      refine r_iload B dX9_ruleAt_37 rfl ?_
      refine r_icmp_lt B (tgt := 45) dX9_ruleAt_39 (by decide) h4 ((rg_rem ((rg_lit (by decide) (by decide))) (show 0 ≤ z21 ∧ (0 : Int) < 32 from ⟨h23, by decide⟩).2)) (fun h => ?_) (fun h => ?_)
      · have v := v.1 h
        refine r_iload_n B dX9_ruleAt_45 rfl rfl ?_
        refine r_istore B dX9_ruleAt_46 (by decide) (lv' := [(7, .int (i2 x2)), (0, .ref (eA E 37)), (1, .ref (eA E c1)), (2, .int (i2 x2)), (3, .int (i2 x3)), (4, .int (i2 x4)), (5, .int (i2 z21)), (6, .int (i2 (z21 % 32)))]) rfl ?_
        refine r_sub [1, 2, 3, 4, 5, 6, 7, 0] rfl ?_
        refine r_iconst B dX9_ruleAt_48 ?_
        refine r_istore B dX9_ruleAt_49 (by decide) (lv' := [(8, .int (i2 (-1))), (0, .ref (eA E 37)), (1, .ref (eA E c1)), (2, .int (i2 x2)), (3, .int (i2 x3)), (4, .int (i2 x4)), (5, .int (i2 z21)), (6, .int (i2 (z21 % 32))), (7, .int (i2 x2))]) rfl ?_
        refine r_sub [1, 2, 3, 4, 5, 6, 7, 8, 0] rfl ?_
        refine r_iconst B dX9_ruleAt_51 ?_
        refine r_istore B dX9_ruleAt_52 (by decide) (lv' := [(9, .int (i2 0)), (0, .ref (eA E 37)), (1, .ref (eA E c1)), (2, .int (i2 x2)), (3, .int (i2 x3)), (4, .int (i2 x4)), (5, .int (i2 z21)), (6, .int (i2 (z21 % 32))), (7, .int (i2 x2)), (8, .int (i2 (-1)))]) rfl ?_
        refine r_sub [1, 2, 3, 4, 5, 6, 7, 8, 9, 0] rfl ?_
        obtain ⟨f33, v⟩ := v
        refine r_sub [0, 1, 4, 5, 7, 8, 9] rfl ?_
        exact wL_Wa_ruleAt_54 B hr hk hc1 h2 h3 h4 f33 z21 x2 (-1) 0 I22 hI22 hz21 h2 ((rg_lit (by decide) (by decide))) ((rg_lit (by decide) (by decide))) v
      · have v := v.2 h
        refine r_bipush B dX9_ruleAt_42 (by decide) ?_
        exact r_iret B hr hk rfl ((rg_lit (by decide) (by decide))) hI22 v dX9_ruleAt_44
    · have v := v.2 h
      refine r_iload B dX9_ruleAt_32 rfl ?_
      exact r_iret B hr hk rfl ((rg_rem ((rg_lit (by decide) (by decide))) (show 0 ≤ z21 ∧ (0 : Int) < 32 from ⟨h23, by decide⟩).2)) hI22 v dX9_ruleAt_34
  · have v := v.2 h
    refine r_bipush B dX9_ruleAt_16 (by decide) ?_
    exact r_iret B hr hk rfl ((rg_lit (by decide) (by decide))) hI22 v dX9_ruleAt_18
set_option maxHeartbeats 4000000 in
set_option maxRecDepth 100000 in
theorem c_X_way {l : Launch} {E : En} {A : Nat → Prop} (x1 : Int) (x2 : Int) (x3 : Int) (I : Mm)  (hI : rgM I) (h1 : r32 x1) (h2 : r32 x2) (h3 : r32 x3) : CI l E A yX10_way cX10_way 4 .int 4 136 [.ref (eA E 0), .int (i2 x1), .int (i2 x2), .int (i2 x3)] I (V_X_way x1 x2 x3 I) := by
  intro Q v
  refine mk_met (own := RX10) (lv0 := [(0, .ref (eA E 0)), (1, .int (i2 x1)), (2, .int (i2 x2)), (3, .int (i2 x3))]) (by decide) rfl (Nat.le_of_ble_eq_true rfl) rfl (fun p e s m args below meth c0 B hr hk => ?_)
  unfold V_X_way at v
  refine r_aload_n B dX10_way_0 rfl rfl ?_
  refine r_getR B (C := RX10) (T := TX10) (N := 11) o_0 0 rfl win_X10 (by decide) rfl wf_X10_10 dX10_way_1 ?_
  refine r_getR B (C := RX0) (T := TX0) (N := 9) (ca_1.1) 0 rfl win_X0 (by decide) rfl wf_X10_101 dX10_way_4 ?_
  refine r_iload_n B dX10_way_7 rfl rfl ?_
  refine r_cI B (st := []) (as := [.int (i2 x1)]) (T := TX3) (N := 4) (c_Nm_has (1 + 1) x1 _ (ca_1.2.1) hI h1) v (ca_1.2.1.1) rfl mw_Nm_has wl_X10_118 ⟨Nat.le_of_ble_eq_true rfl, Nat.le_of_ble_eq_true rfl⟩ rfl rfl (Nat.le_of_ble_eq_true rfl) dX10_way_8 (fun z21 I22 hz21 hI22 v => ?_)
  refine r_if_eq B (tgt := 33) dX10_way_11 (by decide) hz21 (fun h => ?_) (fun h => ?_)
  · have v := v.1 h
    refine r_iconst B dX10_way_33 ?_
    exact r_iret B hr hk rfl ((rg_lit (by decide) (by decide))) hI22 v dX10_way_34
  · have v := v.2 h
    refine r_aload_n B dX10_way_14 rfl rfl ?_
    refine r_getR B (C := RX10) (T := TX10) (N := 11) o_0 0 rfl win_X10 (by decide) rfl wf_X10_10 dX10_way_15 ?_
    refine r_getR B (C := RX0) (T := TX0) (N := 9) (ca_1.1) 0 rfl win_X0 (by decide) rfl wf_X10_101 dX10_way_18 ?_
    refine r_iload_n B dX10_way_21 rfl rfl ?_
    refine r_cI B (st := []) (as := [.int (i2 x2)]) (T := TX3) (N := 4) (c_Nm_has (1 + 1) x2 _ (ca_1.2.1) hI22 h2) v (ca_1.2.1.1) rfl mw_Nm_has wl_X10_118 ⟨Nat.le_of_ble_eq_true rfl, Nat.le_of_ble_eq_true rfl⟩ rfl rfl (Nat.le_of_ble_eq_true rfl) dX10_way_22 (fun z23 I24 hz23 hI24 v => ?_)
    refine r_if_eq B (tgt := 33) dX10_way_25 (by decide) hz23 (fun h => ?_) (fun h => ?_)
    · have v := v.1 h
      refine r_iconst B dX10_way_33 ?_
      exact r_iret B hr hk rfl ((rg_lit (by decide) (by decide))) hI24 v dX10_way_34
    · have v := v.2 h
      refine r_iload_n B dX10_way_28 rfl rfl ?_
      refine r_iconst B dX10_way_29 ?_
      refine r_icmp_ge B (tgt := 35) dX10_way_30 (by decide) h3 ((rg_lit (by decide) (by decide))) (fun h => ?_) (fun h => ?_)
      · have v := v.1 h
        refine r_aload_n B dX10_way_35 rfl rfl ?_
        refine r_getR B (C := RX10) (T := TX10) (N := 11) o_0 5 rfl win_X10 (by decide) rfl wf_X10_45 dX10_way_36 ?_
        refine r_aload_n B dX10_way_39 rfl rfl ?_
        refine r_getR B (C := RX10) (T := TX10) (N := 11) o_0 0 rfl win_X10 (by decide) rfl wf_X10_10 dX10_way_40 ?_
        refine r_getR B (C := RX0) (T := TX0) (N := 9) (ca_1.1) 2 rfl win_X0 (by decide) rfl wf_X10_191 dX10_way_43 ?_
        refine r_iload_n B dX10_way_46 rfl rfl ?_
        refine r_iload_n B dX10_way_47 rfl rfl ?_
        refine r_iload_n B dX10_way_48 rfl rfl ?_
        refine r_cI B (st := []) (as := [.ref (eA E (1 + 9)), .int (i2 x1), .int (i2 x2), .int (i2 x3)]) (T := TX9) (N := 1) (c_Wa_ruleAt (1 + 9) x1 x2 x3 _ (ca_1.2.2.2.1) hI24 h1 h2 h3) v o_37 rfl mw_Wa_ruleAt wl_X10_344 ⟨Nat.le_of_ble_eq_true rfl, Nat.le_of_ble_eq_true rfl⟩ rfl rfl (Nat.le_of_ble_eq_true rfl) dX10_way_49 (fun z25 I26 hz25 hI26 v => ?_)
        exact r_iret B hr hk rfl hz25 hI26 v dX10_way_52
      · have v := v.2 h
        refine r_iconst B dX10_way_33 ?_
        exact r_iret B hr hk rfl ((rg_lit (by decide) (by decide))) hI24 v dX10_way_34
set_option maxHeartbeats 4000000 in
set_option maxRecDepth 100000 in
theorem c_X_by {l : Launch} {E : En} {A : Nat → Prop} (x1 : Int) (x2 : Int) (I : Mm)  (hI : rgM I) (h1 : r32 x1) (h2 : r32 x2) : CI l E A yX10_by cX10_by 4 .int 6 180 [.ref (eA E 0), .int (i2 x1), .int (i2 x2)] I (V_X_by x1 x2 I) := by
  intro Q v
  refine mk_met (own := RX10) (lv0 := [(0, .ref (eA E 0)), (1, .int (i2 x1)), (2, .int (i2 x2))]) (by decide) rfl (Nat.le_of_ble_eq_true rfl) rfl (fun p e s m args below meth c0 B hr hk => ?_)
  unfold V_X_by at v
  refine r_iload_n B dX10_by_0 rfl rfl ?_
  refine r_sI B (st := []) (as := [.int (i2 x1)]) (c_X_isHour x1 _ hI h1) v mw_X_isHour wl_X10_122 ⟨Nat.le_of_ble_eq_true rfl, Nat.le_of_ble_eq_true rfl⟩ rfl rfl (Nat.le_of_ble_eq_true rfl) dX10_by_1 (fun z21 I22 hz21 hI22 v => ?_)
  refine r_if_eq B (tgt := 16) dX10_by_4 (by decide) hz21 (fun h => ?_) (fun h => ?_)
  · have v := v.1 h
    refine r_iconst B dX10_by_16 ?_
    exact r_iret B hr hk rfl ((rg_lit (by decide) (by decide))) hI22 v dX10_by_17
  · have v := v.2 h
    refine r_iload_n B dX10_by_7 rfl rfl ?_
    refine r_if_lt B (tgt := 16) dX10_by_8 (by decide) h2 (fun h => ?_) (fun h => ?_)
    · have v := v.1 h
      refine r_iconst B dX10_by_16 ?_
      exact r_iret B hr hk rfl ((rg_lit (by decide) (by decide))) hI22 v dX10_by_17
    · have v := v.2 h
      refine r_iload_n B dX10_by_11 rfl rfl ?_
      refine r_iconst B dX10_by_12 ?_
      refine r_icmp_le B (tgt := 18) dX10_by_13 (by decide) h2 ((rg_lit (by decide) (by decide))) (fun h => ?_) (fun h => ?_)
      · have v := v.1 h
        refine r_aload_n B dX10_by_18 rfl rfl ?_
        refine r_getR B (C := RX10) (T := TX10) (N := 11) o_0 1 rfl win_X10 (by decide) rfl wf_X10_16 dX10_by_19 ?_
        refine r_aload_n B dX10_by_22 rfl rfl ?_
        refine r_getR B (C := RX10) (T := TX10) (N := 11) o_0 0 rfl win_X10 (by decide) rfl wf_X10_10 dX10_by_23 ?_
        refine r_cV B (st := []) (as := [.ref (eA E 1)]) (T := TX0) (N := 9) (c_Ca_copyFrom 17 1 _ ca_17 ca_1 hI22 ) v (ca_17.1) rfl mw_Ca_copyFrom wl_X10_82 ⟨Nat.le_of_ble_eq_true rfl, Nat.le_of_ble_eq_true rfl⟩ rfl rfl (Nat.le_of_ble_eq_true rfl) dX10_by_26 (fun I23 hI23 v => ?_)
        refine r_aload_n B dX10_by_29 rfl rfl ?_
        refine r_getR B (C := RX10) (T := TX10) (N := 11) o_0 1 rfl win_X10 (by decide) rfl wf_X10_16 dX10_by_30 ?_
        refine r_iload_n B dX10_by_33 rfl rfl ?_
        refine r_sipush B dX10_by_34 (by decide) ?_
        refine r_cI B (st := []) (as := [.int (i2 x1), .int (i2 300)]) (T := TX0) (N := 9) (c_Ca_takeDue 17 x1 300 _ ca_17 hI23 h1 ((rg_lit (by decide) (by decide)))) v (ca_17.1) rfl mw_Ca_takeDue wl_X10_138 ⟨Nat.le_of_ble_eq_true rfl, Nat.le_of_ble_eq_true rfl⟩ rfl rfl (Nat.le_of_ble_eq_true rfl) dX10_by_37 (fun z24 I25 hz24 hI25 v => ?_)
        refine r_istore_n B dX10_by_40 rfl (by decide) (lv' := [(3, .int (i2 z24)), (0, .ref (eA E 0)), (1, .int (i2 x1)), (2, .int (i2 x2))]) rfl ?_
        refine r_sub [1, 2, 3, 0] rfl ?_
        refine r_iload_n B dX10_by_41 rfl rfl ?_
        have hsw : x2 = 0 ∨ x2 = 1 ∨ (¬ x2 = 0 ∧ ¬ x2 = 1) := by omega
        rcases hsw with hcs | hcs | hcs
        · have v := v.1 hcs
          refine r_look B (off := 26) (tgt := 68) dX10_by_42 (by decide) h2 (by rw [hcs]; first | done | rfl) (by decide) ?_
          refine r_iload_n B dX10_by_68 rfl rfl ?_
          exact r_iret B hr hk rfl hz24 hI25 v dX10_by_69
        · have v := v.2.1 hcs
          refine r_look B (off := 28) (tgt := 70) dX10_by_42 (by decide) h2 (by rw [hcs]; first | done | rfl) (by decide) ?_
          refine r_aload_n B dX10_by_70 rfl rfl ?_
          refine r_getR B (C := RX10) (T := TX10) (N := 11) o_0 1 rfl win_X10 (by decide) rfl wf_X10_16 dX10_by_71 ?_
          refine r_getR B (C := RX0) (T := TX0) (N := 9) (ca_17.1) 4 rfl win_X0 (by decide) rfl wf_X10_276 dX10_by_74 ?_
          refine r_iconst B dX10_by_77 ?_
          refine r_ald B (ca_17.2.2.2.2.2) (by decide) (by decide) dX10_by_78 ?_
          refine r_aload_n B dX10_by_79 rfl rfl ?_
          refine r_getR B (C := RX10) (T := TX10) (N := 11) o_0 0 rfl win_X10 (by decide) rfl wf_X10_10 dX10_by_80 ?_
          refine r_getR B (C := RX0) (T := TX0) (N := 9) (ca_1.1) 4 rfl win_X0 (by decide) rfl wf_X10_276 dX10_by_83 ?_
          refine r_iconst B dX10_by_86 ?_
          refine r_ald B (ca_1.2.2.2.2.2) (by decide) (by decide) dX10_by_87 ?_
          refine r_isub B dX10_by_88 ?_
          obtain ⟨h26, v⟩ := v
          exact r_iret B hr hk rfl h26 hI25 v dX10_by_89
        · have v := v.2.2 hcs
          refine r_look B (off := 48) (tgt := 90) dX10_by_42 (by decide) h2 (by simp only [Op.lookupswitch.offset]; rw [if_neg (by omega), if_neg (by omega)]) (by decide) ?_
          refine r_aload_n B dX10_by_90 rfl rfl ?_
          refine r_getR B (C := RX10) (T := TX10) (N := 11) o_0 1 rfl win_X10 (by decide) rfl wf_X10_16 dX10_by_91 ?_
          refine r_getR B (C := RX0) (T := TX0) (N := 9) (ca_17.1) 1 rfl win_X0 (by decide) rfl wf_X10_89 dX10_by_94 ?_
          refine r_getI B (C := RX8) (T := TX8) (N := 4) (ca_17.2.2.1.1) 0 rfl win_X8 (by decide) rfl wf_X10_93 dX10_by_97 (jj := 0) rfl ?_
          exact r_iret B hr hk rfl ((hI25 _ _)) hI25 v dX10_by_100
      · have v := v.2 h
        refine r_iconst B dX10_by_16 ?_
        exact r_iret B hr hk rfl ((rg_lit (by decide) (by decide))) hI22 v dX10_by_17
set_option maxHeartbeats 4000000 in
set_option maxRecDepth 100000 in
theorem wL_Th_digestFrom_5 {p : Program} {l : Launch} {e : Env} {s : State} {m : MethodId} {args : Array Value} {below : List Frame} {meth : Method} {c0 : Code} {E : En} {A : Nat → Prop} {c : Int} {x1 : Int} {Q : Int → Mm → Prop}  (B : Bd p (rmm 0 0) s m args c0 cX8_digestFrom 6 RX8 E A 0 0) (hr : meth.sig.returnType = some .long) (hk : meth.locks = false) (hc : isTh c) (h1 : r64 x1)   : ∀ (n : Nat) (x3 : Int) (x5 : Int) (I : Mm), rgM I → r32 x5 → L_Th_digestFrom_5 c x1 Q n x3 x5 I → WI p l e (rmm 0 0) s m args below meth c0 E A 6 0 0 (qL below E A args s Q) I 5 [(0, .ref (eA E c)), (3, .long (l2 x3)), (5, .int (i2 x5))] [] := by
  intro n
  induction n with
  | zero => intro x3 x5 I _ _ v; exact absurd v id
  | succ n ih =>
    intro x3 x5 I hI h5 v
    unfold L_Th_digestFrom_5 at v
    refine r_iload B dX8_digestFrom_5 rfl ?_
    refine r_aload_n B dX8_digestFrom_7 rfl rfl ?_
    refine r_getI B (C := RX8) (T := TX8) (N := 4) (hc.1) 0 rfl win_X8 (by decide) rfl wf_X8_21 dX8_digestFrom_8 (jj := 0) rfl ?_
    refine r_icmp_ge B (tgt := 65) dX8_digestFrom_11 (by decide) h5 ((hI _ _)) (fun h => ?_) (fun h => ?_)
    · have v := v.1 h
      refine r_lload_n B dX8_digestFrom_65 rfl rfl ?_
      exact r_lret B hr hk hI v dX8_digestFrom_66
    · have v := v.2 h
      refine r_ldc2 B (31) dX8_digestFrom_14 wc_X8_66 (by decide) ?_
      refine r_lload_n B dX8_digestFrom_17 rfl rfl ?_
      refine r_lmul B dX8_digestFrom_18 ?_
      refine r_aload_n B dX8_digestFrom_19 rfl rfl ?_
      refine r_getR B (C := RX8) (T := TX8) (N := 4) (hc.1) 1 rfl win_X8 (by decide) rfl wf_X8_9 dX8_digestFrom_20 ?_
      refine r_iload B dX8_digestFrom_23 rfl ?_
      obtain ⟨h21, v⟩ := v
      refine r_ald B (hc.2.1) (by decide) h21 dX8_digestFrom_25 ?_
      refine r_i2l B dX8_digestFrom_26 ((hI _ _)) ?_
      refine r_ladd B dX8_digestFrom_27 ?_
      refine r_lstore_n B dX8_digestFrom_28 rfl (by decide) (lv' := [(3, .long (l2 ((31 * x3) + I (c + 1) x5))), (0, .ref (eA E c)), (5, .int (i2 x5))]) rfl ?_
      refine r_sub [1, 0, 2] rfl ?_
      refine r_ldc2 B (31) dX8_digestFrom_29 wc_X8_66 (by decide) ?_
      refine r_lload_n B dX8_digestFrom_32 rfl rfl ?_
      refine r_lmul B dX8_digestFrom_33 ?_
      refine r_aload_n B dX8_digestFrom_34 rfl rfl ?_
      refine r_getR B (C := RX8) (T := TX8) (N := 4) (hc.1) 2 rfl win_X8 (by decide) rfl wf_X8_15 dX8_digestFrom_35 ?_
      refine r_iload B dX8_digestFrom_38 rfl ?_
      obtain ⟨h22, v⟩ := v
      refine r_ald B (hc.2.2.1) (by decide) h22 dX8_digestFrom_40 ?_
      refine r_i2l B dX8_digestFrom_41 ((hI _ _)) ?_
      refine r_ladd B dX8_digestFrom_42 ?_
      refine r_lstore_n B dX8_digestFrom_43 rfl (by decide) (lv' := [(3, .long (l2 ((31 * ((31 * x3) + I (c + 1) x5)) + I (c + 2) x5))), (0, .ref (eA E c)), (5, .int (i2 x5))]) rfl ?_
      refine r_sub [1, 0, 2] rfl ?_
      refine r_ldc2 B (31) dX8_digestFrom_44 wc_X8_66 (by decide) ?_
      refine r_lload_n B dX8_digestFrom_47 rfl rfl ?_
      refine r_lmul B dX8_digestFrom_48 ?_
      refine r_aload_n B dX8_digestFrom_49 rfl rfl ?_
      refine r_getR B (C := RX8) (T := TX8) (N := 4) (hc.1) 3 rfl win_X8 (by decide) rfl wf_X8_18 dX8_digestFrom_50 ?_
      refine r_iload B dX8_digestFrom_53 rfl ?_
      obtain ⟨h23, v⟩ := v
      refine r_ald B (hc.2.2.2) (by decide) h23 dX8_digestFrom_55 ?_
      refine r_i2l B dX8_digestFrom_56 ((hI _ _)) ?_
      refine r_ladd B dX8_digestFrom_57 ?_
      refine r_lstore_n B dX8_digestFrom_58 rfl (by decide) (lv' := [(3, .long (l2 ((31 * ((31 * ((31 * x3) + I (c + 1) x5)) + I (c + 2) x5)) + I (c + 3) x5))), (0, .ref (eA E c)), (5, .int (i2 x5))]) rfl ?_
      refine r_sub [1, 0, 2] rfl ?_
      refine r_iinc B (q := 2) dX8_digestFrom_59 (by decide) rfl (lv' := [(5, .int (i2 (x5 + 1))), (0, .ref (eA E c)), (3, .long (l2 ((31 * ((31 * ((31 * x3) + I (c + 1) x5)) + I (c + 2) x5)) + I (c + 3) x5)))]) rfl ?_
      refine r_sub [1, 2, 0] rfl ?_
      refine r_goto B (tgt := 5) dX8_digestFrom_62 (by decide) ?_
      obtain ⟨h24, v⟩ := v
      refine r_sub [0, 1, 2] rfl ?_
      exact ih ((31 * ((31 * ((31 * x3) + I (c + 1) x5)) + I (c + 2) x5)) + I (c + 3) x5) (x5 + 1) _ hI h24 v
set_option maxHeartbeats 4000000 in
set_option maxRecDepth 100000 in
theorem c_Th_digestFrom {l : Launch} {E : En} {A : Nat → Prop} (c : Int) (x1 : Int) (I : Mm) (hc : isTh c) (hI : rgM I) (h1 : r64 x1) : CL l E A yX8_digestFrom cX8_digestFrom 6 0 0 [.ref (eA E c), .long (l2 x1)] I (V_Th_digestFrom c x1 I) := by
  intro Q v
  refine mk_met (own := RX8) (lv0 := [(0, .ref (eA E c)), (1, .long (l2 x1))]) (by decide) rfl (Nat.le_of_ble_eq_true rfl) rfl (fun p e s m args below meth c0 B hr hk => ?_)
  unfold V_Th_digestFrom at v
  refine r_lload_n B dX8_digestFrom_0 rfl rfl ?_
  refine r_lstore_n B dX8_digestFrom_1 rfl (by decide) (lv' := [(3, .long (l2 x1)), (0, .ref (eA E c)), (1, .long (l2 x1))]) rfl ?_
  refine r_sub [1, 2, 0] rfl ?_
  refine r_iconst B dX8_digestFrom_2 ?_
  refine r_istore B dX8_digestFrom_3 (by decide) (lv' := [(5, .int (i2 0)), (0, .ref (eA E c)), (1, .long (l2 x1)), (3, .long (l2 x1))]) rfl ?_
  refine r_sub [1, 2, 3, 0] rfl ?_
  obtain ⟨f25, v⟩ := v
  refine r_sub [0, 2, 3] rfl ?_
  exact wL_Th_digestFrom_5 B hr hk hc h1 f25 x1 0 I hI ((rg_lit (by decide) (by decide))) v
set_option maxHeartbeats 4000000 in
set_option maxRecDepth 100000 in
theorem c_X_digest {l : Launch} {E : En} {A : Nat → Prop}  (I : Mm)  (hI : rgM I)  : CL l E A yX10_digest cX10_digest 1 1 25 [.ref (eA E 0)] I (V_X_digest  I) := by
  intro Q v
  refine mk_met (own := RX10) (lv0 := [(0, .ref (eA E 0))]) (by decide) rfl (Nat.le_of_ble_eq_true rfl) rfl (fun p e s m args below meth c0 B hr hk => ?_)
  unfold V_X_digest at v
  refine r_aload_n B dX10_digest_0 rfl rfl ?_
  refine r_getR B (C := RX10) (T := TX10) (N := 11) o_0 0 rfl win_X10 (by decide) rfl wf_X10_10 dX10_digest_1 ?_
  refine r_getR B (C := RX0) (T := TX0) (N := 9) (ca_1.1) 1 rfl win_X0 (by decide) rfl wf_X10_89 dX10_digest_4 ?_
  refine r_ldc2 B (17) dX10_digest_7 wc_X10_348 (by decide) ?_
  refine r_cL B (st := []) (as := [.long (l2 17)]) (T := TX8) (N := 4) (c_Th_digestFrom (1 + 5) 17 _ (ca_1.2.2.1) hI ((show r64 (17) by exact ⟨by decide, by decide⟩))) v (ca_1.2.2.1.1) rfl mw_Th_digestFrom wl_X10_350 ⟨Nat.le_of_ble_eq_true rfl, Nat.le_of_ble_eq_true rfl⟩ rfl rfl (Nat.le_of_ble_eq_true rfl) dX10_digest_10 (fun z21 I22 hI22 v => ?_)
  exact r_lret B hr hk hI22 v dX10_digest_13
set_option maxHeartbeats 4000000 in
set_option maxRecDepth 100000 in
theorem c_X_count {l : Launch} {E : En} {A : Nat → Prop} (x1 : Int) (I : Mm)  (hI : rgM I) (h1 : r32 x1) : CI l E A yX10_count cX10_count 2 .int 0 0 [.ref (eA E 0), .int (i2 x1)] I (V_X_count x1 I) := by
  intro Q v
  refine mk_met (own := RX10) (lv0 := [(0, .ref (eA E 0)), (1, .int (i2 x1))]) (by decide) rfl (Nat.le_of_ble_eq_true rfl) rfl (fun p e s m args below meth c0 B hr hk => ?_)
  unfold V_X_count at v
  refine r_iload_n B dX10_count_0 rfl rfl ?_
  have hsw : x1 = 0 ∨ x1 = 1 ∨ x1 = 2 ∨ x1 = 3 ∨ x1 = 4 ∨ x1 = 5 ∨ x1 = 6 ∨ x1 = 7 ∨ x1 = 8 ∨ x1 = 9 ∨ (x1 < 0 ∨ 9 < x1) := by omega
  rcases hsw with hcs | hcs | hcs | hcs | hcs | hcs | hcs | hcs | hcs | hcs | hcs
  · have v := v.1 hcs
    refine r_tabIn B (tgt := 56) dX10_count_1 h1 0 hcs (by decide) (by decide) rfl (by decide) ?_
    refine r_aload_n B dX10_count_56 rfl rfl ?_
    refine r_getR B (C := RX10) (T := TX10) (N := 11) o_0 0 rfl win_X10 (by decide) rfl wf_X10_10 dX10_count_57 ?_
    refine r_getR B (C := RX0) (T := TX0) (N := 9) (ca_1.1) 1 rfl win_X0 (by decide) rfl wf_X10_89 dX10_count_60 ?_
    refine r_getI B (C := RX8) (T := TX8) (N := 4) (ca_1.2.2.1.1) 0 rfl win_X8 (by decide) rfl wf_X10_93 dX10_count_63 (jj := 0) rfl ?_
    exact r_iret B hr hk rfl ((hI _ _)) hI v dX10_count_66
  · have v := v.2.1 hcs
    refine r_tabIn B (tgt := 67) dX10_count_1 h1 1 hcs (by decide) (by decide) rfl (by decide) ?_
    refine r_aload_n B dX10_count_67 rfl rfl ?_
    refine r_getR B (C := RX10) (T := TX10) (N := 11) o_0 0 rfl win_X10 (by decide) rfl wf_X10_10 dX10_count_68 ?_
    refine r_getI B (C := RX0) (T := TX0) (N := 9) (ca_1.1) 5 rfl win_X0 (by decide) rfl wf_X10_212 dX10_count_71 (jj := 5) rfl ?_
    exact r_iret B hr hk rfl ((hI _ _)) hI v dX10_count_74
  · have v := v.2.2.1 hcs
    refine r_tabIn B (tgt := 75) dX10_count_1 h1 2 hcs (by decide) (by decide) rfl (by decide) ?_
    refine r_aload_n B dX10_count_75 rfl rfl ?_
    refine r_getR B (C := RX10) (T := TX10) (N := 11) o_0 0 rfl win_X10 (by decide) rfl wf_X10_10 dX10_count_76 ?_
    refine r_getI B (C := RX0) (T := TX0) (N := 9) (ca_1.1) 6 rfl win_X0 (by decide) rfl wf_X10_215 dX10_count_79 (jj := 6) rfl ?_
    exact r_iret B hr hk rfl ((hI _ _)) hI v dX10_count_82
  · have v := v.2.2.2.1 hcs
    refine r_tabIn B (tgt := 83) dX10_count_1 h1 3 hcs (by decide) (by decide) rfl (by decide) ?_
    refine r_aload_n B dX10_count_83 rfl rfl ?_
    refine r_getR B (C := RX10) (T := TX10) (N := 11) o_0 0 rfl win_X10 (by decide) rfl wf_X10_10 dX10_count_84 ?_
    refine r_getI B (C := RX0) (T := TX0) (N := 9) (ca_1.1) 7 rfl win_X0 (by decide) rfl wf_X10_125 dX10_count_87 (jj := 7) rfl ?_
    exact r_iret B hr hk rfl ((hI _ _)) hI v dX10_count_90
  · have v := v.2.2.2.2.1 hcs
    refine r_tabIn B (tgt := 91) dX10_count_1 h1 4 hcs (by decide) (by decide) rfl (by decide) ?_
    refine r_aload_n B dX10_count_91 rfl rfl ?_
    refine r_getR B (C := RX10) (T := TX10) (N := 11) o_0 0 rfl win_X10 (by decide) rfl wf_X10_10 dX10_count_92 ?_
    refine r_getR B (C := RX0) (T := TX0) (N := 9) (ca_1.1) 0 rfl win_X0 (by decide) rfl wf_X10_101 dX10_count_95 ?_
    refine r_getI B (C := RX3) (T := TX3) (N := 4) (ca_1.2.1.1) 0 rfl win_X3 (by decide) rfl wf_X10_111 dX10_count_98 (jj := 0) rfl ?_
    exact r_iret B hr hk rfl ((hI _ _)) hI v dX10_count_101
  · have v := v.2.2.2.2.2.1 hcs
    refine r_tabIn B (tgt := 102) dX10_count_1 h1 5 hcs (by decide) (by decide) rfl (by decide) ?_
    refine r_aload_n B dX10_count_102 rfl rfl ?_
    refine r_getR B (C := RX10) (T := TX10) (N := 11) o_0 0 rfl win_X10 (by decide) rfl wf_X10_10 dX10_count_103 ?_
    refine r_getR B (C := RX0) (T := TX0) (N := 9) (ca_1.1) 2 rfl win_X0 (by decide) rfl wf_X10_191 dX10_count_106 ?_
    refine r_getI B (C := RX5) (T := TX5) (N := 4) (ca_1.2.2.2.1.1) 0 rfl win_X5 (by decide) rfl wf_X10_195 dX10_count_109 (jj := 0) rfl ?_
    exact r_iret B hr hk rfl ((hI _ _)) hI v dX10_count_112
  · have v := v.2.2.2.2.2.2.1 hcs
    refine r_tabIn B (tgt := 113) dX10_count_1 h1 6 hcs (by decide) (by decide) rfl (by decide) ?_
    refine r_aload_n B dX10_count_113 rfl rfl ?_
    refine r_getR B (C := RX10) (T := TX10) (N := 11) o_0 6 rfl win_X10 (by decide) rfl wf_X10_52 dX10_count_114 ?_
    refine r_getI B (C := RX1) (T := TX1) (N := 3) o_39 0 rfl win_X1 (by decide) rfl wf_X10_221 dX10_count_117 (jj := 0) rfl ?_
    exact r_iret B hr hk rfl ((hI _ _)) hI v dX10_count_120
  · have v := v.2.2.2.2.2.2.2.1 hcs
    refine r_tabIn B (tgt := 121) dX10_count_1 h1 7 hcs (by decide) (by decide) rfl (by decide) ?_
    refine r_aload_n B dX10_count_121 rfl rfl ?_
    refine r_getR B (C := RX10) (T := TX10) (N := 11) o_0 2 rfl win_X10 (by decide) rfl wf_X10_22 dX10_count_122 ?_
    refine r_getI B (C := RX6) (T := TX6) (N := 2) o_33 0 rfl win_X6 (by decide) rfl wf_X10_71 dX10_count_125 (jj := 0) rfl ?_
    exact r_iret B hr hk rfl ((hI _ _)) hI v dX10_count_128
  · have v := v.2.2.2.2.2.2.2.2.1 hcs
    refine r_tabIn B (tgt := 129) dX10_count_1 h1 8 hcs (by decide) (by decide) rfl (by decide) ?_
    refine r_aload_n B dX10_count_129 rfl rfl ?_
    refine r_getI B (C := RX10) (T := TX10) (N := 11) o_0 10 rfl win_X10 (by decide) rfl wf_X10_67 dX10_count_130 (jj := 10) rfl ?_
    exact r_iret B hr hk rfl ((hI _ _)) hI v dX10_count_133
  · have v := v.2.2.2.2.2.2.2.2.2.1 hcs
    refine r_tabIn B (tgt := 134) dX10_count_1 h1 9 hcs (by decide) (by decide) rfl (by decide) ?_
    refine r_aload_n B dX10_count_134 rfl rfl ?_
    refine r_getR B (C := RX10) (T := TX10) (N := 11) o_0 0 rfl win_X10 (by decide) rfl wf_X10_10 dX10_count_135 ?_
    refine r_getI B (C := RX0) (T := TX0) (N := 9) (ca_1.1) 8 rfl win_X0 (by decide) rfl wf_X10_354 dX10_count_138 (jj := 8) rfl ?_
    exact r_iret B hr hk rfl ((hI _ _)) hI v dX10_count_141
  · have v := v.2.2.2.2.2.2.2.2.2.2 hcs
    refine r_tabOut B (tgt := 142) dX10_count_1 h1 hcs (by decide) ?_
    refine r_iconst B dX10_count_142 ?_
    exact r_iret B hr hk rfl ((rg_lit (by decide) (by decide))) hI v dX10_count_143
set_option maxHeartbeats 4000000 in
set_option maxRecDepth 100000 in
theorem wL_M_begins_2 {p : Program} {l : Launch} {e : Env} {s : State} {m : MethodId} {args : Array Value} {below : List Frame} {meth : Method} {c0 : Code} {E : En} {A : Nat → Prop} {r0 : Int} {Q : Mm → Prop}  (B : Bd p (rmm 0 0) s m args c0 cX11_begins 2 RX11 E A 0 0) (hr : meth.sig.returnType = none) (hk : meth.locks = false) (hr0 : isA 1 980 r0)   : ∀ (n : Nat) (x1 : Int) (I : Mm), rgM I → r32 x1 → L_M_begins_2 r0 Q n x1 I → WI p l e (rmm 0 0) s m args below meth c0 E A 2 0 0 (qV below E A args s Q) I 2 [(0, .ref (eA E r0)), (1, .int (i2 x1))] [] := by
  intro n
  induction n with
  | zero => intro x1 I _ _ v; exact absurd v id
  | succ n ih =>
    intro x1 I hI h1 v
    unfold L_M_begins_2 at v
    refine r_iload_n B dX11_begins_2 rfl rfl ?_
    refine r_sipush B dX11_begins_3 (by decide) ?_
    refine r_icmp_ge B (tgt := 19) dX11_begins_6 (by decide) h1 ((rg_lit (by decide) (by decide))) (fun h => ?_) (fun h => ?_)
    · have v := v.1 h
      refine r_aload_n B dX11_begins_19 rfl rfl ?_
      refine r_iconst B dX11_begins_20 ?_
      refine r_iconst B dX11_begins_21 ?_
      refine r_ast B hr0 (by decide) (by decide) dX11_begins_22 ?_
      have hI21 : rgM (wrM I r0 1 4) := rg_wr hI ((rg_lit (by decide) (by decide)))
      refine r_aload_n B dX11_begins_23 rfl rfl ?_
      refine r_iconst B dX11_begins_24 ?_
      refine r_bipush B dX11_begins_25 (by decide) ?_
      refine r_ast B hr0 (by decide) (by decide) dX11_begins_27 ?_
      have hI22 : rgM (wrM ((wrM I r0 1 4)) r0 2 10) := rg_wr hI21 ((rg_lit (by decide) (by decide)))
      exact r_vret B hr hk hI22 v dX11_begins_28
    · have v := v.2 h
      refine r_aload_n B dX11_begins_9 rfl rfl ?_
      refine r_iload_n B dX11_begins_10 rfl rfl ?_
      refine r_iconst B dX11_begins_11 ?_
      obtain ⟨h23, v⟩ := v
      refine r_ast B hr0 (by decide) h23 dX11_begins_12 ?_
      have hI24 : rgM (wrM I r0 x1 0) := rg_wr hI ((rg_lit (by decide) (by decide)))
      refine r_iinc B (q := 1) dX11_begins_13 (by decide) rfl (lv' := [(1, .int (i2 (x1 + 1))), (0, .ref (eA E r0))]) rfl ?_
      refine r_sub [1, 0] rfl ?_
      refine r_goto B (tgt := 2) dX11_begins_16 (by decide) ?_
      obtain ⟨h25, v⟩ := v
      refine r_sub [0, 1] rfl ?_
      exact ih (x1 + 1) _ hI24 h25 v
set_option maxHeartbeats 4000000 in
set_option maxRecDepth 100000 in
theorem c_M_begins {l : Launch} {E : En} {A : Nat → Prop} (r0 : Int) (I : Mm) (hr0 : isA 1 980 r0) (hI : rgM I)  : CV l E A yX11_begins cX11_begins 2 0 0 [.ref (eA E r0)] I (V_M_begins r0 I) := by
  intro Q v
  refine mk_met (own := RX11) (lv0 := [(0, .ref (eA E r0))]) (by decide) rfl (Nat.le_of_ble_eq_true rfl) rfl (fun p e s m args below meth c0 B hr hk => ?_)
  unfold V_M_begins at v
  refine r_iconst B dX11_begins_0 ?_
  refine r_istore_n B dX11_begins_1 rfl (by decide) (lv' := [(1, .int (i2 0)), (0, .ref (eA E r0))]) rfl ?_
  refine r_sub [1, 0] rfl ?_
  obtain ⟨f26, v⟩ := v
  refine r_sub [0, 1] rfl ?_
  exact wL_M_begins_2 B hr hk hr0 f26 0 I hI ((rg_lit (by decide) (by decide))) v
set_option maxHeartbeats 4000000 in
set_option maxRecDepth 100000 in
theorem c_M_in {l : Launch} {E : En} {A : Nat → Prop} (x0 : Int) (x2 : Int) (x4 : Int) (I : Mm)  (hI : rgM I) (h0 : r64 x0) (h2 : r64 x2) (h4 : r64 x4) : CI l E A yX11_in cX11_in 6 .boolean 0 0 [.long (l2 x0), .long (l2 x2), .long (l2 x4)] I (V_M_in x0 x2 x4 I) := by
  intro Q v
  refine mk_met (own := RX11) (lv0 := [(0, .long (l2 x0)), (2, .long (l2 x2)), (4, .long (l2 x4))]) (by decide) rfl (Nat.le_of_ble_eq_true rfl) rfl (fun p e s m args below meth c0 B hr hk => ?_)
  unfold V_M_in at v
  refine r_lload_n B dX11_in_0 rfl rfl ?_
  refine r_lload_n B dX11_in_1 rfl rfl ?_
  refine r_lcmp_lt B (tgt := 17) dX11_in_2 dX11_in_3 (by decide) h0 h2 (fun h => ?_) (fun h => ?_)
  · have v := v.1 h
    refine r_iconst B dX11_in_17 ?_
    exact r_iret B hr hk rfl ((rg_lit (by decide) (by decide))) hI v dX11_in_18
  · have v := v.2 h
    refine r_lload_n B dX11_in_6 rfl rfl ?_
    refine r_lload B dX11_in_7 rfl ?_
    refine r_lcmp_gt B (tgt := 17) dX11_in_9 dX11_in_10 (by decide) h0 h4 (fun h => ?_) (fun h => ?_)
    · have v := v.1 h
      refine r_iconst B dX11_in_17 ?_
      exact r_iret B hr hk rfl ((rg_lit (by decide) (by decide))) hI v dX11_in_18
    · have v := v.2 h
      refine r_iconst B dX11_in_13 ?_
      refine r_goto B (tgt := 18) dX11_in_14 (by decide) ?_
      exact r_iret B hr hk rfl ((rg_lit (by decide) (by decide))) hI v dX11_in_18
set_option maxHeartbeats 4000000 in
set_option maxRecDepth 100000 in
theorem c_M_isName {l : Launch} {E : En} {A : Nat → Prop} (x1 : Int) (I : Mm)  (hI : rgM I) (h1 : r32 x1) : CI l E A yX11_isName cX11_isName 2 .boolean 1 25 [.ref (eA E 236), .int (i2 x1)] I (V_M_isName x1 I) := by
  intro Q v
  refine mk_met (own := RX11) (lv0 := [(0, .ref (eA E 236)), (1, .int (i2 x1))]) (by decide) rfl (Nat.le_of_ble_eq_true rfl) rfl (fun p e s m args below meth c0 B hr hk => ?_)
  unfold V_M_isName at v
  refine r_iload_n B dX11_isName_0 rfl rfl ?_
  refine r_i2l B dX11_isName_1 h1 ?_
  refine r_lconst B 0 dX11_isName_2 (by decide) ?_
  refine r_aload_n B dX11_isName_3 rfl rfl ?_
  refine r_getR B (C := RX11) (T := TX11) (N := 25) o_236 0 rfl win_X11 (by decide) rfl wf_X11_7 dX11_isName_4 ?_
  refine r_iconst B dX11_isName_7 ?_
  refine r_ald B a_237 (by decide) (by decide) dX11_isName_8 ?_
  refine r_iconst B dX11_isName_9 ?_
  refine r_isub B dX11_isName_10 ?_
  obtain ⟨h21, v⟩ := v
  refine r_i2l B dX11_isName_11 h21 ?_
  refine r_sI B (st := []) (as := [.long (l2 x1), .long (l2 0), .long (l2 (I 237 4 - 1))]) (c_M_in x1 0 (I 237 4 - 1) _ hI ((rg_64 h1)) ((show r64 (0) by exact ⟨by decide, by decide⟩)) ((rg_64 h21))) v mw_M_in wl_X11_55 ⟨Nat.le_of_ble_eq_true rfl, Nat.le_of_ble_eq_true rfl⟩ rfl rfl (Nat.le_of_ble_eq_true rfl) dX11_isName_12 (fun z22 I23 hz22 hI23 v => ?_)
  obtain ⟨h24, v⟩ := v
  exact r_iret B hr hk (nar_z h24) ((bl01 h24)) hI23 v dX11_isName_15
set_option maxHeartbeats 4000000 in
set_option maxRecDepth 100000 in
theorem wL_M_keepsAct_54 {p : Program} {l : Launch} {e : Env} {s : State} {m : MethodId} {args : Array Value} {below : List Frame} {meth : Method} {c0 : Code} {E : En} {A : Nat → Prop}  {Q : Mm → Prop}  (B : Bd p (rmm 0 0) s m args c0 cX11_keepsAct 2 RX11 E A 0 0) (hr : meth.sig.returnType = none) (hk : meth.locks = false)    : ∀ (n : Nat) (x1 : Int) (I : Mm), rgM I → r32 x1 → L_M_keepsAct_54 Q n x1 I → WI p l e (rmm 0 0) s m args below meth c0 E A 2 0 0 (qV below E A args s Q) I 54 [(0, .ref (eA E 236)), (1, .int (i2 x1))] [] := by
  intro n
  induction n with
  | zero => intro x1 I _ _ v; exact absurd v id
  | succ n ih =>
    intro x1 I hI h1 v
    unfold L_M_keepsAct_54 at v
    refine r_iload_n B dX11_keepsAct_54 rfl rfl ?_
    refine r_sipush B dX11_keepsAct_55 (by decide) ?_
    refine r_icmp_ge B (tgt := 88) dX11_keepsAct_58 (by decide) h1 ((rg_lit (by decide) (by decide))) (fun h => ?_) (fun h => ?_)
    · have v := v.1 h
      refine r_aload_n B dX11_keepsAct_88 rfl rfl ?_
      refine r_dup B dX11_keepsAct_89 rfl ?_
      refine r_getI B (C := RX11) (T := TX11) (N := 25) o_236 3 rfl win_X11 (by decide) rfl wf_X11_108 dX11_keepsAct_90 (jj := 3) rfl ?_
      refine r_iconst B dX11_keepsAct_93 ?_
      refine r_iadd B dX11_keepsAct_94 ?_
      obtain ⟨h21, v⟩ := v
      refine r_putI B (C := RX11) (T := TX11) (N := 25) o_236 3 rfl win_X11 tyX11 tyX11_ok nmX11 (by decide) rfl rfl rfl wf_X11_108 dX11_keepsAct_95 (jj := 3) rfl ?_
      have hI22 : rgM (wrM I 236 3 (I 236 3 + 1)) := rg_wr hI h21
      exact r_vret B hr hk hI22 v dX11_keepsAct_98
    · have v := v.2 h
      refine r_aload_n B dX11_keepsAct_61 rfl rfl ?_
      refine r_getR B (C := RX11) (T := TX11) (N := 25) o_236 2 rfl win_X11 (by decide) rfl wf_X11_16 dX11_keepsAct_62 ?_
      refine r_sipush B dX11_keepsAct_65 (by decide) ?_
      refine r_aload_n B dX11_keepsAct_68 rfl rfl ?_
      refine r_getI B (C := RX11) (T := TX11) (N := 25) o_236 3 rfl win_X11 (by decide) rfl wf_X11_108 dX11_keepsAct_69 (jj := 3) rfl ?_
      refine r_imul B dX11_keepsAct_72 ?_
      refine r_iload_n B dX11_keepsAct_73 rfl rfl ?_
      refine r_iadd B dX11_keepsAct_74 ?_
      refine r_aload_n B dX11_keepsAct_75 rfl rfl ?_
      refine r_getR B (C := RX11) (T := TX11) (N := 25) o_236 0 rfl win_X11 (by decide) rfl wf_X11_7 dX11_keepsAct_76 ?_
      refine r_iload_n B dX11_keepsAct_79 rfl rfl ?_
      obtain ⟨h23, v⟩ := v
      refine r_ald B a_237 (by decide) h23 dX11_keepsAct_80 ?_
      obtain ⟨h24, v⟩ := v
      refine r_ast B a_239 (by decide) h24 dX11_keepsAct_81 ?_
      have hI25 : rgM (wrM I 239 ((980 * I 236 3) + x1) (I 237 x1)) := rg_wr hI ((hI _ _))
      refine r_iinc B (q := 1) dX11_keepsAct_82 (by decide) rfl (lv' := [(1, .int (i2 (x1 + 1))), (0, .ref (eA E 236))]) rfl ?_
      refine r_sub [1, 0] rfl ?_
      refine r_goto B (tgt := 54) dX11_keepsAct_85 (by decide) ?_
      obtain ⟨h26, v⟩ := v
      refine r_sub [0, 1] rfl ?_
      exact ih (x1 + 1) _ hI25 h26 v
set_option maxHeartbeats 4000000 in
set_option maxRecDepth 100000 in
theorem wJ_M_keepsAct_52 {p : Program} {l : Launch} {e : Env} {s : State} {m : MethodId} {args : Array Value} {below : List Frame} {meth : Method} {c0 : Code} {E : En} {A : Nat → Prop}  {Q : Mm → Prop}  (B : Bd p (rmm 0 0) s m args c0 cX11_keepsAct 2 RX11 E A 0 0) (hr : meth.sig.returnType = none) (hk : meth.locks = false)    : ∀ (I : Mm), rgM I → J_M_keepsAct_52 Q I → WI p l e (rmm 0 0) s m args below meth c0 E A 2 0 0 (qV below E A args s Q) I 52 [(0, .ref (eA E 236))] [] := by
  intro  I hI  v
  unfold J_M_keepsAct_52 at v
  refine r_iconst B dX11_keepsAct_52 ?_
  refine r_istore_n B dX11_keepsAct_53 rfl (by decide) (lv' := [(1, .int (i2 0)), (0, .ref (eA E 236))]) rfl ?_
  refine r_sub [1, 0] rfl ?_
  obtain ⟨f27, v⟩ := v
  refine r_sub [0, 1] rfl ?_
  exact wL_M_keepsAct_54 B hr hk f27 0 I hI ((rg_lit (by decide) (by decide))) v
set_option maxHeartbeats 4000000 in
set_option maxRecDepth 100000 in
theorem wL_M_keepsAct_13 {p : Program} {l : Launch} {e : Env} {s : State} {m : MethodId} {args : Array Value} {below : List Frame} {meth : Method} {c0 : Code} {E : En} {A : Nat → Prop}  {Q : Mm → Prop} {K42 : Mm → Prop} (B : Bd p (rmm 0 0) s m args c0 cX11_keepsAct 2 RX11 E A 0 0) (hr : meth.sig.returnType = none) (hk : meth.locks = false)   (k42 : ∀ (I : Mm), rgM I → K42 I → WI p l e (rmm 0 0) s m args below meth c0 E A 2 0 0 (qV below E A args s Q) I 42 [(0, .ref (eA E 236))] []) : ∀ (n : Nat) (x1 : Int) (I : Mm), rgM I → r32 x1 → L_M_keepsAct_13 Q K42 n x1 I → WI p l e (rmm 0 0) s m args below meth c0 E A 2 0 0 (qV below E A args s Q) I 13 [(0, .ref (eA E 236)), (1, .int (i2 x1))] [] := by
  intro n
  induction n with
  | zero => intro x1 I _ _ v; exact absurd v id
  | succ n ih =>
    intro x1 I hI h1 v
    unfold L_M_keepsAct_13 at v
    refine r_iload_n B dX11_keepsAct_13 rfl rfl ?_
    refine r_sipush B dX11_keepsAct_14 (by decide) ?_
    refine r_icmp_ge B (tgt := 42) dX11_keepsAct_17 (by decide) h1 ((rg_lit (by decide) (by decide))) (fun h => ?_) (fun h => ?_)
    · have v := v.1 h
      refine r_sub [0] rfl ?_
      exact k42 _ hI v
    · have v := v.2 h
      refine r_aload_n B dX11_keepsAct_20 rfl rfl ?_
      refine r_getR B (C := RX11) (T := TX11) (N := 25) o_236 2 rfl win_X11 (by decide) rfl wf_X11_16 dX11_keepsAct_21 ?_
      refine r_iload_n B dX11_keepsAct_24 rfl rfl ?_
      refine r_sipush B dX11_keepsAct_25 (by decide) ?_
      refine r_isub B dX11_keepsAct_28 ?_
      refine r_aload_n B dX11_keepsAct_29 rfl rfl ?_
      refine r_getR B (C := RX11) (T := TX11) (N := 25) o_236 2 rfl win_X11 (by decide) rfl wf_X11_16 dX11_keepsAct_30 ?_
      refine r_iload_n B dX11_keepsAct_33 rfl rfl ?_
      obtain ⟨h29, v⟩ := v
      refine r_ald B a_239 (by decide) h29 dX11_keepsAct_34 ?_
      obtain ⟨h30, v⟩ := v
      refine r_ast B a_239 (by decide) h30 dX11_keepsAct_35 ?_
      have hI31 : rgM (wrM I 239 (x1 - 980) (I 239 x1)) := rg_wr hI ((hI _ _))
      refine r_iinc B (q := 1) dX11_keepsAct_36 (by decide) rfl (lv' := [(1, .int (i2 (x1 + 1))), (0, .ref (eA E 236))]) rfl ?_
      refine r_sub [1, 0] rfl ?_
      refine r_goto B (tgt := 13) dX11_keepsAct_39 (by decide) ?_
      obtain ⟨h32, v⟩ := v
      refine r_sub [0, 1] rfl ?_
      exact ih (x1 + 1) _ hI31 h32 v
set_option maxHeartbeats 4000000 in
set_option maxRecDepth 100000 in
theorem c_M_keepsAct {l : Launch} {E : En} {A : Nat → Prop}  (I : Mm)  (hI : rgM I)  : CV l E A yX11_keepsAct cX11_keepsAct 2 0 0 [.ref (eA E 236)] I (V_M_keepsAct  I) := by
  intro Q v
  refine mk_met (own := RX11) (lv0 := [(0, .ref (eA E 236))]) (by decide) rfl (Nat.le_of_ble_eq_true rfl) rfl (fun p e s m args below meth c0 B hr hk => ?_)
  unfold V_M_keepsAct at v
  refine r_aload_n B dX11_keepsAct_0 rfl rfl ?_
  refine r_getI B (C := RX11) (T := TX11) (N := 25) o_236 3 rfl win_X11 (by decide) rfl wf_X11_108 dX11_keepsAct_1 (jj := 3) rfl ?_
  refine r_bipush B dX11_keepsAct_4 (by decide) ?_
  refine r_icmp_ne B (tgt := 52) dX11_keepsAct_6 (by decide) ((hI _ _)) ((rg_lit (by decide) (by decide))) (fun h => ?_) (fun h => ?_)
  · have v := v.1 h
    refine r_sub [0] rfl ?_
    exact wJ_M_keepsAct_52 B hr hk I hI v
  · have v := v.2 h
    refine r_sipush B dX11_keepsAct_9 (by decide) ?_
    refine r_istore_n B dX11_keepsAct_12 rfl (by decide) (lv' := [(1, .int (i2 980)), (0, .ref (eA E 236))]) rfl ?_
    refine r_sub [1, 0] rfl ?_
    obtain ⟨f37, v⟩ := v
    refine r_sub [0, 1] rfl ?_
    refine wL_M_keepsAct_13 B hr hk (fun I33 hI33 v => ?_) f37 980 I hI ((rg_lit (by decide) (by decide))) v
    · refine r_aload_n B dX11_keepsAct_42 rfl rfl ?_
      refine r_dup B dX11_keepsAct_43 rfl ?_
      refine r_getI B (C := RX11) (T := TX11) (N := 25) o_236 3 rfl win_X11 (by decide) rfl wf_X11_108 dX11_keepsAct_44 (jj := 3) rfl ?_
      refine r_iconst B dX11_keepsAct_47 ?_
      refine r_isub B dX11_keepsAct_48 ?_
      obtain ⟨h34, v⟩ := v
      refine r_putI B (C := RX11) (T := TX11) (N := 25) o_236 3 rfl win_X11 tyX11 tyX11_ok nmX11 (by decide) rfl rfl rfl wf_X11_108 dX11_keepsAct_49 (jj := 3) rfl ?_
      have hI35 : rgM (wrM I33 236 3 (I33 236 3 - 1)) := rg_wr hI33 h34
      refine r_sub [0] rfl ?_
      exact wJ_M_keepsAct_52 B hr hk _ hI35 v
set_option maxHeartbeats 4000000 in
set_option maxRecDepth 100000 in
theorem wL_M_widthAnew_69 {p : Program} {l : Launch} {e : Env} {s : State} {m : MethodId} {args : Array Value} {below : List Frame} {meth : Method} {c0 : Code} {E : En} {A : Nat → Prop} {x1 : Int} {x2 : Int} {Q : Int → Mm → Prop} {K133 : Int → Int → Mm → Prop} (B : Bd p (rmm 0 0) s m args c0 cX11_widthAnew 8 RX11 E A 0 0) (hr : meth.sig.returnType = some .int) (hk : meth.locks = false)  (h1 : r32 x1) (h2 : r32 x2) (k133 : ∀ (x3 : Int) (x5 : Int) (I : Mm), rgM I → r32 x5 → K133 x3 x5 I → WI p l e (rmm 0 0) s m args below meth c0 E A 8 0 0 (qI below E A args s Q) I 133 [(3, .long (l2 x3)), (5, .int (i2 x5))] []) : ∀ (n : Nat) (x3 : Int) (x5 : Int) (x6 : Int) (I : Mm), rgM I → r32 x5 → r32 x6 → L_M_widthAnew_69 x1 x2 Q K133 n x3 x5 x6 I → WI p l e (rmm 0 0) s m args below meth c0 E A 8 0 0 (qI below E A args s Q) I 69 [(0, .ref (eA E 236)), (1, .int (i2 x1)), (2, .int (i2 x2)), (3, .long (l2 x3)), (5, .int (i2 x5)), (6, .int (i2 x6))] [] := by
  intro n
  induction n with
  | zero => intro x3 x5 x6 I _ _ _ v; exact absurd v id
  | succ n ih =>
    intro x3 x5 x6 I hI h5 h6 v
    unfold L_M_widthAnew_69 at v
    refine r_iload B dX11_widthAnew_69 rfl ?_
    refine r_iload_n B dX11_widthAnew_71 rfl rfl ?_
    refine r_icmp_ge B (tgt := 133) dX11_widthAnew_72 (by decide) h6 h1 (fun h => ?_) (fun h => ?_)
    · have v := v.1 h
      refine r_sub [3, 4] rfl ?_
      exact k133 x3 x5 _ hI h5 v
    · have v := v.2 h
      refine r_aload_n B dX11_widthAnew_75 rfl rfl ?_
      refine r_getR B (C := RX11) (T := TX11) (N := 25) o_236 0 rfl win_X11 (by decide) rfl wf_X11_7 dX11_widthAnew_76 ?_
      refine r_sipush B dX11_widthAnew_79 (by decide) ?_
      refine r_iload B dX11_widthAnew_82 rfl ?_
      refine r_iadd B dX11_widthAnew_84 ?_
      obtain ⟨h26, v⟩ := v
      refine r_ald B a_237 (by decide) h26 dX11_widthAnew_85 ?_
      refine r_aload_n B dX11_widthAnew_86 rfl rfl ?_
      refine r_getR B (C := RX11) (T := TX11) (N := 25) o_236 0 rfl win_X11 (by decide) rfl wf_X11_7 dX11_widthAnew_87 ?_
      refine r_sipush B dX11_widthAnew_90 (by decide) ?_
      refine r_iload B dX11_widthAnew_93 rfl ?_
      refine r_iadd B dX11_widthAnew_95 ?_
      refine r_iconst B dX11_widthAnew_96 ?_
      refine r_isub B dX11_widthAnew_97 ?_
      obtain ⟨h27, v⟩ := v
      refine r_ald B a_237 (by decide) h27 dX11_widthAnew_98 ?_
      refine r_isub B dX11_widthAnew_99 ?_
      refine r_name (fun y28 ey28 => ?_)
      have v := v y28 ey28
      refine r_istore B dX11_widthAnew_100 (by decide) (lv' := [(7, .int (i2 y28)), (0, .ref (eA E 236)), (1, .int (i2 x1)), (2, .int (i2 x2)), (3, .long (l2 x3)), (5, .int (i2 x5)), (6, .int (i2 x6))]) rfl ?_
      refine r_sub [1, 2, 3, 4, 5, 6, 0] rfl ?_
      refine r_iload B dX11_widthAnew_102 rfl ?_
      obtain ⟨h29, v⟩ := v
      refine r_i2l B dX11_widthAnew_104 h29 ?_
      refine r_ldc2 B (2) dX11_widthAnew_105 wc_X11_59 (by decide) ?_
      refine r_iload_n B dX11_widthAnew_108 rfl rfl ?_
      refine r_i2l B dX11_widthAnew_109 h2 ?_
      refine r_lmul B dX11_widthAnew_110 ?_
      obtain ⟨h30, v⟩ := v
      refine r_lcmp_le B (tgt := 118) dX11_widthAnew_111 dX11_widthAnew_112 (by decide) ((rg_64 h29)) h30 (fun h => ?_) (fun h => ?_)
      · have v := v.1 h
        refine r_lload_n B dX11_widthAnew_118 rfl rfl ?_
        refine r_iload B dX11_widthAnew_119 rfl ?_
        refine r_i2l B dX11_widthAnew_121 h29 ?_
        refine r_ladd B dX11_widthAnew_122 ?_
        refine r_lstore_n B dX11_widthAnew_123 rfl (by decide) (lv' := [(3, .long (l2 (x3 + y28))), (0, .ref (eA E 236)), (1, .int (i2 x1)), (2, .int (i2 x2)), (5, .int (i2 x5)), (6, .int (i2 x6)), (7, .int (i2 y28))]) rfl ?_
        refine r_sub [1, 2, 3, 0, 4, 5, 6] rfl ?_
        refine r_iinc B (q := 4) dX11_widthAnew_124 (by decide) rfl (lv' := [(5, .int (i2 (x5 + 1))), (0, .ref (eA E 236)), (1, .int (i2 x1)), (2, .int (i2 x2)), (3, .long (l2 (x3 + y28))), (6, .int (i2 x6)), (7, .int (i2 y28))]) rfl ?_
        refine r_sub [1, 2, 3, 4, 0, 5, 6] rfl ?_
        refine r_iinc B (q := 5) dX11_widthAnew_127 (by decide) rfl (lv' := [(6, .int (i2 (x6 + 1))), (0, .ref (eA E 236)), (1, .int (i2 x1)), (2, .int (i2 x2)), (3, .long (l2 (x3 + y28))), (5, .int (i2 (x5 + 1))), (7, .int (i2 y28))]) rfl ?_
        refine r_sub [1, 2, 3, 4, 5, 0, 6] rfl ?_
        refine r_goto B (tgt := 69) dX11_widthAnew_130 (by decide) ?_
        obtain ⟨h31, v⟩ := v
        obtain ⟨h32, v⟩ := v
        refine r_sub [0, 1, 2, 3, 4, 5] rfl ?_
        exact ih (x3 + y28) (x5 + 1) (x6 + 1) _ hI h31 h32 v
      · have v := v.2 h
        refine r_goto B (tgt := 127) dX11_widthAnew_115 (by decide) ?_
        refine r_iinc B (q := 5) dX11_widthAnew_127 (by decide) rfl (lv' := [(6, .int (i2 (x6 + 1))), (0, .ref (eA E 236)), (1, .int (i2 x1)), (2, .int (i2 x2)), (3, .long (l2 x3)), (5, .int (i2 x5)), (7, .int (i2 y28))]) rfl ?_
        refine r_sub [1, 2, 3, 4, 5, 0, 6] rfl ?_
        refine r_goto B (tgt := 69) dX11_widthAnew_130 (by decide) ?_
        obtain ⟨h33, v⟩ := v
        refine r_sub [0, 1, 2, 3, 4, 5] rfl ?_
        exact ih x3 x5 (x6 + 1) _ hI h5 h33 v
set_option maxHeartbeats 4000000 in
set_option maxRecDepth 100000 in
theorem wJ_M_widthAnew_22 {p : Program} {l : Launch} {e : Env} {s : State} {m : MethodId} {args : Array Value} {below : List Frame} {meth : Method} {c0 : Code} {E : En} {A : Nat → Prop}  {Q : Int → Mm → Prop}  (B : Bd p (rmm 0 0) s m args c0 cX11_widthAnew 8 RX11 E A 0 0) (hr : meth.sig.returnType = some .int) (hk : meth.locks = false)    : ∀ (t0 : Int) (I : Mm), rgM I → r32 t0 → J_M_widthAnew_22 Q t0 I → WI p l e (rmm 0 0) s m args below meth c0 E A 8 0 0 (qI below E A args s Q) I 22 [(0, .ref (eA E 236))] [.int (i2 t0)] := by
  intro t0 I hI ht0 v
  unfold J_M_widthAnew_22 at v
  refine r_istore_n B dX11_widthAnew_22 rfl (by decide) (lv' := [(1, .int (i2 t0)), (0, .ref (eA E 236))]) rfl ?_
  refine r_sub [1, 0] rfl ?_
  refine r_iload_n B dX11_widthAnew_23 rfl rfl ?_
  refine r_iconst B dX11_widthAnew_24 ?_
  refine r_icmp_ge B (tgt := 35) dX11_widthAnew_25 (by decide) ht0 ((rg_lit (by decide) (by decide))) (fun h => ?_) (fun h => ?_)
  · have v := v.1 h
    refine r_aload_n B dX11_widthAnew_35 rfl rfl ?_
    refine r_getR B (C := RX11) (T := TX11) (N := 25) o_236 0 rfl win_X11 (by decide) rfl wf_X11_7 dX11_widthAnew_36 ?_
    refine r_sipush B dX11_widthAnew_39 (by decide) ?_
    refine r_iload_n B dX11_widthAnew_42 rfl rfl ?_
    refine r_iadd B dX11_widthAnew_43 ?_
    refine r_iconst B dX11_widthAnew_44 ?_
    refine r_isub B dX11_widthAnew_45 ?_
    obtain ⟨h21, v⟩ := v
    refine r_ald B a_237 (by decide) h21 dX11_widthAnew_46 ?_
    refine r_aload_n B dX11_widthAnew_47 rfl rfl ?_
    refine r_getR B (C := RX11) (T := TX11) (N := 25) o_236 0 rfl win_X11 (by decide) rfl wf_X11_7 dX11_widthAnew_48 ?_
    refine r_sipush B dX11_widthAnew_51 (by decide) ?_
    refine r_ald B a_237 (by decide) (by decide) dX11_widthAnew_54 ?_
    refine r_isub B dX11_widthAnew_55 ?_
    refine r_iload_n B dX11_widthAnew_56 rfl rfl ?_
    refine r_iconst B dX11_widthAnew_57 ?_
    refine r_isub B dX11_widthAnew_58 ?_
    obtain ⟨h22, v⟩ := v
    obtain ⟨h23, v⟩ := v
    obtain ⟨h24, v⟩ := v
    refine r_idiv B dX11_widthAnew_59 h22 h23 h24 ?_
    refine r_name (fun y25 ey25 => ?_)
    have v := v y25 ey25
    have hy25 : r32 y25 := by rw [ey25]; exact (rg_div h22 h24.1 h24.2)
    refine r_istore_n B dX11_widthAnew_60 rfl (by decide) (lv' := [(2, .int (i2 y25)), (0, .ref (eA E 236)), (1, .int (i2 t0))]) rfl ?_
    refine r_sub [1, 2, 0] rfl ?_
    refine r_lconst B 0 dX11_widthAnew_61 (by decide) ?_
    refine r_lstore_n B dX11_widthAnew_62 rfl (by decide) (lv' := [(3, .long (l2 0)), (0, .ref (eA E 236)), (1, .int (i2 t0)), (2, .int (i2 y25))]) rfl ?_
    refine r_sub [1, 2, 3, 0] rfl ?_
    refine r_iconst B dX11_widthAnew_63 ?_
    refine r_istore B dX11_widthAnew_64 (by decide) (lv' := [(5, .int (i2 0)), (0, .ref (eA E 236)), (1, .int (i2 t0)), (2, .int (i2 y25)), (3, .long (l2 0))]) rfl ?_
    refine r_sub [1, 2, 3, 4, 0] rfl ?_
    refine r_iconst B dX11_widthAnew_66 ?_
    refine r_istore B dX11_widthAnew_67 (by decide) (lv' := [(6, .int (i2 1)), (0, .ref (eA E 236)), (1, .int (i2 t0)), (2, .int (i2 y25)), (3, .long (l2 0)), (5, .int (i2 0))]) rfl ?_
    refine r_sub [1, 2, 3, 4, 5, 0] rfl ?_
    obtain ⟨f42, v⟩ := v
    refine r_sub [0, 1, 2, 3, 4, 5] rfl ?_
    refine wL_M_widthAnew_69 B hr hk ht0 hy25 (fun y34 y35 I36 hI36 hy35 v => ?_) f42 0 0 1 I hI ((rg_lit (by decide) (by decide))) ((rg_lit (by decide) (by decide))) v
    · refine r_ldc2 B (3) dX11_widthAnew_133 wc_X11_61 (by decide) ?_
      refine r_lload_n B dX11_widthAnew_136 rfl rfl ?_
      refine r_iload B dX11_widthAnew_137 rfl ?_
      refine r_i2l B dX11_widthAnew_139 hy35 ?_
      obtain ⟨h37, v⟩ := v
      refine r_ldiv B dX11_widthAnew_140 h37 ?_
      refine r_lmul B dX11_widthAnew_141 ?_
      refine r_lstore B dX11_widthAnew_142 (by decide) (lv' := [(6, .long (l2 (3 * (y34 / y35)))), (3, .long (l2 y34)), (5, .int (i2 y35))]) rfl ?_
      refine r_sub [1, 2, 0] rfl ?_
      refine r_lload B dX11_widthAnew_144 rfl ?_
      refine r_lconst B 1 dX11_widthAnew_146 (by decide) ?_
      obtain ⟨h38, v⟩ := v
      refine r_lcmp_ge B (tgt := 155) dX11_widthAnew_147 dX11_widthAnew_148 (by decide) h38 ((show r64 (1) by exact ⟨by decide, by decide⟩)) (fun h => ?_) (fun h => ?_)
      · have v := v.1 h
        refine r_lload B dX11_widthAnew_155 rfl ?_
        refine r_ldc2 B (99999999) dX11_widthAnew_157 wc_X11_63 (by decide) ?_
        refine r_lcmp_le B (tgt := 170) dX11_widthAnew_160 dX11_widthAnew_161 (by decide) h38 ((show r64 (99999999) by exact ⟨by decide, by decide⟩)) (fun h => ?_) (fun h => ?_)
        · have v := v.1 h
          refine r_lload B dX11_widthAnew_170 rfl ?_
          refine r_l2i B dX11_widthAnew_172 ?_
          obtain ⟨h39, v⟩ := v
          exact r_iret B hr hk rfl h39 hI36 v dX11_widthAnew_173
        · have v := v.2 h
          refine r_ldc2 B (99999999) dX11_widthAnew_164 wc_X11_63 (by decide) ?_
          refine r_goto B (tgt := 172) dX11_widthAnew_167 (by decide) ?_
          refine r_l2i B dX11_widthAnew_172 ?_
          obtain ⟨h40, v⟩ := v
          exact r_iret B hr hk rfl h40 hI36 v dX11_widthAnew_173
      · have v := v.2 h
        refine r_lconst B 1 dX11_widthAnew_151 (by decide) ?_
        refine r_goto B (tgt := 172) dX11_widthAnew_152 (by decide) ?_
        refine r_l2i B dX11_widthAnew_172 ?_
        obtain ⟨h41, v⟩ := v
        exact r_iret B hr hk rfl h41 hI36 v dX11_widthAnew_173
  · have v := v.2 h
    refine r_aload_n B dX11_widthAnew_28 rfl rfl ?_
    refine r_getR B (C := RX11) (T := TX11) (N := 25) o_236 0 rfl win_X11 (by decide) rfl wf_X11_7 dX11_widthAnew_29 ?_
    refine r_iconst B dX11_widthAnew_32 ?_
    refine r_ald B a_237 (by decide) (by decide) dX11_widthAnew_33 ?_
    exact r_iret B hr hk rfl ((hI _ _)) hI v dX11_widthAnew_34
set_option maxHeartbeats 4000000 in
set_option maxRecDepth 100000 in
theorem c_M_widthAnew {l : Launch} {E : En} {A : Nat → Prop}  (I : Mm)  (hI : rgM I)  : CI l E A yX11_widthAnew cX11_widthAnew 8 .int 0 0 [.ref (eA E 236)] I (V_M_widthAnew  I) := by
  intro Q v
  refine mk_met (own := RX11) (lv0 := [(0, .ref (eA E 236))]) (by decide) rfl (Nat.le_of_ble_eq_true rfl) rfl (fun p e s m args below meth c0 B hr hk => ?_)
  unfold V_M_widthAnew at v
  refine r_aload_n B dX11_widthAnew_0 rfl rfl ?_
  refine r_getR B (C := RX11) (T := TX11) (N := 25) o_236 0 rfl win_X11 (by decide) rfl wf_X11_7 dX11_widthAnew_1 ?_
  refine r_iconst B dX11_widthAnew_4 ?_
  refine r_ald B a_237 (by decide) (by decide) dX11_widthAnew_5 ?_
  refine r_bipush B dX11_widthAnew_6 (by decide) ?_
  refine r_icmp_ge B (tgt := 20) dX11_widthAnew_8 (by decide) ((hI _ _)) ((rg_lit (by decide) (by decide))) (fun h => ?_) (fun h => ?_)
  · have v := v.1 h
    refine r_bipush B dX11_widthAnew_20 (by decide) ?_
    refine r_sub [0] rfl ?_
    exact wJ_M_widthAnew_22 B hr hk 10 I hI ((rg_lit (by decide) (by decide))) v
  · have v := v.2 h
    refine r_aload_n B dX11_widthAnew_11 rfl rfl ?_
    refine r_getR B (C := RX11) (T := TX11) (N := 25) o_236 0 rfl win_X11 (by decide) rfl wf_X11_7 dX11_widthAnew_12 ?_
    refine r_iconst B dX11_widthAnew_15 ?_
    refine r_ald B a_237 (by decide) (by decide) dX11_widthAnew_16 ?_
    refine r_goto B (tgt := 22) dX11_widthAnew_17 (by decide) ?_
    refine r_sub [0] rfl ?_
    exact wJ_M_widthAnew_22 B hr hk (I 237 0) I hI ((hI _ _)) v
set_option maxHeartbeats 4000000 in
set_option maxRecDepth 100000 in
theorem c_M_laysAnew {l : Launch} {E : En} {A : Nat → Prop} (x1 : Int) (I : Mm)  (hI : rgM I) (h1 : r32 x1) : CV l E A yX11_laysAnew cX11_laysAnew 3 1 27 [.ref (eA E 236), .int (i2 x1)] I (V_M_laysAnew x1 I) := by
  intro Q v
  refine mk_met (own := RX11) (lv0 := [(0, .ref (eA E 236)), (1, .int (i2 x1))]) (by decide) rfl (Nat.le_of_ble_eq_true rfl) rfl (fun p e s m args below meth c0 B hr hk => ?_)
  unfold V_M_laysAnew at v
  refine r_aload_n B dX11_laysAnew_0 rfl rfl ?_
  refine r_cI B (st := []) (as := []) (T := TX11) (N := 25) (c_M_widthAnew _ hI ) v o_236 rfl mw_M_widthAnew wl_X11_65 ⟨Nat.le_of_ble_eq_true rfl, Nat.le_of_ble_eq_true rfl⟩ rfl rfl (Nat.le_of_ble_eq_true rfl) dX11_laysAnew_1 (fun z21 I22 hz21 hI22 v => ?_)
  refine r_istore_n B dX11_laysAnew_4 rfl (by decide) (lv' := [(2, .int (i2 z21)), (0, .ref (eA E 236)), (1, .int (i2 x1))]) rfl ?_
  refine r_sub [1, 2, 0] rfl ?_
  refine r_aload_n B dX11_laysAnew_5 rfl rfl ?_
  refine r_getR B (C := RX11) (T := TX11) (N := 25) o_236 0 rfl win_X11 (by decide) rfl wf_X11_7 dX11_laysAnew_6 ?_
  refine r_iconst B dX11_laysAnew_9 ?_
  refine r_iload_n B dX11_laysAnew_10 rfl rfl ?_
  refine r_ast B a_237 (by decide) (by decide) dX11_laysAnew_11 ?_
  have hI23 : rgM (wrM I22 237 1 x1) := rg_wr hI22 h1
  refine r_aload_n B dX11_laysAnew_12 rfl rfl ?_
  refine r_getR B (C := RX11) (T := TX11) (N := 25) o_236 0 rfl win_X11 (by decide) rfl wf_X11_7 dX11_laysAnew_13 ?_
  refine r_iconst B dX11_laysAnew_16 ?_
  refine r_iload_n B dX11_laysAnew_17 rfl rfl ?_
  refine r_ast B a_237 (by decide) (by decide) dX11_laysAnew_18 ?_
  have hI24 : rgM (wrM ((wrM I22 237 1 x1)) 237 2 z21) := rg_wr hI23 hz21
  refine r_aload_n B dX11_laysAnew_19 rfl rfl ?_
  refine r_getR B (C := RX11) (T := TX11) (N := 25) o_236 0 rfl win_X11 (by decide) rfl wf_X11_7 dX11_laysAnew_20 ?_
  refine r_bipush B dX11_laysAnew_23 (by decide) ?_
  refine r_dup2 B dX11_laysAnew_25 rfl rfl ?_
  refine r_ald B a_237 (by decide) (by decide) dX11_laysAnew_26 ?_
  refine r_aload_n B dX11_laysAnew_27 rfl rfl ?_
  refine r_getR B (C := RX11) (T := TX11) (N := 25) o_236 0 rfl win_X11 (by decide) rfl wf_X11_7 dX11_laysAnew_28 ?_
  refine r_iconst B dX11_laysAnew_31 ?_
  refine r_ald B a_237 (by decide) (by decide) dX11_laysAnew_32 ?_
  refine r_iadd B dX11_laysAnew_33 ?_
  obtain ⟨h25, v⟩ := v
  refine r_ast B a_237 (by decide) (by decide) dX11_laysAnew_34 ?_
  have hI26 : rgM (wrM ((wrM ((wrM I22 237 1 x1)) 237 2 z21)) 237 9 ((wrM ((wrM I22 237 1 x1)) 237 2 z21) 237 9 + (wrM ((wrM I22 237 1 x1)) 237 2 z21) 237 0)) := rg_wr hI24 h25
  exact r_vret B hr hk hI26 v dX11_laysAnew_35
set_option maxHeartbeats 4000000 in
set_option maxRecDepth 100000 in
theorem c_M_grows {l : Launch} {E : En} {A : Nat → Prop}  (I : Mm)  (hI : rgM I)  : CV l E A yX11_grows cX11_grows 1 2 49 [.ref (eA E 236)] I (V_M_grows  I) := by
  intro Q v
  refine mk_met (own := RX11) (lv0 := [(0, .ref (eA E 236))]) (by decide) rfl (Nat.le_of_ble_eq_true rfl) rfl (fun p e s m args below meth c0 B hr hk => ?_)
  unfold V_M_grows at v
  refine r_aload_n B dX11_grows_0 rfl rfl ?_
  refine r_getR B (C := RX11) (T := TX11) (N := 25) o_236 0 rfl win_X11 (by decide) rfl wf_X11_7 dX11_grows_1 ?_
  refine r_iconst B dX11_grows_4 ?_
  refine r_ald B a_237 (by decide) (by decide) dX11_grows_5 ?_
  refine r_iconst B dX11_grows_6 ?_
  refine r_aload_n B dX11_grows_7 rfl rfl ?_
  refine r_getR B (C := RX11) (T := TX11) (N := 25) o_236 0 rfl win_X11 (by decide) rfl wf_X11_7 dX11_grows_8 ?_
  refine r_iconst B dX11_grows_11 ?_
  refine r_ald B a_237 (by decide) (by decide) dX11_grows_12 ?_
  refine r_imul B dX11_grows_13 ?_
  obtain ⟨h21, v⟩ := v
  refine r_icmp_le B (tgt := 28) dX11_grows_14 (by decide) ((hI _ _)) h21 (fun h => ?_) (fun h => ?_)
  · have v := v.1 h
    exact r_vret B hr hk hI v dX11_grows_28
  · have v := v.2 h
    refine r_aload_n B dX11_grows_17 rfl rfl ?_
    refine r_getR B (C := RX11) (T := TX11) (N := 25) o_236 0 rfl win_X11 (by decide) rfl wf_X11_7 dX11_grows_18 ?_
    refine r_iconst B dX11_grows_21 ?_
    refine r_ald B a_237 (by decide) (by decide) dX11_grows_22 ?_
    refine r_bipush B dX11_grows_23 (by decide) ?_
    refine r_icmp_lt B (tgt := 29) dX11_grows_25 (by decide) ((hI _ _)) ((rg_lit (by decide) (by decide))) (fun h => ?_) (fun h => ?_)
    · have v := v.1 h
      refine r_aload_n B dX11_grows_29 rfl rfl ?_
      refine r_iconst B dX11_grows_30 ?_
      refine r_aload_n B dX11_grows_31 rfl rfl ?_
      refine r_getR B (C := RX11) (T := TX11) (N := 25) o_236 0 rfl win_X11 (by decide) rfl wf_X11_7 dX11_grows_32 ?_
      refine r_iconst B dX11_grows_35 ?_
      refine r_ald B a_237 (by decide) (by decide) dX11_grows_36 ?_
      refine r_imul B dX11_grows_37 ?_
      obtain ⟨h22, v⟩ := v
      refine r_cV B (st := []) (as := [.int (i2 (2 * I 237 1))]) (T := TX11) (N := 25) (c_M_laysAnew (2 * I 237 1) _ hI h22) v o_236 rfl mw_M_laysAnew wl_X11_69 ⟨Nat.le_of_ble_eq_true rfl, Nat.le_of_ble_eq_true rfl⟩ rfl rfl (Nat.le_of_ble_eq_true rfl) dX11_grows_38 (fun I23 hI23 v => ?_)
      refine r_aload_n B dX11_grows_41 rfl rfl ?_
      refine r_getR B (C := RX11) (T := TX11) (N := 25) o_236 0 rfl win_X11 (by decide) rfl wf_X11_7 dX11_grows_42 ?_
      refine r_bipush B dX11_grows_45 (by decide) ?_
      refine r_dup2 B dX11_grows_47 rfl rfl ?_
      refine r_ald B a_237 (by decide) (by decide) dX11_grows_48 ?_
      refine r_iconst B dX11_grows_49 ?_
      refine r_iadd B dX11_grows_50 ?_
      obtain ⟨h24, v⟩ := v
      refine r_ast B a_237 (by decide) (by decide) dX11_grows_51 ?_
      have hI25 : rgM (wrM I23 237 11 (I23 237 11 + 1)) := rg_wr hI23 h24
      exact r_vret B hr hk hI25 v dX11_grows_52
    · have v := v.2 h
      exact r_vret B hr hk hI v dX11_grows_28
set_option maxHeartbeats 4000000 in
set_option maxRecDepth 100000 in
theorem wJ_M_comes_64 {p : Program} {l : Launch} {e : Env} {s : State} {m : MethodId} {args : Array Value} {below : List Frame} {meth : Method} {c0 : Code} {E : En} {A : Nat → Prop} {x1 : Int} {x2 : Int} {x3 : Int} {Q : Mm → Prop} {K8 : Int → Mm → Prop} (B : Bd p (rmm 3 69) s m args c0 cX11_comes 5 RX11 E A 0 0) (hr : meth.sig.returnType = none) (hk : meth.locks = false) (h1 : r32 x1) (h2 : r32 x2) (h3 : r32 x3)  (k8 : ∀ (x4 : Int) (I : Mm), rgM I → r32 x4 → K8 x4 I → WI p l e (rmm 3 69) s m args below meth c0 E A 5 0 0 (qV below E A args s Q) I 8 [(0, .ref (eA E 236)), (1, .int (i2 x1)), (2, .int (i2 x2)), (3, .int (i2 x3)), (4, .int (i2 x4))] []) : ∀ (x4 : Int) (I : Mm), rgM I → r32 x4 → J_M_comes_64 x1 x2 x3 Q K8 x4 I → WI p l e (rmm 3 69) s m args below meth c0 E A 5 0 0 (qV below E A args s Q) I 64 [(0, .ref (eA E 236)), (1, .int (i2 x1)), (2, .int (i2 x2)), (3, .int (i2 x3)), (4, .int (i2 x4))] [] := by
  intro x4 I hI h4 v
  unfold J_M_comes_64 at v
  refine r_aload_n B dX11_comes_64 rfl rfl ?_
  refine r_getR B (C := RX11) (T := TX11) (N := 25) o_236 0 rfl win_X11 (by decide) rfl wf_X11_7 dX11_comes_65 ?_
  refine r_sipush B dX11_comes_68 (by decide) ?_
  refine r_iload B dX11_comes_71 rfl ?_
  refine r_iadd B dX11_comes_73 ?_
  refine r_aload_n B dX11_comes_74 rfl rfl ?_
  refine r_getR B (C := RX11) (T := TX11) (N := 25) o_236 0 rfl win_X11 (by decide) rfl wf_X11_7 dX11_comes_75 ?_
  refine r_sipush B dX11_comes_78 (by decide) ?_
  refine r_iload B dX11_comes_81 rfl ?_
  refine r_iadd B dX11_comes_83 ?_
  refine r_iconst B dX11_comes_84 ?_
  refine r_isub B dX11_comes_85 ?_
  obtain ⟨h22, v⟩ := v
  refine r_ald B a_237 (by decide) h22 dX11_comes_86 ?_
  obtain ⟨h23, v⟩ := v
  refine r_ast B a_237 (by decide) h23 dX11_comes_87 ?_
  have hI24 : rgM (wrM I 237 (380 + x4) (I 237 ((380 + x4) - 1))) := rg_wr hI ((hI _ _))
  refine r_aload_n B dX11_comes_88 rfl rfl ?_
  refine r_getR B (C := RX11) (T := TX11) (N := 25) o_236 0 rfl win_X11 (by decide) rfl wf_X11_7 dX11_comes_89 ?_
  refine r_sipush B dX11_comes_92 (by decide) ?_
  refine r_iload B dX11_comes_95 rfl ?_
  refine r_iadd B dX11_comes_97 ?_
  refine r_aload_n B dX11_comes_98 rfl rfl ?_
  refine r_getR B (C := RX11) (T := TX11) (N := 25) o_236 0 rfl win_X11 (by decide) rfl wf_X11_7 dX11_comes_99 ?_
  refine r_sipush B dX11_comes_102 (by decide) ?_
  refine r_iload B dX11_comes_105 rfl ?_
  refine r_iadd B dX11_comes_107 ?_
  refine r_iconst B dX11_comes_108 ?_
  refine r_isub B dX11_comes_109 ?_
  obtain ⟨h25, v⟩ := v
  refine r_ald B a_237 (by decide) h25 dX11_comes_110 ?_
  obtain ⟨h26, v⟩ := v
  refine r_ast B a_237 (by decide) h26 dX11_comes_111 ?_
  have hI27 : rgM (wrM ((wrM I 237 (380 + x4) (I 237 ((380 + x4) - 1)))) 237 (580 + x4) ((wrM I 237 (380 + x4) (I 237 ((380 + x4) - 1))) 237 ((580 + x4) - 1))) := rg_wr hI24 ((hI24 _ _))
  refine r_aload_n B dX11_comes_112 rfl rfl ?_
  refine r_getR B (C := RX11) (T := TX11) (N := 25) o_236 0 rfl win_X11 (by decide) rfl wf_X11_7 dX11_comes_113 ?_
  refine r_sipush B dX11_comes_116 (by decide) ?_
  refine r_iload B dX11_comes_119 rfl ?_
  refine r_iadd B dX11_comes_121 ?_
  refine r_aload_n B dX11_comes_122 rfl rfl ?_
  refine r_getR B (C := RX11) (T := TX11) (N := 25) o_236 0 rfl win_X11 (by decide) rfl wf_X11_7 dX11_comes_123 ?_
  refine r_sipush B dX11_comes_126 (by decide) ?_
  refine r_iload B dX11_comes_129 rfl ?_
  refine r_iadd B dX11_comes_131 ?_
  refine r_iconst B dX11_comes_132 ?_
  refine r_isub B dX11_comes_133 ?_
  obtain ⟨h28, v⟩ := v
  refine r_ald B a_237 (by decide) h28 dX11_comes_134 ?_
  obtain ⟨h29, v⟩ := v
  refine r_ast B a_237 (by decide) h29 dX11_comes_135 ?_
  have hI30 : rgM (wrM ((wrM ((wrM I 237 (380 + x4) (I 237 ((380 + x4) - 1)))) 237 (580 + x4) ((wrM I 237 (380 + x4) (I 237 ((380 + x4) - 1))) 237 ((580 + x4) - 1)))) 237 (780 + x4) ((wrM ((wrM I 237 (380 + x4) (I 237 ((380 + x4) - 1)))) 237 (580 + x4) ((wrM I 237 (380 + x4) (I 237 ((380 + x4) - 1))) 237 ((580 + x4) - 1))) 237 ((780 + x4) - 1))) := rg_wr hI27 ((hI27 _ _))
  refine r_iinc B (q := 4) dX11_comes_136 (by decide) rfl (lv' := [(4, .int (i2 (x4 + (-1)))), (0, .ref (eA E 236)), (1, .int (i2 x1)), (2, .int (i2 x2)), (3, .int (i2 x3))]) rfl ?_
  refine r_sub [1, 2, 3, 4, 0] rfl ?_
  refine r_goto B (tgt := 8) dX11_comes_139 (by decide) ?_
  obtain ⟨h31, v⟩ := v
  refine r_sub [0, 1, 2, 3, 4] rfl ?_
  exact k8 (x4 + (-1)) _ hI30 h31 v
set_option maxHeartbeats 4000000 in
set_option maxRecDepth 100000 in
theorem wL_M_comes_8 {p : Program} {l : Launch} {e : Env} {s : State} {m : MethodId} {args : Array Value} {below : List Frame} {meth : Method} {c0 : Code} {E : En} {A : Nat → Prop} {x1 : Int} {x2 : Int} {x3 : Int} {Q : Mm → Prop} {K142 : Int → Mm → Prop} (B : Bd p (rmm 3 69) s m args c0 cX11_comes 5 RX11 E A 0 0) (hr : meth.sig.returnType = none) (hk : meth.locks = false) (h1 : r32 x1) (h2 : r32 x2) (h3 : r32 x3)  (k142 : ∀ (x4 : Int) (I : Mm), rgM I → r32 x4 → K142 x4 I → WI p l e (rmm 3 69) s m args below meth c0 E A 5 0 0 (qV below E A args s Q) I 142 [(0, .ref (eA E 236)), (1, .int (i2 x1)), (2, .int (i2 x2)), (3, .int (i2 x3)), (4, .int (i2 x4))] []) : ∀ (n : Nat) (x4 : Int) (I : Mm), rgM I → r32 x4 → L_M_comes_8 x1 x2 x3 Q K142 n x4 I → WI p l e (rmm 3 69) s m args below meth c0 E A 5 0 0 (qV below E A args s Q) I 8 [(0, .ref (eA E 236)), (1, .int (i2 x1)), (2, .int (i2 x2)), (3, .int (i2 x3)), (4, .int (i2 x4))] [] := by
  intro n
  induction n with
  | zero => intro x4 I _ _ v; exact absurd v id
  | succ n ih =>
    intro x4 I hI h4 v
    unfold L_M_comes_8 at v
    refine r_iload B dX11_comes_8 rfl ?_
    refine r_if_le B (tgt := 142) dX11_comes_10 (by decide) h4 (fun h => ?_) (fun h => ?_)
    · have v := v.1 h
      refine r_sub [0, 1, 2, 3, 4] rfl ?_
      exact k142 x4 _ hI h4 v
    · have v := v.2 h
      refine r_aload_n B dX11_comes_13 rfl rfl ?_
      refine r_getR B (C := RX11) (T := TX11) (N := 25) o_236 0 rfl win_X11 (by decide) rfl wf_X11_7 dX11_comes_14 ?_
      refine r_sipush B dX11_comes_17 (by decide) ?_
      refine r_iload B dX11_comes_20 rfl ?_
      refine r_iadd B dX11_comes_22 ?_
      refine r_iconst B dX11_comes_23 ?_
      refine r_isub B dX11_comes_24 ?_
      obtain ⟨h21, v⟩ := v
      refine r_ald B a_237 (by decide) h21 dX11_comes_25 ?_
      refine r_iload_n B dX11_comes_26 rfl rfl ?_
      refine r_icmp_gt B (tgt := 64) dX11_comes_27 (by decide) ((hI _ _)) h3 (fun h => ?_) (fun h => ?_)
      · have v := v.1 h
        refine r_sub [0, 1, 2, 3, 4] rfl ?_
        exact wJ_M_comes_64 B hr hk h1 h2 h3 ih x4 I hI h4 v
      · have v := v.2 h
        refine r_aload_n B dX11_comes_30 rfl rfl ?_
        refine r_getR B (C := RX11) (T := TX11) (N := 25) o_236 0 rfl win_X11 (by decide) rfl wf_X11_7 dX11_comes_31 ?_
        refine r_sipush B dX11_comes_34 (by decide) ?_
        refine r_iload B dX11_comes_37 rfl ?_
        refine r_iadd B dX11_comes_39 ?_
        refine r_iconst B dX11_comes_40 ?_
        refine r_isub B dX11_comes_41 ?_
        obtain ⟨h33, v⟩ := v
        refine r_ald B a_237 (by decide) h33 dX11_comes_42 ?_
        refine r_iload_n B dX11_comes_43 rfl rfl ?_
        refine r_icmp_ne B (tgt := 142) dX11_comes_44 (by decide) ((hI _ _)) h3 (fun h => ?_) (fun h => ?_)
        · have v := v.1 h
          refine r_sub [0, 1, 2, 3, 4] rfl ?_
          exact k142 x4 _ hI h4 v
        · have v := v.2 h
          refine r_aload_n B dX11_comes_47 rfl rfl ?_
          refine r_getR B (C := RX11) (T := TX11) (N := 25) o_236 0 rfl win_X11 (by decide) rfl wf_X11_7 dX11_comes_48 ?_
          refine r_sipush B dX11_comes_51 (by decide) ?_
          refine r_iload B dX11_comes_54 rfl ?_
          refine r_iadd B dX11_comes_56 ?_
          refine r_iconst B dX11_comes_57 ?_
          refine r_isub B dX11_comes_58 ?_
          obtain ⟨h34, v⟩ := v
          refine r_ald B a_237 (by decide) h34 dX11_comes_59 ?_
          refine r_iload_n B dX11_comes_60 rfl rfl ?_
          refine r_icmp_le B (tgt := 142) dX11_comes_61 (by decide) ((hI _ _)) h1 (fun h => ?_) (fun h => ?_)
          · have v := v.1 h
            refine r_sub [0, 1, 2, 3, 4] rfl ?_
            exact k142 x4 _ hI h4 v
          · have v := v.2 h
            refine r_sub [0, 1, 2, 3, 4] rfl ?_
            exact wJ_M_comes_64 B hr hk h1 h2 h3 ih x4 I hI h4 v
set_option maxHeartbeats 4000000 in
set_option maxRecDepth 100000 in
theorem c_M_comes {l : Launch} {E : En} {A : Nat → Prop} (x1 : Int) (x2 : Int) (x3 : Int) (I : Mm)  (hI : rgM I) (h1 : r32 x1) (h2 : r32 x2) (h3 : r32 x3) : CV l E A yX11_comes cX11_comes 5 3 69 [.ref (eA E 236), .int (i2 x1), .int (i2 x2), .int (i2 x3)] I (V_M_comes x1 x2 x3 I) := by
  intro Q v
  refine mk_met (own := RX11) (lv0 := [(0, .ref (eA E 236)), (1, .int (i2 x1)), (2, .int (i2 x2)), (3, .int (i2 x3))]) (by decide) rfl (Nat.le_of_ble_eq_true rfl) rfl (fun p e s m args below meth c0 B hr hk => ?_)
  unfold V_M_comes at v
  refine r_aload_n B dX11_comes_0 rfl rfl ?_
  refine r_getR B (C := RX11) (T := TX11) (N := 25) o_236 0 rfl win_X11 (by decide) rfl wf_X11_7 dX11_comes_1 ?_
  refine r_iconst B dX11_comes_4 ?_
  refine r_ald B a_237 (by decide) (by decide) dX11_comes_5 ?_
  refine r_istore B dX11_comes_6 (by decide) (lv' := [(4, .int (i2 (I 237 0))), (0, .ref (eA E 236)), (1, .int (i2 x1)), (2, .int (i2 x2)), (3, .int (i2 x3))]) rfl ?_
  refine r_sub [1, 2, 3, 4, 0] rfl ?_
  obtain ⟨f47, v⟩ := v
  refine r_sub [0, 1, 2, 3, 4] rfl ?_
  refine wL_M_comes_8 B hr hk h1 h2 h3 (fun y36 I37 hI37 hy36 v => ?_) f47 (I 237 0) I hI ((hI _ _)) v
  · refine r_aload_n B dX11_comes_142 rfl rfl ?_
    refine r_getR B (C := RX11) (T := TX11) (N := 25) o_236 0 rfl win_X11 (by decide) rfl wf_X11_7 dX11_comes_143 ?_
    refine r_sipush B dX11_comes_146 (by decide) ?_
    refine r_iload B dX11_comes_149 rfl ?_
    refine r_iadd B dX11_comes_151 ?_
    refine r_iload_n B dX11_comes_152 rfl rfl ?_
    obtain ⟨h38, v⟩ := v
    refine r_ast B a_237 (by decide) h38 dX11_comes_153 ?_
    have hI39 : rgM (wrM I37 237 (380 + y36) x1) := rg_wr hI37 h1
    refine r_aload_n B dX11_comes_154 rfl rfl ?_
    refine r_getR B (C := RX11) (T := TX11) (N := 25) o_236 0 rfl win_X11 (by decide) rfl wf_X11_7 dX11_comes_155 ?_
    refine r_sipush B dX11_comes_158 (by decide) ?_
    refine r_iload B dX11_comes_161 rfl ?_
    refine r_iadd B dX11_comes_163 ?_
    refine r_iload_n B dX11_comes_164 rfl rfl ?_
    obtain ⟨h40, v⟩ := v
    refine r_ast B a_237 (by decide) h40 dX11_comes_165 ?_
    have hI41 : rgM (wrM ((wrM I37 237 (380 + y36) x1)) 237 (580 + y36) x2) := rg_wr hI39 h2
    refine r_aload_n B dX11_comes_166 rfl rfl ?_
    refine r_getR B (C := RX11) (T := TX11) (N := 25) o_236 0 rfl win_X11 (by decide) rfl wf_X11_7 dX11_comes_167 ?_
    refine r_sipush B dX11_comes_170 (by decide) ?_
    refine r_iload B dX11_comes_173 rfl ?_
    refine r_iadd B dX11_comes_175 ?_
    refine r_iload_n B dX11_comes_176 rfl rfl ?_
    obtain ⟨h42, v⟩ := v
    refine r_ast B a_237 (by decide) h42 dX11_comes_177 ?_
    have hI43 : rgM (wrM ((wrM ((wrM I37 237 (380 + y36) x1)) 237 (580 + y36) x2)) 237 (780 + y36) x3) := rg_wr hI41 h3
    refine r_aload_n B dX11_comes_178 rfl rfl ?_
    refine r_getR B (C := RX11) (T := TX11) (N := 25) o_236 0 rfl win_X11 (by decide) rfl wf_X11_7 dX11_comes_179 ?_
    refine r_iconst B dX11_comes_182 ?_
    refine r_dup2 B dX11_comes_183 rfl rfl ?_
    refine r_ald B a_237 (by decide) (by decide) dX11_comes_184 ?_
    refine r_iconst B dX11_comes_185 ?_
    refine r_iadd B dX11_comes_186 ?_
    obtain ⟨h44, v⟩ := v
    refine r_ast B a_237 (by decide) (by decide) dX11_comes_187 ?_
    have hI45 : rgM (wrM ((wrM ((wrM ((wrM I37 237 (380 + y36) x1)) 237 (580 + y36) x2)) 237 (780 + y36) x3)) 237 0 ((wrM ((wrM ((wrM I37 237 (380 + y36) x1)) 237 (580 + y36) x2)) 237 (780 + y36) x3) 237 0 + 1)) := rg_wr hI43 h44
    refine r_aload_n B dX11_comes_188 rfl rfl ?_
    refine r_cV B (st := []) (as := []) (T := TX11) (N := 25) (c_M_grows _ hI45 ) v o_236 rfl mw_M_grows wl_X11_73 ⟨Nat.le_of_ble_eq_true rfl, Nat.le_of_ble_eq_true rfl⟩ rfl rfl (Nat.le_of_ble_eq_true rfl) dX11_comes_189 (fun I46 hI46 v => ?_)
    exact r_vret B hr hk hI46 v dX11_comes_192
set_option maxHeartbeats 4000000 in
set_option maxRecDepth 100000 in
theorem c_M_comesNew {l : Launch} {E : En} {A : Nat → Prop} (x1 : Int) (x2 : Int) (I : Mm)  (hI : rgM I) (h1 : r32 x1) (h2 : r32 x2) : CI l E A yX11_comesNew cX11_comesNew 3 .int 4 93 [.ref (eA E 236), .int (i2 x1), .int (i2 x2)] I (V_M_comesNew x1 x2 I) := by
  intro Q v
  refine mk_met (own := RX11) (lv0 := [(0, .ref (eA E 236)), (1, .int (i2 x1)), (2, .int (i2 x2))]) (by decide) rfl (Nat.le_of_ble_eq_true rfl) rfl (fun p e s m args below meth c0 B hr hk => ?_)
  unfold V_M_comesNew at v
  refine r_aload_n B dX11_comesNew_0 rfl rfl ?_
  refine r_aload_n B dX11_comesNew_1 rfl rfl ?_
  refine r_getR B (C := RX11) (T := TX11) (N := 25) o_236 0 rfl win_X11 (by decide) rfl wf_X11_7 dX11_comesNew_2 ?_
  refine r_bipush B dX11_comesNew_5 (by decide) ?_
  refine r_ald B a_237 (by decide) (by decide) dX11_comesNew_7 ?_
  refine r_iload_n B dX11_comesNew_8 rfl rfl ?_
  refine r_iload_n B dX11_comesNew_9 rfl rfl ?_
  refine r_cV B (st := []) (as := [.int (i2 (I 237 6)), .int (i2 x1), .int (i2 x2)]) (T := TX11) (N := 25) (c_M_comes (I 237 6) x1 x2 _ hI ((hI _ _)) h1 h2) v o_236 rfl mw_M_comes wl_X11_76 ⟨Nat.le_of_ble_eq_true rfl, Nat.le_of_ble_eq_true rfl⟩ rfl rfl (Nat.le_of_ble_eq_true rfl) dX11_comesNew_10 (fun I21 hI21 v => ?_)
  refine r_aload_n B dX11_comesNew_13 rfl rfl ?_
  refine r_getR B (C := RX11) (T := TX11) (N := 25) o_236 0 rfl win_X11 (by decide) rfl wf_X11_7 dX11_comesNew_14 ?_
  refine r_bipush B dX11_comesNew_17 (by decide) ?_
  refine r_dup2 B dX11_comesNew_19 rfl rfl ?_
  refine r_ald B a_237 (by decide) (by decide) dX11_comesNew_20 ?_
  refine r_iconst B dX11_comesNew_21 ?_
  refine r_iadd B dX11_comesNew_22 ?_
  obtain ⟨h22, v⟩ := v
  refine r_ast B a_237 (by decide) (by decide) dX11_comesNew_23 ?_
  have hI23 : rgM (wrM I21 237 6 (I21 237 6 + 1)) := rg_wr hI21 h22
  refine r_aload_n B dX11_comesNew_24 rfl rfl ?_
  refine r_getR B (C := RX11) (T := TX11) (N := 25) o_236 0 rfl win_X11 (by decide) rfl wf_X11_7 dX11_comesNew_25 ?_
  refine r_bipush B dX11_comesNew_28 (by decide) ?_
  refine r_ald B a_237 (by decide) (by decide) dX11_comesNew_30 ?_
  refine r_iconst B dX11_comesNew_31 ?_
  refine r_isub B dX11_comesNew_32 ?_
  obtain ⟨h24, v⟩ := v
  exact r_iret B hr hk rfl h24 hI23 v dX11_comesNew_33
set_option maxHeartbeats 4000000 in
set_option maxRecDepth 100000 in
theorem c_M_push {l : Launch} {E : En} {A : Nat → Prop} (x1 : Int) (x2 : Int) (I : Mm)  (hI : rgM I) (h1 : r32 x1) (h2 : r32 x2) : CI l E A yX11_push cX11_push 3 .int 5 115 [.ref (eA E 236), .int (i2 x1), .int (i2 x2)] I (V_M_push x1 x2 I) := by
  intro Q v
  refine mk_met (own := RX11) (lv0 := [(0, .ref (eA E 236)), (1, .int (i2 x1)), (2, .int (i2 x2))]) (by decide) rfl (Nat.le_of_ble_eq_true rfl) rfl (fun p e s m args below meth c0 B hr hk => ?_)
  unfold V_M_push at v
  refine r_aload_n B dX11_push_0 rfl rfl ?_
  refine r_iload_n B dX11_push_1 rfl rfl ?_
  refine r_cI B (st := []) (as := [.int (i2 x1)]) (T := TX11) (N := 25) (c_M_isName x1 _ hI h1) v o_236 rfl mw_M_isName wl_X11_111 ⟨Nat.le_of_ble_eq_true rfl, Nat.le_of_ble_eq_true rfl⟩ rfl rfl (Nat.le_of_ble_eq_true rfl) dX11_push_2 (fun z21 I22 hz21 hI22 v => ?_)
  refine r_if_eq B (tgt := 20) dX11_push_5 (by decide) hz21 (fun h => ?_) (fun h => ?_)
  · have v := v.1 h
    refine r_iconst B dX11_push_20 ?_
    exact r_iret B hr hk rfl ((rg_lit (by decide) (by decide))) hI22 v dX11_push_21
  · have v := v.2 h
    refine r_iload_n B dX11_push_8 rfl rfl ?_
    refine r_i2l B dX11_push_9 h2 ?_
    refine r_lconst B 0 dX11_push_10 (by decide) ?_
    refine r_ldc2 B (999999999) dX11_push_11 wc_X11_115 (by decide) ?_
    refine r_sI B (st := []) (as := [.long (l2 x2), .long (l2 0), .long (l2 999999999)]) (c_M_in x2 0 999999999 _ hI22 ((rg_64 h2)) ((show r64 (0) by exact ⟨by decide, by decide⟩)) ((show r64 (999999999) by exact ⟨by decide, by decide⟩))) v mw_M_in wl_X11_55 ⟨Nat.le_of_ble_eq_true rfl, Nat.le_of_ble_eq_true rfl⟩ rfl rfl (Nat.le_of_ble_eq_true rfl) dX11_push_14 (fun z23 I24 hz23 hI24 v => ?_)
    refine r_if_ne B (tgt := 22) dX11_push_17 (by decide) hz23 (fun h => ?_) (fun h => ?_)
    · have v := v.1 h
      refine r_iload_n B dX11_push_22 rfl rfl ?_
      refine r_aload_n B dX11_push_23 rfl rfl ?_
      refine r_getR B (C := RX11) (T := TX11) (N := 25) o_236 0 rfl win_X11 (by decide) rfl wf_X11_7 dX11_push_24 ?_
      refine r_iconst B dX11_push_27 ?_
      refine r_ald B a_237 (by decide) (by decide) dX11_push_28 ?_
      refine r_icmp_ge B (tgt := 35) dX11_push_29 (by decide) h2 ((hI24 _ _)) (fun h => ?_) (fun h => ?_)
      · have v := v.1 h
        refine r_aload_n B dX11_push_35 rfl rfl ?_
        refine r_getR B (C := RX11) (T := TX11) (N := 25) o_236 0 rfl win_X11 (by decide) rfl wf_X11_7 dX11_push_36 ?_
        refine r_iconst B dX11_push_39 ?_
        refine r_ald B a_237 (by decide) (by decide) dX11_push_40 ?_
        refine r_sipush B dX11_push_41 (by decide) ?_
        refine r_icmp_ne B (tgt := 50) dX11_push_44 (by decide) ((hI24 _ _)) ((rg_lit (by decide) (by decide))) (fun h => ?_) (fun h => ?_)
        · have v := v.1 h
          refine r_aload_n B dX11_push_50 rfl rfl ?_
          refine r_cV B (st := []) (as := []) (T := TX11) (N := 25) (c_M_keepsAct _ hI24 ) v o_236 rfl mw_M_keepsAct wl_X11_117 ⟨Nat.le_of_ble_eq_true rfl, Nat.le_of_ble_eq_true rfl⟩ rfl rfl (Nat.le_of_ble_eq_true rfl) dX11_push_51 (fun I25 hI25 v => ?_)
          refine r_aload_n B dX11_push_54 rfl rfl ?_
          refine r_iload_n B dX11_push_55 rfl rfl ?_
          refine r_iload_n B dX11_push_56 rfl rfl ?_
          refine r_cI B (st := []) (as := [.int (i2 x1), .int (i2 x2)]) (T := TX11) (N := 25) (c_M_comesNew x1 x2 _ hI25 h1 h2) v o_236 rfl mw_M_comesNew wl_X11_104 ⟨Nat.le_of_ble_eq_true rfl, Nat.le_of_ble_eq_true rfl⟩ rfl rfl (Nat.le_of_ble_eq_true rfl) dX11_push_57 (fun z26 I27 hz26 hI27 v => ?_)
          exact r_iret B hr hk rfl hz26 hI27 v dX11_push_60
        · have v := v.2 h
          refine r_bipush B dX11_push_47 (by decide) ?_
          exact r_iret B hr hk rfl ((rg_lit (by decide) (by decide))) hI24 v dX11_push_49
      · have v := v.2 h
        refine r_bipush B dX11_push_32 (by decide) ?_
        exact r_iret B hr hk rfl ((rg_lit (by decide) (by decide))) hI24 v dX11_push_34
    · have v := v.2 h
      refine r_iconst B dX11_push_20 ?_
      exact r_iret B hr hk rfl ((rg_lit (by decide) (by decide))) hI24 v dX11_push_21
set_option maxHeartbeats 4000000 in
set_option maxRecDepth 100000 in
theorem c_M_looksTo {l : Launch} {E : En} {A : Nat → Prop} (x0 : Int) (x1 : Int) (x2 : Int) (x3 : Int) (I : Mm)  (hI : rgM I) (h0 : r32 x0) (h1 : r32 x1) (h2 : r32 x2) (h3 : r32 x3) : CI l E A yX11_looksTo cX11_looksTo 5 .int 0 0 [.int (i2 x0), .int (i2 x1), .int (i2 x2), .int (i2 x3)] I (V_M_looksTo x0 x1 x2 x3 I) := by
  intro Q v
  refine mk_met (own := RX11) (lv0 := [(0, .int (i2 x0)), (1, .int (i2 x1)), (2, .int (i2 x2)), (3, .int (i2 x3))]) (by decide) rfl (Nat.le_of_ble_eq_true rfl) rfl (fun p e s m args below meth c0 B hr hk => ?_)
  unfold V_M_looksTo at v
  refine r_iload_n B dX11_looksTo_0 rfl rfl ?_
  refine r_iload_n B dX11_looksTo_1 rfl rfl ?_
  obtain ⟨h21, v⟩ := v
  refine r_idiv B dX11_looksTo_2 h1 h3 h21 ?_
  refine r_iload_n B dX11_looksTo_3 rfl rfl ?_
  refine r_iload_n B dX11_looksTo_4 rfl rfl ?_
  obtain ⟨h22, v⟩ := v
  refine r_idiv B dX11_looksTo_5 h0 h3 h22 ?_
  refine r_isub B dX11_looksTo_6 ?_
  refine r_istore B dX11_looksTo_7 (by decide) (lv' := [(4, .int (i2 ((x1 / x3) - (x0 / x3)))), (0, .int (i2 x0)), (1, .int (i2 x1)), (2, .int (i2 x2)), (3, .int (i2 x3))]) rfl ?_
  refine r_sub [1, 2, 3, 4, 0] rfl ?_
  refine r_iload B dX11_looksTo_9 rfl ?_
  refine r_iload_n B dX11_looksTo_11 rfl rfl ?_
  obtain ⟨h23, v⟩ := v
  refine r_icmp_ge B (tgt := 22) dX11_looksTo_12 (by decide) h23 h2 (fun h => ?_) (fun h => ?_)
  · have v := v.1 h
    refine r_iconst B dX11_looksTo_22 ?_
    refine r_iload_n B dX11_looksTo_23 rfl rfl ?_
    refine r_imul B dX11_looksTo_24 ?_
    obtain ⟨h24, v⟩ := v
    exact r_iret B hr hk rfl h24 hI v dX11_looksTo_25
  · have v := v.2 h
    refine r_iload B dX11_looksTo_15 rfl ?_
    refine r_iconst B dX11_looksTo_17 ?_
    refine r_iadd B dX11_looksTo_18 ?_
    refine r_goto B (tgt := 25) dX11_looksTo_19 (by decide) ?_
    obtain ⟨h25, v⟩ := v
    exact r_iret B hr hk rfl h25 hI v dX11_looksTo_25
set_option maxHeartbeats 4000000 in
set_option maxRecDepth 100000 in
theorem c_M_looksNow {l : Launch} {E : En} {A : Nat → Prop}  (I : Mm)  (hI : rgM I)  : CI l E A yX11_looksNow cX11_looksNow 1 .int 1 24 [.ref (eA E 236)] I (V_M_looksNow  I) := by
  intro Q v
  refine mk_met (own := RX11) (lv0 := [(0, .ref (eA E 236))]) (by decide) rfl (Nat.le_of_ble_eq_true rfl) rfl (fun p e s m args below meth c0 B hr hk => ?_)
  unfold V_M_looksNow at v
  refine r_aload_n B dX11_looksNow_0 rfl rfl ?_
  refine r_getR B (C := RX11) (T := TX11) (N := 25) o_236 0 rfl win_X11 (by decide) rfl wf_X11_7 dX11_looksNow_1 ?_
  refine r_iconst B dX11_looksNow_4 ?_
  refine r_ald B a_237 (by decide) (by decide) dX11_looksNow_5 ?_
  refine r_aload_n B dX11_looksNow_6 rfl rfl ?_
  refine r_getR B (C := RX11) (T := TX11) (N := 25) o_236 0 rfl win_X11 (by decide) rfl wf_X11_7 dX11_looksNow_7 ?_
  refine r_sipush B dX11_looksNow_10 (by decide) ?_
  refine r_ald B a_237 (by decide) (by decide) dX11_looksNow_13 ?_
  refine r_aload_n B dX11_looksNow_14 rfl rfl ?_
  refine r_getR B (C := RX11) (T := TX11) (N := 25) o_236 0 rfl win_X11 (by decide) rfl wf_X11_7 dX11_looksNow_15 ?_
  refine r_iconst B dX11_looksNow_18 ?_
  refine r_ald B a_237 (by decide) (by decide) dX11_looksNow_19 ?_
  refine r_aload_n B dX11_looksNow_20 rfl rfl ?_
  refine r_getR B (C := RX11) (T := TX11) (N := 25) o_236 0 rfl win_X11 (by decide) rfl wf_X11_7 dX11_looksNow_21 ?_
  refine r_iconst B dX11_looksNow_24 ?_
  refine r_ald B a_237 (by decide) (by decide) dX11_looksNow_25 ?_
  refine r_sI B (st := []) (as := [.int (i2 (I 237 3)), .int (i2 (I 237 780)), .int (i2 (I 237 1)), .int (i2 (I 237 2))]) (c_M_looksTo (I 237 3) (I 237 780) (I 237 1) (I 237 2) _ hI ((hI _ _)) ((hI _ _)) ((hI _ _)) ((hI _ _))) v mw_M_looksTo wl_X11_83 ⟨Nat.le_of_ble_eq_true rfl, Nat.le_of_ble_eq_true rfl⟩ rfl rfl (Nat.le_of_ble_eq_true rfl) dX11_looksNow_26 (fun z21 I22 hz21 hI22 v => ?_)
  exact r_iret B hr hk rfl hz21 hI22 v dX11_looksNow_29
set_option maxHeartbeats 4000000 in
set_option maxRecDepth 100000 in
theorem c_M_shrinks {l : Launch} {E : En} {A : Nat → Prop}  (I : Mm)  (hI : rgM I)  : CV l E A yX11_shrinks cX11_shrinks 1 2 49 [.ref (eA E 236)] I (V_M_shrinks  I) := by
  intro Q v
  refine mk_met (own := RX11) (lv0 := [(0, .ref (eA E 236))]) (by decide) rfl (Nat.le_of_ble_eq_true rfl) rfl (fun p e s m args below meth c0 B hr hk => ?_)
  unfold V_M_shrinks at v
  refine r_iconst B dX11_shrinks_0 ?_
  refine r_aload_n B dX11_shrinks_1 rfl rfl ?_
  refine r_getR B (C := RX11) (T := TX11) (N := 25) o_236 0 rfl win_X11 (by decide) rfl wf_X11_7 dX11_shrinks_2 ?_
  refine r_iconst B dX11_shrinks_5 ?_
  refine r_ald B a_237 (by decide) (by decide) dX11_shrinks_6 ?_
  refine r_imul B dX11_shrinks_7 ?_
  refine r_aload_n B dX11_shrinks_8 rfl rfl ?_
  refine r_getR B (C := RX11) (T := TX11) (N := 25) o_236 0 rfl win_X11 (by decide) rfl wf_X11_7 dX11_shrinks_9 ?_
  refine r_iconst B dX11_shrinks_12 ?_
  refine r_ald B a_237 (by decide) (by decide) dX11_shrinks_13 ?_
  obtain ⟨h21, v⟩ := v
  refine r_icmp_ge B (tgt := 27) dX11_shrinks_14 (by decide) h21 ((hI _ _)) (fun h => ?_) (fun h => ?_)
  · have v := v.1 h
    exact r_vret B hr hk hI v dX11_shrinks_27
  · have v := v.2 h
    refine r_aload_n B dX11_shrinks_17 rfl rfl ?_
    refine r_getR B (C := RX11) (T := TX11) (N := 25) o_236 0 rfl win_X11 (by decide) rfl wf_X11_7 dX11_shrinks_18 ?_
    refine r_iconst B dX11_shrinks_21 ?_
    refine r_ald B a_237 (by decide) (by decide) dX11_shrinks_22 ?_
    refine r_iconst B dX11_shrinks_23 ?_
    refine r_icmp_gt B (tgt := 28) dX11_shrinks_24 (by decide) ((hI _ _)) ((rg_lit (by decide) (by decide))) (fun h => ?_) (fun h => ?_)
    · have v := v.1 h
      refine r_aload_n B dX11_shrinks_28 rfl rfl ?_
      refine r_aload_n B dX11_shrinks_29 rfl rfl ?_
      refine r_getR B (C := RX11) (T := TX11) (N := 25) o_236 0 rfl win_X11 (by decide) rfl wf_X11_7 dX11_shrinks_30 ?_
      refine r_iconst B dX11_shrinks_33 ?_
      refine r_ald B a_237 (by decide) (by decide) dX11_shrinks_34 ?_
      refine r_iconst B dX11_shrinks_35 ?_
      obtain ⟨h22, v⟩ := v
      refine r_idiv B dX11_shrinks_36 ((hI _ _)) ((rg_lit (by decide) (by decide))) (show 0 ≤ I 237 1 ∧ (0 : Int) < 2 from ⟨h22, by decide⟩) ?_
      refine r_cV B (st := []) (as := [.int (i2 (I 237 1 / 2))]) (T := TX11) (N := 25) (c_M_laysAnew (I 237 1 / 2) _ hI ((rg_div ((hI _ _)) (show 0 ≤ I 237 1 ∧ (0 : Int) < 2 from ⟨h22, by decide⟩).1 (show 0 ≤ I 237 1 ∧ (0 : Int) < 2 from ⟨h22, by decide⟩).2))) v o_236 rfl mw_M_laysAnew wl_X11_69 ⟨Nat.le_of_ble_eq_true rfl, Nat.le_of_ble_eq_true rfl⟩ rfl rfl (Nat.le_of_ble_eq_true rfl) dX11_shrinks_37 (fun I23 hI23 v => ?_)
      refine r_aload_n B dX11_shrinks_40 rfl rfl ?_
      refine r_getR B (C := RX11) (T := TX11) (N := 25) o_236 0 rfl win_X11 (by decide) rfl wf_X11_7 dX11_shrinks_41 ?_
      refine r_bipush B dX11_shrinks_44 (by decide) ?_
      refine r_dup2 B dX11_shrinks_46 rfl rfl ?_
      refine r_ald B a_237 (by decide) (by decide) dX11_shrinks_47 ?_
      refine r_iconst B dX11_shrinks_48 ?_
      refine r_iadd B dX11_shrinks_49 ?_
      obtain ⟨h24, v⟩ := v
      refine r_ast B a_237 (by decide) (by decide) dX11_shrinks_50 ?_
      have hI25 : rgM (wrM I23 237 12 (I23 237 12 + 1)) := rg_wr hI23 h24
      exact r_vret B hr hk hI25 v dX11_shrinks_51
    · have v := v.2 h
      exact r_vret B hr hk hI v dX11_shrinks_27
set_option maxHeartbeats 4000000 in
set_option maxRecDepth 100000 in
theorem wL_M_leaves_12 {p : Program} {l : Launch} {e : Env} {s : State} {m : MethodId} {args : Array Value} {below : List Frame} {meth : Method} {c0 : Code} {E : En} {A : Nat → Prop} {x1 : Int} {Q : Mm → Prop}  (B : Bd p (rmm 3 69) s m args c0 cX11_leaves 3 RX11 E A 0 0) (hr : meth.sig.returnType = none) (hk : meth.locks = false) (h1 : r32 x1)   : ∀ (n : Nat) (x2 : Int) (I : Mm), rgM I → r32 x2 → L_M_leaves_12 x1 Q n x2 I → WI p l e (rmm 3 69) s m args below meth c0 E A 3 0 0 (qV below E A args s Q) I 12 [(0, .ref (eA E 236)), (2, .int (i2 x2))] [] := by
  intro n
  induction n with
  | zero => intro x2 I _ _ v; exact absurd v id
  | succ n ih =>
    intro x2 I hI h2 v
    unfold L_M_leaves_12 at v
    refine r_iload_n B dX11_leaves_12 rfl rfl ?_
    refine r_aload_n B dX11_leaves_13 rfl rfl ?_
    refine r_getR B (C := RX11) (T := TX11) (N := 25) o_236 0 rfl win_X11 (by decide) rfl wf_X11_7 dX11_leaves_14 ?_
    refine r_iconst B dX11_leaves_17 ?_
    refine r_ald B a_237 (by decide) (by decide) dX11_leaves_18 ?_
    refine r_icmp_ge B (tgt := 94) dX11_leaves_19 (by decide) h2 ((hI _ _)) (fun h => ?_) (fun h => ?_)
    · have v := v.1 h
      refine r_aload_n B dX11_leaves_94 rfl rfl ?_
      refine r_cV B (st := []) (as := []) (T := TX11) (N := 25) (c_M_shrinks _ hI ) v o_236 rfl mw_M_shrinks wl_X11_80 ⟨Nat.le_of_ble_eq_true rfl, Nat.le_of_ble_eq_true rfl⟩ rfl rfl (Nat.le_of_ble_eq_true rfl) dX11_leaves_95 (fun I23 hI23 v => ?_)
      exact r_vret B hr hk hI23 v dX11_leaves_98
    · have v := v.2 h
      refine r_aload_n B dX11_leaves_22 rfl rfl ?_
      refine r_getR B (C := RX11) (T := TX11) (N := 25) o_236 0 rfl win_X11 (by decide) rfl wf_X11_7 dX11_leaves_23 ?_
      refine r_sipush B dX11_leaves_26 (by decide) ?_
      refine r_iload_n B dX11_leaves_29 rfl rfl ?_
      refine r_iadd B dX11_leaves_30 ?_
      refine r_aload_n B dX11_leaves_31 rfl rfl ?_
      refine r_getR B (C := RX11) (T := TX11) (N := 25) o_236 0 rfl win_X11 (by decide) rfl wf_X11_7 dX11_leaves_32 ?_
      refine r_sipush B dX11_leaves_35 (by decide) ?_
      refine r_iload_n B dX11_leaves_38 rfl rfl ?_
      refine r_iadd B dX11_leaves_39 ?_
      refine r_iconst B dX11_leaves_40 ?_
      refine r_iadd B dX11_leaves_41 ?_
      obtain ⟨h24, v⟩ := v
      refine r_ald B a_237 (by decide) h24 dX11_leaves_42 ?_
      obtain ⟨h25, v⟩ := v
      refine r_ast B a_237 (by decide) h25 dX11_leaves_43 ?_
      have hI26 : rgM (wrM I 237 (380 + x2) (I 237 ((380 + x2) + 1))) := rg_wr hI ((hI _ _))
      refine r_aload_n B dX11_leaves_44 rfl rfl ?_
      refine r_getR B (C := RX11) (T := TX11) (N := 25) o_236 0 rfl win_X11 (by decide) rfl wf_X11_7 dX11_leaves_45 ?_
      refine r_sipush B dX11_leaves_48 (by decide) ?_
      refine r_iload_n B dX11_leaves_51 rfl rfl ?_
      refine r_iadd B dX11_leaves_52 ?_
      refine r_aload_n B dX11_leaves_53 rfl rfl ?_
      refine r_getR B (C := RX11) (T := TX11) (N := 25) o_236 0 rfl win_X11 (by decide) rfl wf_X11_7 dX11_leaves_54 ?_
      refine r_sipush B dX11_leaves_57 (by decide) ?_
      refine r_iload_n B dX11_leaves_60 rfl rfl ?_
      refine r_iadd B dX11_leaves_61 ?_
      refine r_iconst B dX11_leaves_62 ?_
      refine r_iadd B dX11_leaves_63 ?_
      obtain ⟨h27, v⟩ := v
      refine r_ald B a_237 (by decide) h27 dX11_leaves_64 ?_
      obtain ⟨h28, v⟩ := v
      refine r_ast B a_237 (by decide) h28 dX11_leaves_65 ?_
      have hI29 : rgM (wrM ((wrM I 237 (380 + x2) (I 237 ((380 + x2) + 1)))) 237 (580 + x2) ((wrM I 237 (380 + x2) (I 237 ((380 + x2) + 1))) 237 ((580 + x2) + 1))) := rg_wr hI26 ((hI26 _ _))
      refine r_aload_n B dX11_leaves_66 rfl rfl ?_
      refine r_getR B (C := RX11) (T := TX11) (N := 25) o_236 0 rfl win_X11 (by decide) rfl wf_X11_7 dX11_leaves_67 ?_
      refine r_sipush B dX11_leaves_70 (by decide) ?_
      refine r_iload_n B dX11_leaves_73 rfl rfl ?_
      refine r_iadd B dX11_leaves_74 ?_
      refine r_aload_n B dX11_leaves_75 rfl rfl ?_
      refine r_getR B (C := RX11) (T := TX11) (N := 25) o_236 0 rfl win_X11 (by decide) rfl wf_X11_7 dX11_leaves_76 ?_
      refine r_sipush B dX11_leaves_79 (by decide) ?_
      refine r_iload_n B dX11_leaves_82 rfl rfl ?_
      refine r_iadd B dX11_leaves_83 ?_
      refine r_iconst B dX11_leaves_84 ?_
      refine r_iadd B dX11_leaves_85 ?_
      obtain ⟨h30, v⟩ := v
      refine r_ald B a_237 (by decide) h30 dX11_leaves_86 ?_
      obtain ⟨h31, v⟩ := v
      refine r_ast B a_237 (by decide) h31 dX11_leaves_87 ?_
      have hI32 : rgM (wrM ((wrM ((wrM I 237 (380 + x2) (I 237 ((380 + x2) + 1)))) 237 (580 + x2) ((wrM I 237 (380 + x2) (I 237 ((380 + x2) + 1))) 237 ((580 + x2) + 1)))) 237 (780 + x2) ((wrM ((wrM I 237 (380 + x2) (I 237 ((380 + x2) + 1)))) 237 (580 + x2) ((wrM I 237 (380 + x2) (I 237 ((380 + x2) + 1))) 237 ((580 + x2) + 1))) 237 ((780 + x2) + 1))) := rg_wr hI29 ((hI29 _ _))
      refine r_iinc B (q := 1) dX11_leaves_88 (by decide) rfl (lv' := [(2, .int (i2 (x2 + 1))), (0, .ref (eA E 236))]) rfl ?_
      refine r_sub [1, 0] rfl ?_
      refine r_goto B (tgt := 12) dX11_leaves_91 (by decide) ?_
      obtain ⟨h33, v⟩ := v
      refine r_sub [0, 1] rfl ?_
      exact ih (x2 + 1) _ hI32 h33 v
set_option maxHeartbeats 4000000 in
set_option maxRecDepth 100000 in
theorem c_M_leaves {l : Launch} {E : En} {A : Nat → Prop} (x1 : Int) (I : Mm)  (hI : rgM I) (h1 : r32 x1) : CV l E A yX11_leaves cX11_leaves 3 3 69 [.ref (eA E 236), .int (i2 x1)] I (V_M_leaves x1 I) := by
  intro Q v
  refine mk_met (own := RX11) (lv0 := [(0, .ref (eA E 236)), (1, .int (i2 x1))]) (by decide) rfl (Nat.le_of_ble_eq_true rfl) rfl (fun p e s m args below meth c0 B hr hk => ?_)
  unfold V_M_leaves at v
  refine r_aload_n B dX11_leaves_0 rfl rfl ?_
  refine r_getR B (C := RX11) (T := TX11) (N := 25) o_236 0 rfl win_X11 (by decide) rfl wf_X11_7 dX11_leaves_1 ?_
  refine r_iconst B dX11_leaves_4 ?_
  refine r_dup2 B dX11_leaves_5 rfl rfl ?_
  refine r_ald B a_237 (by decide) (by decide) dX11_leaves_6 ?_
  refine r_iconst B dX11_leaves_7 ?_
  refine r_isub B dX11_leaves_8 ?_
  obtain ⟨h21, v⟩ := v
  refine r_ast B a_237 (by decide) (by decide) dX11_leaves_9 ?_
  have hI22 : rgM (wrM I 237 0 (I 237 0 - 1)) := rg_wr hI h21
  refine r_iload_n B dX11_leaves_10 rfl rfl ?_
  refine r_istore_n B dX11_leaves_11 rfl (by decide) (lv' := [(2, .int (i2 x1)), (0, .ref (eA E 236)), (1, .int (i2 x1))]) rfl ?_
  refine r_sub [1, 2, 0] rfl ?_
  obtain ⟨f34, v⟩ := v
  refine r_sub [0, 2] rfl ?_
  exact wL_M_leaves_12 B hr hk h1 f34 x1 _ hI22 h1 v
set_option maxHeartbeats 4000000 in
set_option maxRecDepth 100000 in
theorem wJ_M_brings_55 {p : Program} {l : Launch} {e : Env} {s : State} {m : MethodId} {args : Array Value} {below : List Frame} {meth : Method} {c0 : Code} {E : En} {A : Nat → Prop} {x1 : Int} {Q : Mm → Prop}  (B : Bd p (rmm 5 115) s m args c0 cX11_brings 5 RX11 E A 0 0) (hr : meth.sig.returnType = none) (hk : meth.locks = false) (h1 : r32 x1)   : ∀ (x2 : Int) (I : Mm), rgM I → r32 x2 → J_M_brings_55 x1 Q x2 I → WI p l e (rmm 5 115) s m args below meth c0 E A 5 0 0 (qV below E A args s Q) I 55 [(0, .ref (eA E 236)), (2, .int (i2 x2))] [] := by
  intro x2 I hI h2 v
  unfold J_M_brings_55 at v
  refine r_aload_n B dX11_brings_55 rfl rfl ?_
  refine r_getR B (C := RX11) (T := TX11) (N := 25) o_236 0 rfl win_X11 (by decide) rfl wf_X11_7 dX11_brings_56 ?_
  refine r_bipush B dX11_brings_59 (by decide) ?_
  refine r_dup2 B dX11_brings_61 rfl rfl ?_
  refine r_ald B a_237 (by decide) (by decide) dX11_brings_62 ?_
  refine r_iconst B dX11_brings_63 ?_
  refine r_iadd B dX11_brings_64 ?_
  obtain ⟨h25, v⟩ := v
  refine r_ast B a_237 (by decide) (by decide) dX11_brings_65 ?_
  have hI26 : rgM (wrM I 237 14 (I 237 14 + 1)) := rg_wr hI h25
  refine r_aload_n B dX11_brings_66 rfl rfl ?_
  refine r_getR B (C := RX11) (T := TX11) (N := 25) o_236 0 rfl win_X11 (by decide) rfl wf_X11_7 dX11_brings_67 ?_
  refine r_bipush B dX11_brings_70 (by decide) ?_
  refine r_iload_n B dX11_brings_72 rfl rfl ?_
  refine r_iadd B dX11_brings_73 ?_
  refine r_dup2 B dX11_brings_74 rfl rfl ?_
  obtain ⟨h27, v⟩ := v
  refine r_ald B a_237 (by decide) h27 dX11_brings_75 ?_
  refine r_iconst B dX11_brings_76 ?_
  refine r_iadd B dX11_brings_77 ?_
  obtain ⟨h28, v⟩ := v
  obtain ⟨h29, v⟩ := v
  refine r_ast B a_237 (by decide) h28 dX11_brings_78 ?_
  have hI30 : rgM (wrM ((wrM I 237 14 (I 237 14 + 1))) 237 (32 + x2) ((wrM I 237 14 (I 237 14 + 1)) 237 (32 + x2) + 1)) := rg_wr hI26 h29
  exact r_vret B hr hk hI30 v dX11_brings_79
set_option maxHeartbeats 4000000 in
set_option maxRecDepth 100000 in
theorem c_M_brings {l : Launch} {E : En} {A : Nat → Prop} (x1 : Int) (I : Mm)  (hI : rgM I) (h1 : r32 x1) : CV l E A yX11_brings cX11_brings 5 5 115 [.ref (eA E 236), .int (i2 x1)] I (V_M_brings x1 I) := by
  intro Q v
  refine mk_met (own := RX11) (lv0 := [(0, .ref (eA E 236)), (1, .int (i2 x1))]) (by decide) rfl (Nat.le_of_ble_eq_true rfl) rfl (fun p e s m args below meth c0 B hr hk => ?_)
  unfold V_M_brings at v
  refine r_aload_n B dX11_brings_0 rfl rfl ?_
  refine r_getR B (C := RX11) (T := TX11) (N := 25) o_236 0 rfl win_X11 (by decide) rfl wf_X11_7 dX11_brings_1 ?_
  refine r_sipush B dX11_brings_4 (by decide) ?_
  refine r_iconst B dX11_brings_7 ?_
  refine r_iload_n B dX11_brings_8 rfl rfl ?_
  refine r_imul B dX11_brings_9 ?_
  refine r_iadd B dX11_brings_10 ?_
  refine r_iconst B dX11_brings_11 ?_
  refine r_iadd B dX11_brings_12 ?_
  obtain ⟨h21, v⟩ := v
  refine r_ald B a_237 (by decide) h21 dX11_brings_13 ?_
  refine r_name (fun y22 ey22 => ?_)
  have v := v y22 ey22
  have hy22 : r32 y22 := by rw [ey22]; exact (hI _ _)
  refine r_istore_n B dX11_brings_14 rfl (by decide) (lv' := [(2, .int (i2 y22)), (0, .ref (eA E 236)), (1, .int (i2 x1))]) rfl ?_
  refine r_sub [1, 2, 0] rfl ?_
  refine r_aload_n B dX11_brings_15 rfl rfl ?_
  refine r_getR B (C := RX11) (T := TX11) (N := 25) o_236 0 rfl win_X11 (by decide) rfl wf_X11_7 dX11_brings_16 ?_
  refine r_iconst B dX11_brings_19 ?_
  refine r_ald B a_237 (by decide) (by decide) dX11_brings_20 ?_
  refine r_aload_n B dX11_brings_21 rfl rfl ?_
  refine r_getR B (C := RX11) (T := TX11) (N := 25) o_236 0 rfl win_X11 (by decide) rfl wf_X11_7 dX11_brings_22 ?_
  refine r_sipush B dX11_brings_25 (by decide) ?_
  refine r_iconst B dX11_brings_28 ?_
  refine r_iload_n B dX11_brings_29 rfl rfl ?_
  refine r_imul B dX11_brings_30 ?_
  refine r_iadd B dX11_brings_31 ?_
  refine r_iconst B dX11_brings_32 ?_
  refine r_iadd B dX11_brings_33 ?_
  obtain ⟨h23, v⟩ := v
  refine r_ald B a_237 (by decide) h23 dX11_brings_34 ?_
  refine r_iadd B dX11_brings_35 ?_
  refine r_name (fun y24 ey24 => ?_)
  have v := v y24 ey24
  refine r_istore_n B dX11_brings_36 rfl (by decide) (lv' := [(3, .int (i2 y24)), (0, .ref (eA E 236)), (1, .int (i2 x1)), (2, .int (i2 y22))]) rfl ?_
  refine r_sub [1, 2, 3, 0] rfl ?_
  refine r_aload_n B dX11_brings_37 rfl rfl ?_
  refine r_getR B (C := RX11) (T := TX11) (N := 25) o_236 0 rfl win_X11 (by decide) rfl wf_X11_7 dX11_brings_38 ?_
  refine r_iconst B dX11_brings_41 ?_
  refine r_ald B a_237 (by decide) (by decide) dX11_brings_42 ?_
  refine r_sipush B dX11_brings_43 (by decide) ?_
  refine r_icmp_eq B (tgt := 55) dX11_brings_46 (by decide) ((hI _ _)) ((rg_lit (by decide) (by decide))) (fun h => ?_) (fun h => ?_)
  · have v := v.1 h
    refine r_sub [0, 2] rfl ?_
    exact wJ_M_brings_55 B hr hk h1 y22 I hI hy22 v
  · have v := v.2 h
    refine r_iload_n B dX11_brings_49 rfl rfl ?_
    refine r_ldc B (999999999) dX11_brings_50 wc_X11_103 (by decide) ?_
    obtain ⟨h32, v⟩ := v
    refine r_icmp_le B (tgt := 80) dX11_brings_52 (by decide) h32 ((rg_lit (by decide) (by decide))) (fun h => ?_) (fun h => ?_)
    · have v := v.1 h
      refine r_aload_n B dX11_brings_80 rfl rfl ?_
      refine r_iload_n B dX11_brings_81 rfl rfl ?_
      refine r_iload_n B dX11_brings_82 rfl rfl ?_
      refine r_cI B (st := []) (as := [.int (i2 y22), .int (i2 y24)]) (T := TX11) (N := 25) (c_M_comesNew y22 y24 _ hI hy22 h32) v o_236 rfl mw_M_comesNew wl_X11_104 ⟨Nat.le_of_ble_eq_true rfl, Nat.le_of_ble_eq_true rfl⟩ rfl rfl (Nat.le_of_ble_eq_true rfl) dX11_brings_83 (fun z33 I34 hz33 hI34 v => ?_)
      refine r_istore B dX11_brings_86 (by decide) (lv' := [(4, .int (i2 z33)), (0, .ref (eA E 236)), (1, .int (i2 x1)), (2, .int (i2 y22)), (3, .int (i2 y24))]) rfl ?_
      refine r_sub [1, 2, 3, 4, 0] rfl ?_
      exact r_vret B hr hk hI34 v dX11_brings_88
    · have v := v.2 h
      refine r_sub [0, 2] rfl ?_
      exact wJ_M_brings_55 B hr hk h1 y22 I hI hy22 v
set_option maxHeartbeats 4000000 in
set_option maxRecDepth 100000 in
theorem wL_M_takes_138 {p : Program} {l : Launch} {e : Env} {s : State} {m : MethodId} {args : Array Value} {below : List Frame} {meth : Method} {c0 : Code} {E : En} {A : Nat → Prop} {x1 : Int} {Q : Int → Mm → Prop} {K171 : Mm → Prop} (B : Bd p (rmm 6 139) s m args c0 cX11_takes 4 RX11 E A 0 0) (hr : meth.sig.returnType = some .int) (hk : meth.locks = false)  (h1 : r32 x1) (k171 : ∀ (I : Mm), rgM I → K171 I → WI p l e (rmm 6 139) s m args below meth c0 E A 4 0 0 (qI below E A args s Q) I 171 [(0, .ref (eA E 236)), (1, .int (i2 x1))] []) : ∀ (n : Nat) (x2 : Int) (I : Mm), rgM I → r32 x2 → L_M_takes_138 x1 Q K171 n x2 I → WI p l e (rmm 6 139) s m args below meth c0 E A 4 0 0 (qI below E A args s Q) I 138 [(0, .ref (eA E 236)), (1, .int (i2 x1)), (2, .int (i2 x2))] [] := by
  intro n
  induction n with
  | zero => intro x2 I _ _ v; exact absurd v id
  | succ n ih =>
    intro x2 I hI h2 v
    unfold L_M_takes_138 at v
    refine r_iload_n B dX11_takes_138 rfl rfl ?_
    refine r_iconst B dX11_takes_139 ?_
    refine r_icmp_lt B (tgt := 171) dX11_takes_140 (by decide) h2 ((rg_lit (by decide) (by decide))) (fun h => ?_) (fun h => ?_)
    · have v := v.1 h
      refine r_sub [0, 1] rfl ?_
      exact k171 _ hI v
    · have v := v.2 h
      refine r_aload_n B dX11_takes_143 rfl rfl ?_
      refine r_getR B (C := RX11) (T := TX11) (N := 25) o_236 0 rfl win_X11 (by decide) rfl wf_X11_7 dX11_takes_144 ?_
      refine r_sipush B dX11_takes_147 (by decide) ?_
      refine r_iload_n B dX11_takes_150 rfl rfl ?_
      refine r_iadd B dX11_takes_151 ?_
      refine r_aload_n B dX11_takes_152 rfl rfl ?_
      refine r_getR B (C := RX11) (T := TX11) (N := 25) o_236 0 rfl win_X11 (by decide) rfl wf_X11_7 dX11_takes_153 ?_
      refine r_sipush B dX11_takes_156 (by decide) ?_
      refine r_iload_n B dX11_takes_159 rfl rfl ?_
      refine r_iadd B dX11_takes_160 ?_
      refine r_iconst B dX11_takes_161 ?_
      refine r_isub B dX11_takes_162 ?_
      obtain ⟨h40, v⟩ := v
      refine r_ald B a_237 (by decide) h40 dX11_takes_163 ?_
      obtain ⟨h41, v⟩ := v
      refine r_ast B a_237 (by decide) h41 dX11_takes_164 ?_
      have hI42 : rgM (wrM I 237 (180 + x2) (I 237 ((180 + x2) - 4))) := rg_wr hI ((hI _ _))
      refine r_iinc B (q := 2) dX11_takes_165 (by decide) rfl (lv' := [(2, .int (i2 (x2 + (-1)))), (0, .ref (eA E 236)), (1, .int (i2 x1))]) rfl ?_
      refine r_sub [1, 2, 0] rfl ?_
      refine r_goto B (tgt := 138) dX11_takes_168 (by decide) ?_
      obtain ⟨h43, v⟩ := v
      refine r_sub [0, 1, 2] rfl ?_
      exact ih (x2 + (-1)) _ hI42 h43 v
set_option maxHeartbeats 4000000 in
set_option maxRecDepth 100000 in
theorem wL_M_takes_263 {p : Program} {l : Launch} {e : Env} {s : State} {m : MethodId} {args : Array Value} {below : List Frame} {meth : Method} {c0 : Code} {E : En} {A : Nat → Prop} {x1 : Int} {x2 : Int} {Q : Int → Mm → Prop}  (B : Bd p (rmm 6 139) s m args c0 cX11_takes 4 RX11 E A 0 0) (hr : meth.sig.returnType = some .int) (hk : meth.locks = false)  (h1 : r32 x1) (h2 : r32 x2)  : ∀ (n : Nat) (x3 : Int) (I : Mm), rgM I → r32 x3 → L_M_takes_263 x1 x2 Q n x3 I → WI p l e (rmm 6 139) s m args below meth c0 E A 4 0 0 (qI below E A args s Q) I 263 [(0, .ref (eA E 236)), (1, .int (i2 x1)), (2, .int (i2 x2)), (3, .int (i2 x3))] [] := by
  intro n
  induction n with
  | zero => intro x3 I _ _ v; exact absurd v id
  | succ n ih =>
    intro x3 I hI h3 v
    unfold L_M_takes_263 at v
    refine r_iload_n B dX11_takes_263 rfl rfl ?_
    refine r_aload_n B dX11_takes_264 rfl rfl ?_
    refine r_getR B (C := RX11) (T := TX11) (N := 25) o_236 0 rfl win_X11 (by decide) rfl wf_X11_7 dX11_takes_265 ?_
    refine r_iconst B dX11_takes_268 ?_
    refine r_ald B a_237 (by decide) (by decide) dX11_takes_269 ?_
    refine r_icmp_ge B (tgt := 300) dX11_takes_270 (by decide) h3 ((hI _ _)) (fun h => ?_) (fun h => ?_)
    · have v := v.1 h
      refine r_iload_n B dX11_takes_300 rfl rfl ?_
      exact r_iret B hr hk rfl h1 hI v dX11_takes_301
    · have v := v.2 h
      refine r_aload_n B dX11_takes_273 rfl rfl ?_
      refine r_getR B (C := RX11) (T := TX11) (N := 25) o_236 0 rfl win_X11 (by decide) rfl wf_X11_7 dX11_takes_274 ?_
      refine r_sipush B dX11_takes_277 (by decide) ?_
      refine r_iconst B dX11_takes_280 ?_
      refine r_iload_n B dX11_takes_281 rfl rfl ?_
      refine r_imul B dX11_takes_282 ?_
      refine r_iadd B dX11_takes_283 ?_
      obtain ⟨h52, v⟩ := v
      refine r_ald B a_237 (by decide) h52 dX11_takes_284 ?_
      refine r_iload_n B dX11_takes_285 rfl rfl ?_
      refine r_icmp_ne B (tgt := 294) dX11_takes_286 (by decide) ((hI _ _)) h2 (fun h => ?_) (fun h => ?_)
      · have v := v.1 h
        refine r_iinc B (q := 3) dX11_takes_294 (by decide) rfl (lv' := [(3, .int (i2 (x3 + 1))), (0, .ref (eA E 236)), (1, .int (i2 x1)), (2, .int (i2 x2))]) rfl ?_
        refine r_sub [1, 2, 3, 0] rfl ?_
        refine r_goto B (tgt := 263) dX11_takes_297 (by decide) ?_
        obtain ⟨h53, v⟩ := v
        refine r_sub [0, 1, 2, 3] rfl ?_
        exact ih (x3 + 1) _ hI h53 v
      · have v := v.2 h
        refine r_aload_n B dX11_takes_289 rfl rfl ?_
        refine r_iload_n B dX11_takes_290 rfl rfl ?_
        refine r_cV B (st := []) (as := [.int (i2 x3)]) (T := TX11) (N := 25) (c_M_brings x3 _ hI h3) v o_236 rfl mw_M_brings wl_X11_100 ⟨Nat.le_of_ble_eq_true rfl, Nat.le_of_ble_eq_true rfl⟩ rfl rfl (Nat.le_of_ble_eq_true rfl) dX11_takes_291 (fun I54 hI54 v => ?_)
        refine r_iinc B (q := 3) dX11_takes_294 (by decide) rfl (lv' := [(3, .int (i2 (x3 + 1))), (0, .ref (eA E 236)), (1, .int (i2 x1)), (2, .int (i2 x2))]) rfl ?_
        refine r_sub [1, 2, 3, 0] rfl ?_
        refine r_goto B (tgt := 263) dX11_takes_297 (by decide) ?_
        obtain ⟨h55, v⟩ := v
        refine r_sub [0, 1, 2, 3] rfl ?_
        exact ih (x3 + 1) _ hI54 h55 v
set_option maxHeartbeats 4000000 in
set_option maxRecDepth 100000 in
theorem wJ_M_takes_250 {p : Program} {l : Launch} {e : Env} {s : State} {m : MethodId} {args : Array Value} {below : List Frame} {meth : Method} {c0 : Code} {E : En} {A : Nat → Prop}  {Q : Int → Mm → Prop}  (B : Bd p (rmm 6 139) s m args c0 cX11_takes 4 RX11 E A 0 0) (hr : meth.sig.returnType = some .int) (hk : meth.locks = false)    : ∀ (x1 : Int) (t1 : Int) (t2 : Int) (I : Mm), rgM I → r32 x1 → r32 t1 → r32 t2 → J_M_takes_250 Q x1 t1 t2 I → WI p l e (rmm 6 139) s m args below meth c0 E A 4 0 0 (qI below E A args s Q) I 250 [(0, .ref (eA E 236)), (1, .int (i2 x1))] [.int (i2 t2), .int (i2 t1), .ref (eA E 237)] := by
  intro x1 t1 t2 I hI h1 ht1 ht2 v
  unfold J_M_takes_250 at v
  obtain ⟨h49, v⟩ := v
  refine r_ast B a_237 (by decide) h49 dX11_takes_250 ?_
  have hI50 : rgM (wrM I 237 t1 t2) := rg_wr hI ht2
  refine r_aload_n B dX11_takes_251 rfl rfl ?_
  refine r_getI B (C := RX11) (T := TX11) (N := 25) o_236 7 rfl win_X11 (by decide) rfl wf_X11_94 dX11_takes_252 (jj := 7) rfl ?_
  refine r_istore_n B dX11_takes_255 rfl (by decide) (lv' := [(2, .int (i2 ((wrM I 237 t1 t2) 236 7))), (0, .ref (eA E 236)), (1, .int (i2 x1))]) rfl ?_
  refine r_sub [1, 2, 0] rfl ?_
  refine r_aload_n B dX11_takes_256 rfl rfl ?_
  refine r_iconst B dX11_takes_257 ?_
  refine r_cV B (st := []) (as := [.int (i2 0)]) (T := TX11) (N := 25) (c_M_leaves 0 _ hI50 ((rg_lit (by decide) (by decide)))) v o_236 rfl mw_M_leaves wl_X11_97 ⟨Nat.le_of_ble_eq_true rfl, Nat.le_of_ble_eq_true rfl⟩ rfl rfl (Nat.le_of_ble_eq_true rfl) dX11_takes_258 (fun I51 hI51 v => ?_)
  refine r_iconst B dX11_takes_261 ?_
  refine r_istore_n B dX11_takes_262 rfl (by decide) (lv' := [(3, .int (i2 0)), (0, .ref (eA E 236)), (1, .int (i2 x1)), (2, .int (i2 ((wrM I 237 t1 t2) 236 7)))]) rfl ?_
  refine r_sub [1, 2, 3, 0] rfl ?_
  obtain ⟨f56, v⟩ := v
  refine r_sub [0, 1, 2, 3] rfl ?_
  exact wL_M_takes_263 B hr hk h1 ((hI50 _ _)) f56 0 I51 hI51 ((rg_lit (by decide) (by decide))) v
set_option maxHeartbeats 4000000 in
set_option maxRecDepth 100000 in
theorem wJ_M_takes_80 {p : Program} {l : Launch} {e : Env} {s : State} {m : MethodId} {args : Array Value} {below : List Frame} {meth : Method} {c0 : Code} {E : En} {A : Nat → Prop}  {Q : Int → Mm → Prop}  (B : Bd p (rmm 6 139) s m args c0 cX11_takes 4 RX11 E A 0 0) (hr : meth.sig.returnType = some .int) (hk : meth.locks = false)    : ∀ (x1 : Int) (t1 : Int) (t2 : Int) (t3 : Int) (I : Mm), rgM I → r32 x1 → r32 t1 → r32 t2 → r32 t3 → J_M_takes_80 Q x1 t1 t2 t3 I → WI p l e (rmm 6 139) s m args below meth c0 E A 4 0 0 (qI below E A args s Q) I 80 [(0, .ref (eA E 236)), (1, .int (i2 x1))] [.int (i2 t3), .int (i2 t2), .int (i2 t1), .ref (eA E 237)] := by
  intro x1 t1 t2 t3 I hI h1 ht1 ht2 ht3 v
  unfold J_M_takes_80 at v
  refine r_iadd B dX11_takes_80 ?_
  obtain ⟨h28, v⟩ := v
  obtain ⟨h29, v⟩ := v
  refine r_ast B a_237 (by decide) h28 dX11_takes_81 ?_
  have hI30 : rgM (wrM I 237 t1 (t2 + t3)) := rg_wr hI h29
  refine r_aload_n B dX11_takes_82 rfl rfl ?_
  refine r_getR B (C := RX11) (T := TX11) (N := 25) o_236 0 rfl win_X11 (by decide) rfl wf_X11_7 dX11_takes_83 ?_
  refine r_iconst B dX11_takes_86 ?_
  refine r_aload_n B dX11_takes_87 rfl rfl ?_
  refine r_getR B (C := RX11) (T := TX11) (N := 25) o_236 0 rfl win_X11 (by decide) rfl wf_X11_7 dX11_takes_88 ?_
  refine r_sipush B dX11_takes_91 (by decide) ?_
  refine r_ald B a_237 (by decide) (by decide) dX11_takes_94 ?_
  refine r_ast B a_237 (by decide) (by decide) dX11_takes_95 ?_
  have hI31 : rgM (wrM ((wrM I 237 t1 (t2 + t3))) 237 3 ((wrM I 237 t1 (t2 + t3)) 237 780)) := rg_wr hI30 ((hI30 _ _))
  refine r_aload_n B dX11_takes_96 rfl rfl ?_
  refine r_getR B (C := RX11) (T := TX11) (N := 25) o_236 0 rfl win_X11 (by decide) rfl wf_X11_7 dX11_takes_97 ?_
  refine r_bipush B dX11_takes_100 (by decide) ?_
  refine r_dup2 B dX11_takes_102 rfl rfl ?_
  refine r_ald B a_237 (by decide) (by decide) dX11_takes_103 ?_
  refine r_iload_n B dX11_takes_104 rfl rfl ?_
  refine r_iadd B dX11_takes_105 ?_
  obtain ⟨h32, v⟩ := v
  refine r_ast B a_237 (by decide) (by decide) dX11_takes_106 ?_
  have hI33 : rgM (wrM ((wrM ((wrM I 237 t1 (t2 + t3))) 237 3 ((wrM I 237 t1 (t2 + t3)) 237 780))) 237 8 ((wrM ((wrM I 237 t1 (t2 + t3))) 237 3 ((wrM I 237 t1 (t2 + t3)) 237 780)) 237 8 + x1)) := rg_wr hI31 h32
  refine r_aload_n B dX11_takes_107 rfl rfl ?_
  refine r_getR B (C := RX11) (T := TX11) (N := 25) o_236 0 rfl win_X11 (by decide) rfl wf_X11_7 dX11_takes_108 ?_
  refine r_bipush B dX11_takes_111 (by decide) ?_
  refine r_dup2 B dX11_takes_113 rfl rfl ?_
  refine r_ald B a_237 (by decide) (by decide) dX11_takes_114 ?_
  refine r_iconst B dX11_takes_115 ?_
  refine r_iadd B dX11_takes_116 ?_
  obtain ⟨h34, v⟩ := v
  refine r_ast B a_237 (by decide) (by decide) dX11_takes_117 ?_
  have hI35 : rgM (wrM ((wrM ((wrM ((wrM I 237 t1 (t2 + t3))) 237 3 ((wrM I 237 t1 (t2 + t3)) 237 780))) 237 8 ((wrM ((wrM I 237 t1 (t2 + t3))) 237 3 ((wrM I 237 t1 (t2 + t3)) 237 780)) 237 8 + x1))) 237 13 ((wrM ((wrM ((wrM I 237 t1 (t2 + t3))) 237 3 ((wrM I 237 t1 (t2 + t3)) 237 780))) 237 8 ((wrM ((wrM I 237 t1 (t2 + t3))) 237 3 ((wrM I 237 t1 (t2 + t3)) 237 780)) 237 8 + x1)) 237 13 + 1)) := rg_wr hI33 h34
  refine r_aload_n B dX11_takes_118 rfl rfl ?_
  refine r_getR B (C := RX11) (T := TX11) (N := 25) o_236 0 rfl win_X11 (by decide) rfl wf_X11_7 dX11_takes_119 ?_
  refine r_bipush B dX11_takes_122 (by decide) ?_
  refine r_aload_n B dX11_takes_124 rfl rfl ?_
  refine r_getI B (C := RX11) (T := TX11) (N := 25) o_236 7 rfl win_X11 (by decide) rfl wf_X11_94 dX11_takes_125 (jj := 7) rfl ?_
  refine r_iadd B dX11_takes_128 ?_
  refine r_dup2 B dX11_takes_129 rfl rfl ?_
  obtain ⟨h36, v⟩ := v
  refine r_ald B a_237 (by decide) h36 dX11_takes_130 ?_
  refine r_iconst B dX11_takes_131 ?_
  refine r_iadd B dX11_takes_132 ?_
  obtain ⟨h37, v⟩ := v
  obtain ⟨h38, v⟩ := v
  refine r_ast B a_237 (by decide) h37 dX11_takes_133 ?_
  have hI39 : rgM (wrM ((wrM ((wrM ((wrM ((wrM I 237 t1 (t2 + t3))) 237 3 ((wrM I 237 t1 (t2 + t3)) 237 780))) 237 8 ((wrM ((wrM I 237 t1 (t2 + t3))) 237 3 ((wrM I 237 t1 (t2 + t3)) 237 780)) 237 8 + x1))) 237 13 ((wrM ((wrM ((wrM I 237 t1 (t2 + t3))) 237 3 ((wrM I 237 t1 (t2 + t3)) 237 780))) 237 8 ((wrM ((wrM I 237 t1 (t2 + t3))) 237 3 ((wrM I 237 t1 (t2 + t3)) 237 780)) 237 8 + x1)) 237 13 + 1))) 237 (16 + (wrM ((wrM ((wrM ((wrM I 237 t1 (t2 + t3))) 237 3 ((wrM I 237 t1 (t2 + t3)) 237 780))) 237 8 ((wrM ((wrM I 237 t1 (t2 + t3))) 237 3 ((wrM I 237 t1 (t2 + t3)) 237 780)) 237 8 + x1))) 237 13 ((wrM ((wrM ((wrM I 237 t1 (t2 + t3))) 237 3 ((wrM I 237 t1 (t2 + t3)) 237 780))) 237 8 ((wrM ((wrM I 237 t1 (t2 + t3))) 237 3 ((wrM I 237 t1 (t2 + t3)) 237 780)) 237 8 + x1)) 237 13 + 1)) 236 7) ((wrM ((wrM ((wrM ((wrM I 237 t1 (t2 + t3))) 237 3 ((wrM I 237 t1 (t2 + t3)) 237 780))) 237 8 ((wrM ((wrM I 237 t1 (t2 + t3))) 237 3 ((wrM I 237 t1 (t2 + t3)) 237 780)) 237 8 + x1))) 237 13 ((wrM ((wrM ((wrM I 237 t1 (t2 + t3))) 237 3 ((wrM I 237 t1 (t2 + t3)) 237 780))) 237 8 ((wrM ((wrM I 237 t1 (t2 + t3))) 237 3 ((wrM I 237 t1 (t2 + t3)) 237 780)) 237 8 + x1)) 237 13 + 1)) 237 (16 + (wrM ((wrM ((wrM ((wrM I 237 t1 (t2 + t3))) 237 3 ((wrM I 237 t1 (t2 + t3)) 237 780))) 237 8 ((wrM ((wrM I 237 t1 (t2 + t3))) 237 3 ((wrM I 237 t1 (t2 + t3)) 237 780)) 237 8 + x1))) 237 13 ((wrM ((wrM ((wrM I 237 t1 (t2 + t3))) 237 3 ((wrM I 237 t1 (t2 + t3)) 237 780))) 237 8 ((wrM ((wrM I 237 t1 (t2 + t3))) 237 3 ((wrM I 237 t1 (t2 + t3)) 237 780)) 237 8 + x1)) 237 13 + 1)) 236 7) + 1)) := rg_wr hI35 h38
  refine r_sipush B dX11_takes_134 (by decide) ?_
  refine r_istore_n B dX11_takes_137 rfl (by decide) (lv' := [(2, .int (i2 199)), (0, .ref (eA E 236)), (1, .int (i2 x1))]) rfl ?_
  refine r_sub [1, 2, 0] rfl ?_
  obtain ⟨f60, v⟩ := v
  refine r_sub [0, 1, 2] rfl ?_
  refine wL_M_takes_138 B hr hk h1 (fun I44 hI44 v => ?_) f60 199 _ hI39 ((rg_lit (by decide) (by decide))) v
  · refine r_aload_n B dX11_takes_171 rfl rfl ?_
    refine r_getR B (C := RX11) (T := TX11) (N := 25) o_236 0 rfl win_X11 (by decide) rfl wf_X11_7 dX11_takes_172 ?_
    refine r_sipush B dX11_takes_175 (by decide) ?_
    refine r_aload_n B dX11_takes_178 rfl rfl ?_
    refine r_getI B (C := RX11) (T := TX11) (N := 25) o_236 6 rfl win_X11 (by decide) rfl wf_X11_90 dX11_takes_179 (jj := 6) rfl ?_
    refine r_ast B a_237 (by decide) (by decide) dX11_takes_182 ?_
    have hI45 : rgM (wrM I44 237 180 (I44 236 6)) := rg_wr hI44 ((hI44 _ _))
    refine r_aload_n B dX11_takes_183 rfl rfl ?_
    refine r_getR B (C := RX11) (T := TX11) (N := 25) o_236 0 rfl win_X11 (by decide) rfl wf_X11_7 dX11_takes_184 ?_
    refine r_sipush B dX11_takes_187 (by decide) ?_
    refine r_aload_n B dX11_takes_190 rfl rfl ?_
    refine r_getI B (C := RX11) (T := TX11) (N := 25) o_236 7 rfl win_X11 (by decide) rfl wf_X11_94 dX11_takes_191 (jj := 7) rfl ?_
    refine r_ast B a_237 (by decide) (by decide) dX11_takes_194 ?_
    have hI46 : rgM (wrM ((wrM I44 237 180 (I44 236 6))) 237 181 ((wrM I44 237 180 (I44 236 6)) 236 7)) := rg_wr hI45 ((hI45 _ _))
    refine r_aload_n B dX11_takes_195 rfl rfl ?_
    refine r_getR B (C := RX11) (T := TX11) (N := 25) o_236 0 rfl win_X11 (by decide) rfl wf_X11_7 dX11_takes_196 ?_
    refine r_sipush B dX11_takes_199 (by decide) ?_
    refine r_aload_n B dX11_takes_202 rfl rfl ?_
    refine r_getR B (C := RX11) (T := TX11) (N := 25) o_236 0 rfl win_X11 (by decide) rfl wf_X11_7 dX11_takes_203 ?_
    refine r_iconst B dX11_takes_206 ?_
    refine r_ald B a_237 (by decide) (by decide) dX11_takes_207 ?_
    refine r_ast B a_237 (by decide) (by decide) dX11_takes_208 ?_
    have hI47 : rgM (wrM ((wrM ((wrM I44 237 180 (I44 236 6))) 237 181 ((wrM I44 237 180 (I44 236 6)) 236 7))) 237 182 ((wrM ((wrM I44 237 180 (I44 236 6))) 237 181 ((wrM I44 237 180 (I44 236 6)) 236 7)) 237 3)) := rg_wr hI46 ((hI46 _ _))
    refine r_aload_n B dX11_takes_209 rfl rfl ?_
    refine r_getR B (C := RX11) (T := TX11) (N := 25) o_236 0 rfl win_X11 (by decide) rfl wf_X11_7 dX11_takes_210 ?_
    refine r_sipush B dX11_takes_213 (by decide) ?_
    refine r_iload_n B dX11_takes_216 rfl rfl ?_
    refine r_ast B a_237 (by decide) (by decide) dX11_takes_217 ?_
    have hI48 : rgM (wrM ((wrM ((wrM ((wrM I44 237 180 (I44 236 6))) 237 181 ((wrM I44 237 180 (I44 236 6)) 236 7))) 237 182 ((wrM ((wrM I44 237 180 (I44 236 6))) 237 181 ((wrM I44 237 180 (I44 236 6)) 236 7)) 237 3))) 237 183 x1) := rg_wr hI47 h1
    refine r_aload_n B dX11_takes_218 rfl rfl ?_
    refine r_getR B (C := RX11) (T := TX11) (N := 25) o_236 0 rfl win_X11 (by decide) rfl wf_X11_7 dX11_takes_219 ?_
    refine r_bipush B dX11_takes_222 (by decide) ?_
    refine r_aload_n B dX11_takes_224 rfl rfl ?_
    refine r_getR B (C := RX11) (T := TX11) (N := 25) o_236 0 rfl win_X11 (by decide) rfl wf_X11_7 dX11_takes_225 ?_
    refine r_bipush B dX11_takes_228 (by decide) ?_
    refine r_ald B a_237 (by decide) (by decide) dX11_takes_230 ?_
    refine r_bipush B dX11_takes_231 (by decide) ?_
    refine r_icmp_ge B (tgt := 248) dX11_takes_233 (by decide) ((hI48 _ _)) ((rg_lit (by decide) (by decide))) (fun h => ?_) (fun h => ?_)
    · have v := v.1 h
      refine r_bipush B dX11_takes_248 (by decide) ?_
      refine r_sub [0, 1] rfl ?_
      exact wJ_M_takes_250 B hr hk x1 7 50 _ hI48 h1 ((rg_lit (by decide) (by decide))) ((rg_lit (by decide) (by decide))) v
    · have v := v.2 h
      refine r_aload_n B dX11_takes_236 rfl rfl ?_
      refine r_getR B (C := RX11) (T := TX11) (N := 25) o_236 0 rfl win_X11 (by decide) rfl wf_X11_7 dX11_takes_237 ?_
      refine r_bipush B dX11_takes_240 (by decide) ?_
      refine r_ald B a_237 (by decide) (by decide) dX11_takes_242 ?_
      refine r_iconst B dX11_takes_243 ?_
      refine r_iadd B dX11_takes_244 ?_
      refine r_goto B (tgt := 250) dX11_takes_245 (by decide) ?_
      obtain ⟨h58, v⟩ := v
      refine r_sub [0, 1] rfl ?_
      exact wJ_M_takes_250 B hr hk x1 7 ((wrM ((wrM ((wrM ((wrM I44 237 180 (I44 236 6))) 237 181 ((wrM I44 237 180 (I44 236 6)) 236 7))) 237 182 ((wrM ((wrM I44 237 180 (I44 236 6))) 237 181 ((wrM I44 237 180 (I44 236 6)) 236 7)) 237 3))) 237 183 x1) 237 7 + 1) _ hI48 h1 ((rg_lit (by decide) (by decide))) h58 v
set_option maxHeartbeats 4000000 in
set_option maxRecDepth 100000 in
theorem c_M_takes {l : Launch} {E : En} {A : Nat → Prop}  (I : Mm)  (hI : rgM I)  : CI l E A yX11_takes cX11_takes 4 .int 6 139 [.ref (eA E 236)] I (V_M_takes  I) := by
  intro Q v
  refine mk_met (own := RX11) (lv0 := [(0, .ref (eA E 236))]) (by decide) rfl (Nat.le_of_ble_eq_true rfl) rfl (fun p e s m args below meth c0 B hr hk => ?_)
  unfold V_M_takes at v
  refine r_aload_n B dX11_takes_0 rfl rfl ?_
  refine r_cI B (st := []) (as := []) (T := TX11) (N := 25) (c_M_looksNow _ hI ) v o_236 rfl mw_M_looksNow wl_X11_87 ⟨Nat.le_of_ble_eq_true rfl, Nat.le_of_ble_eq_true rfl⟩ rfl rfl (Nat.le_of_ble_eq_true rfl) dX11_takes_1 (fun z21 I22 hz21 hI22 v => ?_)
  refine r_istore_n B dX11_takes_4 rfl (by decide) (lv' := [(1, .int (i2 z21)), (0, .ref (eA E 236))]) rfl ?_
  refine r_sub [1, 0] rfl ?_
  refine r_aload_n B dX11_takes_5 rfl rfl ?_
  refine r_aload_n B dX11_takes_6 rfl rfl ?_
  refine r_getR B (C := RX11) (T := TX11) (N := 25) o_236 0 rfl win_X11 (by decide) rfl wf_X11_7 dX11_takes_7 ?_
  refine r_sipush B dX11_takes_10 (by decide) ?_
  refine r_ald B a_237 (by decide) (by decide) dX11_takes_13 ?_
  refine r_putI B (C := RX11) (T := TX11) (N := 25) o_236 6 rfl win_X11 tyX11 tyX11_ok nmX11 (by decide) rfl rfl rfl wf_X11_90 dX11_takes_14 (jj := 6) rfl ?_
  have hI23 : rgM (wrM I22 236 6 (I22 237 380)) := rg_wr hI22 ((hI22 _ _))
  refine r_aload_n B dX11_takes_17 rfl rfl ?_
  refine r_aload_n B dX11_takes_18 rfl rfl ?_
  refine r_getR B (C := RX11) (T := TX11) (N := 25) o_236 0 rfl win_X11 (by decide) rfl wf_X11_7 dX11_takes_19 ?_
  refine r_sipush B dX11_takes_22 (by decide) ?_
  refine r_ald B a_237 (by decide) (by decide) dX11_takes_25 ?_
  refine r_putI B (C := RX11) (T := TX11) (N := 25) o_236 7 rfl win_X11 tyX11 tyX11_ok nmX11 (by decide) rfl rfl rfl wf_X11_94 dX11_takes_26 (jj := 7) rfl ?_
  have hI24 : rgM (wrM ((wrM I22 236 6 (I22 237 380))) 236 7 ((wrM I22 236 6 (I22 237 380)) 237 580)) := rg_wr hI23 ((hI23 _ _))
  refine r_aload_n B dX11_takes_29 rfl rfl ?_
  refine r_getR B (C := RX11) (T := TX11) (N := 25) o_236 0 rfl win_X11 (by decide) rfl wf_X11_7 dX11_takes_30 ?_
  refine r_bipush B dX11_takes_33 (by decide) ?_
  refine r_dup2 B dX11_takes_35 rfl rfl ?_
  refine r_ald B a_237 (by decide) (by decide) dX11_takes_36 ?_
  refine r_aload_n B dX11_takes_37 rfl rfl ?_
  refine r_getR B (C := RX11) (T := TX11) (N := 25) o_236 0 rfl win_X11 (by decide) rfl wf_X11_7 dX11_takes_38 ?_
  refine r_sipush B dX11_takes_41 (by decide) ?_
  refine r_ald B a_237 (by decide) (by decide) dX11_takes_44 ?_
  refine r_aload_n B dX11_takes_45 rfl rfl ?_
  refine r_getR B (C := RX11) (T := TX11) (N := 25) o_236 0 rfl win_X11 (by decide) rfl wf_X11_7 dX11_takes_46 ?_
  refine r_iconst B dX11_takes_49 ?_
  refine r_ald B a_237 (by decide) (by decide) dX11_takes_50 ?_
  obtain ⟨h25, v⟩ := v
  refine r_idiv B dX11_takes_51 ((hI24 _ _)) ((hI24 _ _)) h25 ?_
  refine r_aload_n B dX11_takes_52 rfl rfl ?_
  refine r_getR B (C := RX11) (T := TX11) (N := 25) o_236 0 rfl win_X11 (by decide) rfl wf_X11_7 dX11_takes_53 ?_
  refine r_iconst B dX11_takes_56 ?_
  refine r_ald B a_237 (by decide) (by decide) dX11_takes_57 ?_
  refine r_aload_n B dX11_takes_58 rfl rfl ?_
  refine r_getR B (C := RX11) (T := TX11) (N := 25) o_236 0 rfl win_X11 (by decide) rfl wf_X11_7 dX11_takes_59 ?_
  refine r_iconst B dX11_takes_62 ?_
  refine r_ald B a_237 (by decide) (by decide) dX11_takes_63 ?_
  obtain ⟨h26, v⟩ := v
  refine r_idiv B dX11_takes_64 ((hI24 _ _)) ((hI24 _ _)) h26 ?_
  refine r_isub B dX11_takes_65 ?_
  refine r_aload_n B dX11_takes_66 rfl rfl ?_
  refine r_getR B (C := RX11) (T := TX11) (N := 25) o_236 0 rfl win_X11 (by decide) rfl wf_X11_7 dX11_takes_67 ?_
  refine r_iconst B dX11_takes_70 ?_
  refine r_ald B a_237 (by decide) (by decide) dX11_takes_71 ?_
  obtain ⟨h27, v⟩ := v
  refine r_icmp_ge B (tgt := 79) dX11_takes_72 (by decide) h27 ((hI24 _ _)) (fun h => ?_) (fun h => ?_)
  · have v := v.1 h
    refine r_iconst B dX11_takes_79 ?_
    refine r_sub [0, 1] rfl ?_
    exact wJ_M_takes_80 B hr hk z21 10 ((wrM ((wrM I22 236 6 (I22 237 380))) 236 7 ((wrM I22 236 6 (I22 237 380)) 237 580)) 237 10) 1 _ hI24 hz21 ((rg_lit (by decide) (by decide))) ((hI24 _ _)) ((rg_lit (by decide) (by decide))) v
  · have v := v.2 h
    refine r_iconst B dX11_takes_75 ?_
    refine r_goto B (tgt := 80) dX11_takes_76 (by decide) ?_
    refine r_sub [0, 1] rfl ?_
    exact wJ_M_takes_80 B hr hk z21 10 ((wrM ((wrM I22 236 6 (I22 237 380))) 236 7 ((wrM I22 236 6 (I22 237 380)) 237 580)) 237 10) 0 _ hI24 hz21 ((rg_lit (by decide) (by decide))) ((hI24 _ _)) ((rg_lit (by decide) (by decide))) v
