theorem str_len : ∀ i : Nat, i < slen.length → slenI i = ((slen.getD i 0 : Nat) : Int) ∧ slen.getD i 0 < 100 := by decide +kernel
theorem str_fact : ∀ i : Nat, i < slen.length → ∀ j : Nat, j < slen.getD i 0 → (sbyt.getD i []).getD j 0 = i2 (sch i (j : Int)) ∧ bAnd (sch i (j : Int)) 255 = sch i (j : Int) ∧ ((i2 (sch i (j : Int))).toUInt32 % 65536).toInt32 = i2 (sch i (j : Int)) ∧ narrow .char (.int (i2 (sch i (j : Int)))) = .int (i2 (sch i (j : Int))) ∧ -2147483648 ≤ sch i (j : Int) ∧ sch i (j : Int) ≤ 2147483647 := by decide +kernel
theorem sch_all : ∀ l ∈ stx, ∀ x ∈ l, (0 : Int) ≤ x ∧ x < 128 := by decide +kernel
theorem sch_rng (i : Nat) (k : Int) : 0 ≤ sch i k ∧ sch i k < 128 := by
  unfold sch
  rw [List.getD_eq_getElem?_getD]
  rcases h : (stx.getD i [])[k.toNat]? with _ | x
  · simp
  · rw [Option.getD_some]
    have h1 : x ∈ stx.getD i [] := List.mem_of_getElem? h
    rw [List.getD_eq_getElem?_getD] at h1
    rcases h2 : stx[i]? with _ | y
    · rw [h2] at h1
      simp at h1
    · rw [h2, Option.getD_some] at h1
      exact sch_all y (List.mem_of_getElem? h2) x h1
theorem rg_sch (i : Nat) (k : Int) : r32 (sch i k) := by
  have h := sch_rng i k
  exact ⟨by omega, by omega⟩
theorem rg_slen {i : Nat} (h : i < slen.length) : r32 (slenI i) := by
  have h1 := str_len i h
  exact ⟨by omega, by omega⟩
abbrev eV (E : En) (i : Nat) : Nat := E.2.2.2.2 i
section RWS
variable {p : Program} {l : Launch} {e : Env} {R : Room} {s : State} {m : MethodId} {args : Array Value} {below : List Frame} {meth : Method} {c : Code} {E : En} {A : Nat → Prop} {nL cn sn : Nat} {Q : State → Prop} {I : Mm} {pc : Nat} {lv lv' : List (Nat × Value)} {st : List Value} {cc : ByteArray} {own : String} {i : Nat}
theorem r_getZ (B : Bd p R s m args c cc nL own E A cn sn) {idx : Nat} (hw : Cond.fieldLink own idx "java/lang/String" "COMPACT_STRINGS" "Z" ∈ TBL) (hd : decode cc pc = .ok (.getstatic idx, 3)) (kk : WI p l e R s m args below meth c E A nL cn sn Q I (pc + 3) lv (.int (i2 1) :: st)) : WI p l e R s m args below meth c E A nL cn sn Q I pc lv st := fun H locs ls hP hS hl =>
  va_gets B.1 B.2.1 B.2.2.2.2.2.2.2.1.2.2.1 hS B.2.2.2.1 (B.2.2.2.2.1 _ hw) (fun _ h => h) hd (by rw [show (1 : Int32) = i2 1 by decide]; exact kk H locs ls hP hS hl)
theorem r_getQ (B : Bd p R s m args c cc nL own E A cn sn) {idx : Nat} (hw : Cond.fieldLink own idx "jdk/internal/util/Preconditions" "SIOOBE_FORMATTER" "Ljava/util/function/BiFunction;" ∈ TBL) (hd : decode cc pc = .ok (.getstatic idx, 3)) (kk : ∀ v : Value, (v = .null ∨ ∃ t : Nat, v = .ref t) → WI p l e R s m args below meth c E A nL cn sn Q I (pc + 3) lv (v :: st)) : WI p l e R s m args below meth c E A nL cn sn Q I pc lv st := fun H locs ls hP hS hl => by
  rcases B.2.2.2.2.2.2.2.1.2.2.2.1 with h | ⟨t, h⟩
  · exact va_gets B.1 B.2.1 h hS B.2.2.2.1 (B.2.2.2.2.1 _ hw) (fun _ h => h) hd (kk _ (Or.inl rfl) H locs ls hP hS hl)
  · exact va_gets B.1 B.2.1 h hS B.2.2.2.1 (B.2.2.2.2.1 _ hw) (fun _ h => h) hd (kk _ (Or.inr ⟨t, rfl⟩) H locs ls hP hS hl)
theorem r_sgetC (B : Bd p R s m args c cc nL own E A cn sn) {idx : Nat} (hi : i < slen.length) (hw : Cond.fieldLink own idx "java/lang/String" "coder" "B" ∈ TBL) (hd : decode cc pc = .ok (.getfield idx, 3)) (kk : WI p l e R s m args below meth c E A nL cn sn Q I (pc + 3) lv (.int (i2 0) :: st)) : WI p l e R s m args below meth c E A nL cn sn Q I pc lv (.ref (eS E i) :: st) := fun H locs ls hP hS hl =>
  vk_getf B.1 B.2.1 (B.2.2.2.2.2.2.2.1.1.1 i hi).2.1 hS B.2.2.2.1 (B.2.2.2.2.1 _ hw) (fun _ h => h) hd (by rw [show (0 : Int32) = i2 0 by decide]; exact kk H locs ls hP hS hl)
theorem r_sgetV (B : Bd p R s m args c cc nL own E A cn sn) {idx : Nat} (hi : i < slen.length) (hw : Cond.fieldLink own idx "java/lang/String" "value" "[B" ∈ TBL) (hd : decode cc pc = .ok (.getfield idx, 3)) (kk : WI p l e R s m args below meth c E A nL cn sn Q I (pc + 3) lv (.ref (eV E i) :: st)) : WI p l e R s m args below meth c E A nL cn sn Q I pc lv (.ref (eS E i) :: st) := fun H locs ls hP hS hl =>
  vk_getf B.1 B.2.1 (B.2.2.2.2.2.2.2.1.1.1 i hi).2.2.1 hS B.2.2.2.1 (B.2.2.2.2.1 _ hw) (fun _ h => h) hd (kk H locs ls hP hS hl)
theorem r_vlen (B : Bd p R s m args c cc nL own E A cn sn) (hi : i < slen.length) (hd : decode cc pc = .ok (.arraylength, 1)) (kk : WI p l e R s m args below meth c E A nL cn sn Q I (pc + 1) lv (.int (i2 (slenI i)) :: st)) : WI p l e R s m args below meth c E A nL cn sn Q I pc lv (.ref (eV E i) :: st) := fun H locs ls hP hS hl =>
  va_tlen B.1 B.2.1 (B.2.2.2.2.2.2.2.1.1.1 i hi).2.2.2 hS (by rw [(str_len i hi).1, i2_nat]; rfl) hd (kk H locs ls hP hS hl)
theorem r_vbyte (B : Bd p R s m args c cc nL own E A cn sn) (hi : i < slen.length) {k : Int} (hk : 0 ≤ k ∧ k < slenI i) (hd : decode cc pc = .ok (.baload, 1)) (kk : WI p l e R s m args below meth c E A nL cn sn Q I (pc + 1) lv (.int (i2 (sch i k)) :: st)) : WI p l e R s m args below meth c E A nL cn sn Q I pc lv (.int (i2 k) :: .ref (eV E i) :: st) := fun H locs ls hP hS hl => by
  have h1 := str_len i hi
  obtain ⟨j, rfl⟩ := nat_of hk.1
  have h2 : j < slen.getD i 0 := by omega
  have h3 := ix_cl (x := (j : Int)) (n := slen.getD i 0) ⟨by omega, by omega⟩ (by omega)
  have h4 : (i2 (j : Int)).toNatClampNeg = j := by omega
  exact va_tb B.1 B.2.1 (B.2.2.2.2.2.2.2.1.1.1 i hi).2.2.2 hS h3.1 (by rw [h4]; exact congrArg Value.int (str_fact i hi j h2).1) hd (kk H locs ls hP hS hl)
theorem r_i2c (B : Bd p R s m args c cc nL own E A cn sn) {x : Int} (hv : ((i2 x).toUInt32 % 65536).toInt32 = i2 x) (hd : decode cc pc = .ok (.i2c, 1)) (k : WI p l e R s m args below meth c E A nL cn sn Q I (pc + 1) lv (.int (i2 x) :: st)) : WI p l e R s m args below meth c E A nL cn sn Q I pc lv (.int (i2 x) :: st) := fun H locs ls hP hS hl => lv_i2c B.1 B.2.1 hd hv (k H locs ls hP hS hl)
/-- a call of a method of a constant String -/
theorem r_strI (B : Bd p R s m args c cc nL own E A cn sn) {y : MethodName} {bytes : ByteArray} {mL n idx fr lo : Nat} {ret : FieldType} {as : List Value} {st0 : List Value} {V : (Int → Mm → Prop) → Prop} {Po : Int → Mm → Prop} (hM : CI l E A y bytes mL ret fr lo (.ref (eS E i) :: as) I V) (v : V Po) (hi : i < slen.length) (hy : y.cls = "java/lang/String") (mw : MWv y bytes mL (some ret) n) (hl : Cond.methodLink own idx y ∈ TBL) (hR : fr + 1 ≤ R.frames ∧ 8 + (mL + 11) + lo ≤ R.locals) (hn : as.length = n) (hst : st0 = as.reverse ++ .ref (eS E i) :: st) (hc : (st.map fun v => v.category).sum ≤ 8) (hd : decode cc pc = .ok (.invokevirtual idx, 3)) (kk : ∀ (r : Int) (I' : Mm), r32 r → rgM I' → Po r I' → WI p l e R s m args below meth c E A nL cn sn Q I' (pc + 3) lv (.int (i2 r) :: st)) : WI p l e R s m args below meth c E A nL cn sn Q I pc lv st0 := fun H locs ls hP hS hv => by
  obtain ⟨m1, m2, m3, m4, m5⟩ := mw
  refine fin_I (va_runV (Ts := TBL) (own := own) (C := y.cls) ⟨B.1, B.2.1, B.2.2.1, B.2.2.2.1, B.2.2.2.2.1⟩ (hM Po v) ⟨cb_of B m4 m3 m5 hl hR, B.2.2.2.2.1 _ m1, B.2.2.2.2.1 _ m2⟩ ⟨PS_blind E A I _, ?_, fun U hU hW => ⟨rfl, ps_of B hP hS U hU hW⟩⟩ rfl hn hv.1 hst (lv_room hc) hd ⟨by have := B.2.2.2.2.2.2.2.2.1; omega, by have := B.2.2.2.2.2.2.2.2.2; omega⟩) hS hv kk
  rw [hy]
  exact vk_recv B.2.2.2.2.2.2.2.1.1 hi hS
end RWS
set_option maxRecDepth 100000 in
theorem c_coder {l : Launch} {E : En} {A : Nat → Prop} (i : Nat) (I : Mm) (hi : i < slen.length) (hI : rgM I) : CI l E A yJ0_coder_7d493 cJ0_coder_7d493 1 .byte 0 0 [.ref (eS E i)] I (fun Q => Q 0 I) := by
  intro Q v
  refine mk_met (own := RJ0) (lv0 := [(0, .ref (eS E i))]) (by decide) rfl (Nat.le_of_ble_eq_true rfl) rfl (fun p e s m args below meth c0 B hr hk => ?_)
  refine r_getZ B wf_J0_38 dJ0_coder_7d493_0 ?_
  refine r_if_eq B (tgt := 13) dJ0_coder_7d493_3 (by decide) (rg_lit (by decide) (by decide)) (fun h => absurd h (by decide)) (fun _ => ?_)
  refine r_aload_n B dJ0_coder_7d493_6 rfl rfl ?_
  refine r_sgetC B hi wf_J0_15 dJ0_coder_7d493_7 ?_
  refine r_goto B (tgt := 14) dJ0_coder_7d493_10 (by decide) ?_
  exact r_iret B hr hk rfl (rg_lit (by decide) (by decide)) hI v dJ0_coder_7d493_14
set_option maxRecDepth 100000 in
theorem c_isLatin1 {l : Launch} {E : En} {A : Nat → Prop} (i : Nat) (I : Mm) (hi : i < slen.length) (hI : rgM I) : CI l E A yJ0_isLatin1_aae02 cJ0_isLatin1_aae02 1 .boolean 0 0 [.ref (eS E i)] I (fun Q => Q 1 I) := by
  intro Q v
  refine mk_met (own := RJ0) (lv0 := [(0, .ref (eS E i))]) (by decide) rfl (Nat.le_of_ble_eq_true rfl) rfl (fun p e s m args below meth c0 B hr hk => ?_)
  refine r_getZ B wf_J0_38 dJ0_isLatin1_aae02_0 ?_
  refine r_if_eq B (tgt := 17) dJ0_isLatin1_aae02_3 (by decide) (rg_lit (by decide) (by decide)) (fun h => absurd h (by decide)) (fun _ => ?_)
  refine r_aload_n B dJ0_isLatin1_aae02_6 rfl rfl ?_
  refine r_sgetC B hi wf_J0_15 dJ0_isLatin1_aae02_7 ?_
  refine r_if_ne B (tgt := 17) dJ0_isLatin1_aae02_10 (by decide) (rg_lit (by decide) (by decide)) (fun h => absurd rfl h) (fun _ => ?_)
  refine r_iconst B dJ0_isLatin1_aae02_13 ?_
  refine r_goto B (tgt := 18) dJ0_isLatin1_aae02_14 (by decide) ?_
  exact r_iret B hr hk rfl (rg_lit (by decide) (by decide)) hI v dJ0_isLatin1_aae02_18
set_option maxRecDepth 100000 in
theorem c_strlen {l : Launch} {E : En} {A : Nat → Prop} (i : Nat) (I : Mm) (hi : i < slen.length) (hI : rgM I) : CI l E A yJ0_length_8abf5 cJ0_length_8abf5 1 .int 1 20 [.ref (eS E i)] I (fun Q => Q (slenI i) I) := by
  intro Q v
  refine mk_met (own := RJ0) (lv0 := [(0, .ref (eS E i))]) (by decide) rfl (Nat.le_of_ble_eq_true rfl) rfl (fun p e s m args below meth c0 B hr hk => ?_)
  refine r_aload_n B dJ0_length_8abf5_0 rfl rfl ?_
  refine r_sgetV B hi wf_J0_9 dJ0_length_8abf5_1 ?_
  refine r_vlen B hi dJ0_length_8abf5_4 ?_
  refine r_aload_n B dJ0_length_8abf5_5 rfl rfl ?_
  refine r_strI B (st := [.int (i2 (slenI i))]) (as := []) (c_coder i I hi hI) (Po := fun r I' => r = 0 ∧ I' = I) ⟨rfl, rfl⟩ hi rfl mw_coder wl_J0_335 ⟨Nat.le_of_ble_eq_true rfl, Nat.le_of_ble_eq_true rfl⟩ rfl rfl (Nat.le_of_ble_eq_true rfl) dJ0_length_8abf5_6 (fun r I' _ hI' q => ?_)
  obtain ⟨rfl, rfl⟩ := q
  refine r_ishr B dJ0_length_8abf5_9 ?_
  have h1 : bShr (slenI i) 0 = slenI i := by
    have h2 : ∀ i : Nat, i < slen.length → bShr (slenI i) 0 = slenI i := by decide +kernel
    exact h2 i hi
  rw [h1]
  exact r_iret B hr hk rfl (rg_slen hi) hI v dJ0_length_8abf5_10
set_option maxRecDepth 100000 in
theorem c_pcheck {l : Launch} {E : En} {A : Nat → Prop} (x y : Int) (w : Value) (hw : w = .null ∨ ∃ t : Nat, w = .ref t) (I : Mm) (hI : rgM I) (hx : r32 x) (hy : r32 y) : CI l E A yJ3_checkIndex_8e157 cJ3_checkIndex_8e157 3 .int 0 0 [.int (i2 x), .int (i2 y), w] I (fun Q => (0 ≤ x ∧ x < y) ∧ Q x I) := by
  intro Q v
  obtain ⟨h0, v⟩ := v
  have hlen : (lg_sl [.int (i2 x), .int (i2 y), w]).length ≤ 3 := by rcases hw with rfl | ⟨t, rfl⟩ <;> exact Nat.le_of_ble_eq_true rfl
  refine mk_met (own := RJ3) (lv0 := [(0, .int (i2 x)), (1, .int (i2 y)), (2, w)]) (by decide) rfl hlen rfl (fun p e s m args below meth c0 B hr hk => ?_)
  refine r_iload_n B dJ3_checkIndex_8e157_0 rfl rfl ?_
  refine r_if_lt B (tgt := 9) dJ3_checkIndex_8e157_1 (by decide) hx (fun h => absurd h (by omega)) (fun _ => ?_)
  refine r_iload_n B dJ3_checkIndex_8e157_4 rfl rfl ?_
  refine r_iload_n B dJ3_checkIndex_8e157_5 rfl rfl ?_
  refine r_icmp_lt B (tgt := 16) dJ3_checkIndex_8e157_6 (by decide) hx hy (fun _ => ?_) (fun h => absurd h (by omega))
  refine r_iload_n B dJ3_checkIndex_8e157_16 rfl rfl ?_
  exact r_iret B hr hk rfl hx hI v dJ3_checkIndex_8e157_17
set_option maxRecDepth 100000 in
theorem c_scheck {l : Launch} {E : En} {A : Nat → Prop} (x y : Int) (I : Mm) (hI : rgM I) (hx : r32 x) (hy : r32 y) : CV l E A yJ0_checkIndex_df160 cJ0_checkIndex_df160 2 1 22 [.int (i2 x), .int (i2 y)] I (fun Q => (0 ≤ x ∧ x < y) ∧ Q I) := by
  intro Q v
  obtain ⟨h0, v⟩ := v
  refine mk_met (own := RJ0) (lv0 := [(0, .int (i2 x)), (1, .int (i2 y))]) (by decide) rfl (Nat.le_of_ble_eq_true rfl) rfl (fun p e s m args below meth c0 B hr hk => ?_)
  refine r_iload_n B dJ0_checkIndex_df160_0 rfl rfl ?_
  refine r_iload_n B dJ0_checkIndex_df160_1 rfl rfl ?_
  refine r_getQ B wf_J0_1053 dJ0_checkIndex_df160_2 (fun w hw => ?_)
  refine r_sI B (st := []) (as := [.int (i2 x), .int (i2 y), w]) (c_pcheck x y w hw I hI hx hy) (Po := fun _ I' => I' = I) ⟨h0, rfl⟩ mw_pcheck wl_J0_1059 ⟨Nat.le_of_ble_eq_true rfl, Nat.le_of_ble_eq_true rfl⟩ rfl rfl (Nat.le_of_ble_eq_true rfl) dJ0_checkIndex_df160_5 (fun r I' _ hI' q => ?_)
  subst q
  refine r_pop B dJ0_checkIndex_df160_8 rfl ?_
  exact r_vret B hr hk hI v dJ0_checkIndex_df160_9
set_option maxRecDepth 100000 in
theorem c_l1chr {l : Launch} {E : En} {A : Nat → Prop} (i : Nat) (k : Int) (I : Mm) (hi : i < slen.length) (hI : rgM I) (hk0 : r32 k) : CI l E A yJ1_charAt_3b067 cJ1_charAt_3b067 2 .char 2 43 [.ref (eV E i), .int (i2 k)] I (fun Q => (0 ≤ k ∧ k < slenI i) ∧ Q (sch i k) I) := by
  intro Q v
  obtain ⟨h0, v⟩ := v
  have h1 := str_len i hi
  obtain ⟨j, rfl⟩ := nat_of h0.1
  have h2 : j < slen.getD i 0 := by omega
  have h3 := str_fact i hi j h2
  refine mk_met (own := RJ1) (lv0 := [(0, .ref (eV E i)), (1, .int (i2 (j : Int)))]) (by decide) rfl (Nat.le_of_ble_eq_true rfl) rfl (fun p e s m args below meth c0 B hr hk => ?_)
  refine r_iload_n B dJ1_charAt_3b067_0 rfl rfl ?_
  refine r_aload_n B dJ1_charAt_3b067_1 rfl rfl ?_
  refine r_vlen B hi dJ1_charAt_3b067_2 ?_
  refine r_sV B (st := []) (as := [.int (i2 (j : Int)), .int (i2 (slenI i))]) (c_scheck (j : Int) (slenI i) I hI hk0 (rg_slen hi)) (Po := fun I' => I' = I) ⟨h0, rfl⟩ mw_scheck wl_J1_9 ⟨Nat.le_of_ble_eq_true rfl, Nat.le_of_ble_eq_true rfl⟩ rfl rfl (Nat.le_of_ble_eq_true rfl) dJ1_charAt_3b067_3 (fun I' hI' q => ?_)
  subst q
  refine r_aload_n B dJ1_charAt_3b067_6 rfl rfl ?_
  refine r_iload_n B dJ1_charAt_3b067_7 rfl rfl ?_
  refine r_vbyte B hi h0 dJ1_charAt_3b067_8 ?_
  refine r_sipush B dJ1_charAt_3b067_9 (by decide) ?_
  refine r_iand B dJ1_charAt_3b067_12 ?_
  rw [h3.2.1]
  refine r_i2c B h3.2.2.1 dJ1_charAt_3b067_13 ?_
  exact r_iret B hr hk h3.2.2.2.1 (rg_sch _ _) hI v dJ1_charAt_3b067_14
set_option maxRecDepth 100000 in
theorem c_strchr {l : Launch} {E : En} {A : Nat → Prop} (i : Nat) (k : Int) (I : Mm) (hi : i < slen.length) (hI : rgM I) (hk0 : r32 k) : CI l E A yJ0_charAt_5068e cJ0_charAt_5068e 2 .char 3 64 [.ref (eS E i), .int (i2 k)] I (fun Q => (0 ≤ k ∧ k < slenI i) ∧ Q (sch i k) I) := by
  intro Q v
  obtain ⟨h0, v⟩ := v
  have h1 := str_len i hi
  have h3 : narrow .char (.int (i2 (sch i k))) = .int (i2 (sch i k)) := by
    obtain ⟨j, rfl⟩ := nat_of h0.1
    exact (str_fact i hi j (by omega)).2.2.2.1
  refine mk_met (own := RJ0) (lv0 := [(0, .ref (eS E i)), (1, .int (i2 k))]) (by decide) rfl (Nat.le_of_ble_eq_true rfl) rfl (fun p e s m args below meth c0 B hr hk => ?_)
  refine r_aload_n B dJ0_charAt_5068e_0 rfl rfl ?_
  refine r_strI B (st := []) (as := []) (c_isLatin1 i I hi hI) (Po := fun r I' => r = 1 ∧ I' = I) ⟨rfl, rfl⟩ hi rfl mw_isLatin1 wl_J0_492 ⟨Nat.le_of_ble_eq_true rfl, Nat.le_of_ble_eq_true rfl⟩ rfl rfl (Nat.le_of_ble_eq_true rfl) dJ0_charAt_5068e_1 (fun r I' _ hI' q => ?_)
  obtain ⟨rfl, rfl⟩ := q
  refine r_if_eq B (tgt := 16) dJ0_charAt_5068e_4 (by decide) (rg_lit (by decide) (by decide)) (fun h => absurd h (by decide)) (fun _ => ?_)
  refine r_aload_n B dJ0_charAt_5068e_7 rfl rfl ?_
  refine r_sgetV B hi wf_J0_9 dJ0_charAt_5068e_8 ?_
  refine r_iload_n B dJ0_charAt_5068e_11 rfl rfl ?_
  refine r_sI B (st := []) (as := [.ref (eV E i), .int (i2 k)]) (c_l1chr i k I' hi hI hk0) (Po := fun r I2 => r = sch i k ∧ I2 = I') ⟨h0, rfl, rfl⟩ mw_l1chr wl_J0_495 ⟨Nat.le_of_ble_eq_true rfl, Nat.le_of_ble_eq_true rfl⟩ rfl rfl (Nat.le_of_ble_eq_true rfl) dJ0_charAt_5068e_12 (fun r I2 _ hI2 q => ?_)
  obtain ⟨rfl, rfl⟩ := q
  exact r_iret B hr hk h3 (rg_sch _ _) hI v dJ0_charAt_5068e_15
section RWT
variable {p : Program} {l : Launch} {e : Env} {R : Room} {s : State} {m : MethodId} {args : Array Value} {below : List Frame} {meth : Method} {c : Code} {E : En} {A : Nat → Prop} {nL cn sn : Nat} {Q : State → Prop} {I : Mm} {pc : Nat} {lv lv' : List (Nat × Value)} {st : List Value} {cc : ByteArray} {own : String} {i : Nat}
theorem r_strlen (B : Bd p R s m args c cc nL own E A cn sn) {idx : Nat} (hi : i < slen.length) (hI : rgM I) (hR : 2 ≤ R.frames ∧ 40 ≤ R.locals) (hc : (st.map fun v => v.category).sum ≤ 8) (hl : Cond.methodLink own idx yJ0_length_8abf5 ∈ TBL) (hd : decode cc pc = .ok (.invokevirtual idx, 3)) (kk : WI p l e R s m args below meth c E A nL cn sn Q I (pc + 3) lv (.int (i2 (slenI i)) :: st)) : WI p l e R s m args below meth c E A nL cn sn Q I pc lv (.ref (eS E i) :: st) := by
  refine r_strI B (st := st) (as := []) (c_strlen i I hi hI) (Po := fun r I' => r = slenI i ∧ I' = I) ⟨rfl, rfl⟩ hi rfl mw_strlen hl ⟨by omega, by omega⟩ rfl rfl hc hd (fun r I' _ hI' q => ?_)
  obtain ⟨rfl, rfl⟩ := q
  exact kk
theorem r_strchr (B : Bd p R s m args c cc nL own E A cn sn) {idx : Nat} {k : Int} (hi : i < slen.length) (hI : rgM I) (hk : r32 k) (h0 : 0 ≤ k ∧ k < slenI i) (hR : 4 ≤ R.frames ∧ 85 ≤ R.locals) (hc : (st.map fun v => v.category).sum ≤ 8) (hl : Cond.methodLink own idx yJ0_charAt_5068e ∈ TBL) (hd : decode cc pc = .ok (.invokevirtual idx, 3)) (kk : WI p l e R s m args below meth c E A nL cn sn Q I (pc + 3) lv (.int (i2 (sch i k)) :: st)) : WI p l e R s m args below meth c E A nL cn sn Q I pc lv (.int (i2 k) :: .ref (eS E i) :: st) := by
  refine r_strI B (st := st) (as := [.int (i2 k)]) (c_strchr i k I hi hI hk) (Po := fun r I' => r = sch i k ∧ I' = I) ⟨h0, rfl, rfl⟩ hi rfl mw_strchr hl ⟨by omega, by omega⟩ rfl rfl hc hd (fun r I' _ hI' q => ?_)
  obtain ⟨rfl, rfl⟩ := q
  exact kk
end RWT
