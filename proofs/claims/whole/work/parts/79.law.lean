def SCR (s : State) (A : Nat → Prop) (b : Nat) (L : Int) (X : Int → Int) : Prop := ∃ (n : Nat) (xs : Nat → Int32), L = (n : Int) ∧ n < 2 ^ 31 ∧ va_X b n xs s s.heap ∧ b < s.heap.size ∧ ¬ A b ∧ ∀ i : Int, 0 ≤ i → i < L → i2 (X i) = xs i.toNat
section RWL
variable {p : Program} {l : Launch} {e : Env} {R : Room} {s : State} {m : MethodId} {args : Array Value} {below : List Frame} {meth : Method} {c : Code} {E : En} {A : Nat → Prop} {nL cn sn : Nat} {Q : State → Prop} {I : Mm} {pc : Nat} {lv lv' : List (Nat × Value)} {st : List Value} {cc : ByteArray} {own : String} {b : Nat} {L : Int} {X : Int → Int}
theorem r_sld (B : Bd p R s m args c cc nL own E A cn sn) (SC : SCR s A b L X) {i : Int} (hi : 0 ≤ i ∧ i < L) (hd : decode cc pc = .ok (.iaload, 1)) (kk : WI p l e R s m args below meth c E A nL cn sn Q I (pc + 1) lv (.int (i2 (X i)) :: st)) : WI p l e R s m args below meth c E A nL cn sn Q I pc lv (.int (i2 i) :: .ref b :: st) := fun H locs ls hP hS hl => by
  obtain ⟨n, xs, rfl, h1, h2, h3, h4, h5⟩ := SC
  have h6 := ix_cl (x := i) (n := n) hi h1
  refine va_sld B.1 B.2.1 h2 h3 h4 hS h6.1 hd ?_
  have h7 := h5 i hi.1 hi.2
  have h8 : (i2 i).toNatClampNeg = i.toNat := by have := h6.2; omega
  rw [h8, ← h7]
  exact kk H locs ls hP hS hl
theorem r_slen (B : Bd p R s m args c cc nL own E A cn sn) (SC : SCR s A b L X) (hd : decode cc pc = .ok (.arraylength, 1)) (kk : WI p l e R s m args below meth c E A nL cn sn Q I (pc + 1) lv (.int (i2 L) :: st)) : WI p l e R s m args below meth c E A nL cn sn Q I pc lv (.ref b :: st) := fun H locs ls hP hS hl => by
  obtain ⟨n, xs, rfl, h1, h2, h3, h4, h5⟩ := SC
  refine va_slen B.1 B.2.1 h2 h3 h4 hS hd ?_
  have h9 := kk H locs ls hP hS hl
  rw [i2_nat] at h9
  exact h9
theorem r_lceq (B : Bd p R s m args c cc nL own E A cn sn) {x y : Int} {off : Int} {tgt : Nat} (hd : decode cc pc = .ok (.lcmp, 1)) (hd2 : decode cc (pc + 1) = .ok (.ifCond .eq off, 3)) (ht : ((pc + 1 : Nat) : Int) + off = (tgt : Int)) (h : x = y) (k : WI p l e R s m args below meth c E A nL cn sn Q I tgt lv st) : WI p l e R s m args below meth c E A nL cn sn Q I pc lv (.long (l2 y) :: .long (l2 x) :: st) := fun H locs ls hP hS hl => W.lcmp B.1 B.2.1 hd (lv_if_eq B.1 B.2.1 hd2 ht (fun _ => k H locs ls hP hS hl) (fun q => absurd ((lg_cmp_eq0 _ _).mpr (by rw [h])) q))
end RWL
set_option maxHeartbeats 4000000 in
set_option maxRecDepth 100000 in
theorem wL_L_law_18 {p : Program} {l : Launch} {e : Env} {s : State} {m : MethodId} {args : Array Value} {below : List Frame} {meth : Method} {c0 : Code} {E : En} {A : Nat → Prop} {cn sn b : Nat} {QQ : State → Prop} {X : Int → Int} {L : Int} {Q : Mm → Prop}  (B : Bd p room_1 s m args c0 cL_law 4 RL E A cn sn) (hr : ∀ (I : Mm) (pc : Nat) (lv : List (Nat × Value)), decode cL_law pc = .ok (.ireturn, 1) → WI p l e room_1 s m args below meth c0 E A 4 cn sn QQ I pc lv [.int (i2 1)]) (hk : True) (hX : ∀ i : Int, r32 (X i)) (hL : r32 L) (SC : SCR s A b L X)   : ∀ (n : Nat) (x3 : Int) (I : Mm), rgM I → r32 x3 → L_L_law_18 X L Q n x3 I → WI p l e room_1 s m args below meth c0 E A 4 cn sn QQ I 18 [(0, .ref b), (1, .ref (eA E 0)), (2, .ref (eA E 236)), (3, .int (i2 x3))] [] := by
  intro n
  induction n with
  | zero => intro x3 I _ _ v; exact absurd v id
  | succ n ih =>
    intro x3 I hI h3 v
    unfold L_L_law_18 at v
    refine r_iload_n B dL_law_18 rfl rfl ?_
    refine r_aload_n B dL_law_19 rfl rfl ?_
    refine r_slen B SC dL_law_20 ?_
    refine r_bipush B dL_law_21 (by decide) ?_
    refine r_isub B dL_law_23 ?_
    obtain ⟨h21, v⟩ := v
    refine r_icmp_gt B (tgt := 1843) dL_law_24 (by decide) h3 h21 (fun h => ?_) (fun h => ?_)
    · have v := v.1 h
      refine r_iconst B dL_law_1843 ?_
      exact hr _ _ _ dL_law_1844
    · have v := v.2 h
      refine r_aload_n B dL_law_27 rfl rfl ?_
      refine r_iload_n B dL_law_28 rfl rfl ?_
      obtain ⟨h22, v⟩ := v
      refine r_sld B SC h22 dL_law_29 ?_
      refine r_bipush B dL_law_30 (by decide) ?_
      refine r_iand B dL_law_32 ?_
      have hsw : bAnd (X x3) 63 = 0 ∨ bAnd (X x3) 63 = 1 ∨ bAnd (X x3) 63 = 2 ∨ bAnd (X x3) 63 = 3 ∨ bAnd (X x3) 63 = 4 ∨ bAnd (X x3) 63 = 5 ∨ bAnd (X x3) 63 = 6 ∨ bAnd (X x3) 63 = 7 ∨ bAnd (X x3) 63 = 8 ∨ bAnd (X x3) 63 = 9 ∨ bAnd (X x3) 63 = 10 ∨ bAnd (X x3) 63 = 11 ∨ bAnd (X x3) 63 = 12 ∨ bAnd (X x3) 63 = 13 ∨ bAnd (X x3) 63 = 14 ∨ bAnd (X x3) 63 = 15 ∨ bAnd (X x3) 63 = 16 ∨ bAnd (X x3) 63 = 17 ∨ bAnd (X x3) 63 = 18 ∨ bAnd (X x3) 63 = 19 ∨ bAnd (X x3) 63 = 20 ∨ bAnd (X x3) 63 = 21 ∨ bAnd (X x3) 63 = 22 ∨ bAnd (X x3) 63 = 23 ∨ bAnd (X x3) 63 = 24 ∨ bAnd (X x3) 63 = 25 ∨ bAnd (X x3) 63 = 26 ∨ bAnd (X x3) 63 = 27 ∨ bAnd (X x3) 63 = 28 ∨ bAnd (X x3) 63 = 29 ∨ bAnd (X x3) 63 = 30 ∨ bAnd (X x3) 63 = 31 ∨ bAnd (X x3) 63 = 32 ∨ bAnd (X x3) 63 = 33 ∨ bAnd (X x3) 63 = 34 ∨ bAnd (X x3) 63 = 35 ∨ bAnd (X x3) 63 = 36 ∨ bAnd (X x3) 63 = 37 ∨ bAnd (X x3) 63 = 38 ∨ bAnd (X x3) 63 = 39 ∨ bAnd (X x3) 63 = 40 ∨ bAnd (X x3) 63 = 41 ∨ bAnd (X x3) 63 = 42 ∨ bAnd (X x3) 63 = 43 ∨ bAnd (X x3) 63 = 44 ∨ bAnd (X x3) 63 = 45 ∨ bAnd (X x3) 63 = 46 ∨ bAnd (X x3) 63 = 47 ∨ bAnd (X x3) 63 = 48 ∨ bAnd (X x3) 63 = 49 ∨ bAnd (X x3) 63 = 50 ∨ bAnd (X x3) 63 = 51 ∨ bAnd (X x3) 63 = 52 ∨ bAnd (X x3) 63 = 53 ∨ (bAnd (X x3) 63 < 0 ∨ 53 < bAnd (X x3) 63) := by omega
      rcases hsw with hcs | hcs | hcs | hcs | hcs | hcs | hcs | hcs | hcs | hcs | hcs | hcs | hcs | hcs | hcs | hcs | hcs | hcs | hcs | hcs | hcs | hcs | hcs | hcs | hcs | hcs | hcs | hcs | hcs | hcs | hcs | hcs | hcs | hcs | hcs | hcs | hcs | hcs | hcs | hcs | hcs | hcs | hcs | hcs | hcs | hcs | hcs | hcs | hcs | hcs | hcs | hcs | hcs | hcs | hcs
      · have v := v.1 hcs
        refine r_tabIn B (tgt := 264) dL_law_33 ((rg_and _ _)) 0 hcs (by decide) (by decide) rfl (by decide) ?_
        refine r_aload_n B dL_law_264 rfl rfl ?_
        refine r_aload_n B dL_law_265 rfl rfl ?_
        refine r_iload_n B dL_law_266 rfl rfl ?_
        refine r_iconst B dL_law_267 ?_
        refine r_iadd B dL_law_268 ?_
        obtain ⟨h23, v⟩ := v
        refine r_sld B SC h23 dL_law_269 ?_
        refine r_aload_n B dL_law_270 rfl rfl ?_
        refine r_iload_n B dL_law_271 rfl rfl ?_
        refine r_iconst B dL_law_272 ?_
        refine r_iadd B dL_law_273 ?_
        obtain ⟨h24, v⟩ := v
        refine r_sld B SC h24 dL_law_274 ?_
        refine r_aload_n B dL_law_275 rfl rfl ?_
        refine r_iload_n B dL_law_276 rfl rfl ?_
        refine r_iconst B dL_law_277 ?_
        refine r_iadd B dL_law_278 ?_
        obtain ⟨h25, v⟩ := v
        refine r_sld B SC h25 dL_law_279 ?_
        refine r_aload_n B dL_law_280 rfl rfl ?_
        refine r_iload_n B dL_law_281 rfl rfl ?_
        refine r_iconst B dL_law_282 ?_
        refine r_iadd B dL_law_283 ?_
        obtain ⟨h26, v⟩ := v
        refine r_sld B SC h26 dL_law_284 ?_
        refine r_aload_n B dL_law_285 rfl rfl ?_
        refine r_iload_n B dL_law_286 rfl rfl ?_
        refine r_iconst B dL_law_287 ?_
        refine r_iadd B dL_law_288 ?_
        obtain ⟨h27, v⟩ := v
        refine r_sld B SC h27 dL_law_289 ?_
        refine r_cI B (st := []) (as := [.int (i2 (X (x3 + 1))), .int (i2 (X (x3 + 2))), .int (i2 (X (x3 + 3))), .int (i2 (X (x3 + 4))), .int (i2 (X (x3 + 5)))]) (T := TX10) (N := 11) (c_X_feed (X (x3 + 1)) (X (x3 + 2)) (X (x3 + 3)) (X (x3 + 4)) (X (x3 + 5)) _ hI ((hX _)) ((hX _)) ((hX _)) ((hX _)) ((hX _))) v o_0 rfl mw_X_feed wl_L_13 ⟨Nat.le_of_ble_eq_true rfl, Nat.le_of_ble_eq_true rfl⟩ rfl rfl (Nat.le_of_ble_eq_true rfl) dL_law_290 (fun z28 I29 hz28 hI29 v => ?_)
        refine r_aload_n B dL_law_293 rfl rfl ?_
        refine r_aload_n B dL_law_294 rfl rfl ?_
        refine r_iload_n B dL_law_295 rfl rfl ?_
        refine r_iconst B dL_law_296 ?_
        refine r_iadd B dL_law_297 ?_
        obtain ⟨h30, v⟩ := v
        refine r_sld B SC h30 dL_law_298 ?_
        refine r_aload_n B dL_law_299 rfl rfl ?_
        refine r_iload_n B dL_law_300 rfl rfl ?_
        refine r_iconst B dL_law_301 ?_
        refine r_iadd B dL_law_302 ?_
        obtain ⟨h31, v⟩ := v
        refine r_sld B SC h31 dL_law_303 ?_
        refine r_aload_n B dL_law_304 rfl rfl ?_
        refine r_iload_n B dL_law_305 rfl rfl ?_
        refine r_iconst B dL_law_306 ?_
        refine r_iadd B dL_law_307 ?_
        obtain ⟨h32, v⟩ := v
        refine r_sld B SC h32 dL_law_308 ?_
        refine r_aload_n B dL_law_309 rfl rfl ?_
        refine r_iload_n B dL_law_310 rfl rfl ?_
        refine r_iconst B dL_law_311 ?_
        refine r_iadd B dL_law_312 ?_
        obtain ⟨h33, v⟩ := v
        refine r_sld B SC h33 dL_law_313 ?_
        refine r_aload_n B dL_law_314 rfl rfl ?_
        refine r_iload_n B dL_law_315 rfl rfl ?_
        refine r_iconst B dL_law_316 ?_
        refine r_iadd B dL_law_317 ?_
        obtain ⟨h34, v⟩ := v
        refine r_sld B SC h34 dL_law_318 ?_
        refine r_cI B (st := [.int (i2 z28)]) (as := [.int (i2 (X (x3 + 1))), .int (i2 (X (x3 + 2))), .int (i2 (X (x3 + 3))), .int (i2 (X (x3 + 4))), .int (i2 (X (x3 + 5)))]) (T := TX11) (N := 25) (c_M_feed (X (x3 + 1)) (X (x3 + 2)) (X (x3 + 3)) (X (x3 + 4)) (X (x3 + 5)) _ hI29 ((hX _)) ((hX _)) ((hX _)) ((hX _)) ((hX _))) v o_236 rfl mw_M_feed wl_L_17 ⟨Nat.le_of_ble_eq_true rfl, Nat.le_of_ble_eq_true rfl⟩ rfl rfl (Nat.le_of_ble_eq_true rfl) dL_law_319 (fun z35 I36 hz35 hI36 v => ?_)
        refine r_icmp_eq B (tgt := 1837) dL_law_322 (by decide) hz28 hz35 (fun h => ?_) (fun h => ?_)
        · have v := v.1 h
          refine r_iinc B (q := 3) dL_law_1837 (by decide) rfl (lv' := [(3, .int (i2 (x3 + 6))), (0, .ref b), (1, .ref (eA E 0)), (2, .ref (eA E 236))]) rfl ?_
          refine r_sub [1, 2, 3, 0] rfl ?_
          refine r_goto B (tgt := 18) dL_law_1840 (by decide) ?_
          obtain ⟨h37, v⟩ := v
          refine r_sub [0, 1, 2, 3] rfl ?_
          exact ih (x3 + 6) _ hI36 h37 v
        · have v := v.2 h
          refine r_iconst B dL_law_325 ?_
          exact absurd v id
      · have v := v.2.1 hcs
        refine r_tabIn B (tgt := 327) dL_law_33 ((rg_and _ _)) 1 hcs (by decide) (by decide) rfl (by decide) ?_
        refine r_aload_n B dL_law_327 rfl rfl ?_
        refine r_aload_n B dL_law_328 rfl rfl ?_
        refine r_iload_n B dL_law_329 rfl rfl ?_
        refine r_iconst B dL_law_330 ?_
        refine r_iadd B dL_law_331 ?_
        obtain ⟨h38, v⟩ := v
        refine r_sld B SC h38 dL_law_332 ?_
        refine r_cI B (st := []) (as := [.int (i2 (X (x3 + 1)))]) (T := TX10) (N := 11) (c_X_end (X (x3 + 1)) _ hI ((hX _))) v o_0 rfl mw_X_end wl_L_18 ⟨Nat.le_of_ble_eq_true rfl, Nat.le_of_ble_eq_true rfl⟩ rfl rfl (Nat.le_of_ble_eq_true rfl) dL_law_333 (fun z39 I40 hz39 hI40 v => ?_)
        refine r_aload_n B dL_law_336 rfl rfl ?_
        refine r_aload_n B dL_law_337 rfl rfl ?_
        refine r_iload_n B dL_law_338 rfl rfl ?_
        refine r_iconst B dL_law_339 ?_
        refine r_iadd B dL_law_340 ?_
        obtain ⟨h41, v⟩ := v
        refine r_sld B SC h41 dL_law_341 ?_
        refine r_cI B (st := [.int (i2 z39)]) (as := [.int (i2 (X (x3 + 1)))]) (T := TX11) (N := 25) (c_M_end (X (x3 + 1)) _ hI40 ((hX _))) v o_236 rfl mw_M_end wl_L_22 ⟨Nat.le_of_ble_eq_true rfl, Nat.le_of_ble_eq_true rfl⟩ rfl rfl (Nat.le_of_ble_eq_true rfl) dL_law_342 (fun z42 I43 hz42 hI43 v => ?_)
        refine r_icmp_eq B (tgt := 1837) dL_law_345 (by decide) hz39 hz42 (fun h => ?_) (fun h => ?_)
        · have v := v.1 h
          refine r_iinc B (q := 3) dL_law_1837 (by decide) rfl (lv' := [(3, .int (i2 (x3 + 6))), (0, .ref b), (1, .ref (eA E 0)), (2, .ref (eA E 236))]) rfl ?_
          refine r_sub [1, 2, 3, 0] rfl ?_
          refine r_goto B (tgt := 18) dL_law_1840 (by decide) ?_
          obtain ⟨h44, v⟩ := v
          refine r_sub [0, 1, 2, 3] rfl ?_
          exact ih (x3 + 6) _ hI43 h44 v
        · have v := v.2 h
          refine r_iconst B dL_law_348 ?_
          exact absurd v id
      · have v := v.2.2.1 hcs
        refine r_tabIn B (tgt := 350) dL_law_33 ((rg_and _ _)) 2 hcs (by decide) (by decide) rfl (by decide) ?_
        refine r_aload_n B dL_law_350 rfl rfl ?_
        refine r_cI B (st := []) (as := []) (T := TX10) (N := 11) (c_X_tell _ hI ) v o_0 rfl mw_X_tell wl_L_23 ⟨Nat.le_of_ble_eq_true rfl, Nat.le_of_ble_eq_true rfl⟩ rfl rfl (Nat.le_of_ble_eq_true rfl) dL_law_351 (fun z45 I46 hz45 hI46 v => ?_)
        refine r_aload_n B dL_law_354 rfl rfl ?_
        refine r_cI B (st := [.int (i2 z45)]) (as := []) (T := TX11) (N := 25) (c_M_tell _ hI46 ) v o_236 rfl mw_M_tell wl_L_27 ⟨Nat.le_of_ble_eq_true rfl, Nat.le_of_ble_eq_true rfl⟩ rfl rfl (Nat.le_of_ble_eq_true rfl) dL_law_355 (fun z47 I48 hz47 hI48 v => ?_)
        refine r_icmp_eq B (tgt := 1837) dL_law_358 (by decide) hz45 hz47 (fun h => ?_) (fun h => ?_)
        · have v := v.1 h
          refine r_iinc B (q := 3) dL_law_1837 (by decide) rfl (lv' := [(3, .int (i2 (x3 + 6))), (0, .ref b), (1, .ref (eA E 0)), (2, .ref (eA E 236))]) rfl ?_
          refine r_sub [1, 2, 3, 0] rfl ?_
          refine r_goto B (tgt := 18) dL_law_1840 (by decide) ?_
          obtain ⟨h49, v⟩ := v
          refine r_sub [0, 1, 2, 3] rfl ?_
          exact ih (x3 + 6) _ hI48 h49 v
        · have v := v.2 h
          refine r_iconst B dL_law_361 ?_
          exact absurd v id
      · have v := v.2.2.2.1 hcs
        refine r_tabIn B (tgt := 363) dL_law_33 ((rg_and _ _)) 3 hcs (by decide) (by decide) rfl (by decide) ?_
        refine r_aload_n B dL_law_363 rfl rfl ?_
        refine r_cI B (st := []) (as := []) (T := TX10) (N := 11) (c_X_name _ hI ) v o_0 rfl mw_X_name wl_L_28 ⟨Nat.le_of_ble_eq_true rfl, Nat.le_of_ble_eq_true rfl⟩ rfl rfl (Nat.le_of_ble_eq_true rfl) dL_law_364 (fun z50 I51 hz50 hI51 v => ?_)
        refine r_aload_n B dL_law_367 rfl rfl ?_
        refine r_cI B (st := [.int (i2 z50)]) (as := []) (T := TX11) (N := 25) (c_M_name _ hI51 ) v o_236 rfl mw_M_name wl_L_31 ⟨Nat.le_of_ble_eq_true rfl, Nat.le_of_ble_eq_true rfl⟩ rfl rfl (Nat.le_of_ble_eq_true rfl) dL_law_368 (fun z52 I53 hz52 hI53 v => ?_)
        refine r_icmp_eq B (tgt := 1837) dL_law_371 (by decide) hz50 hz52 (fun h => ?_) (fun h => ?_)
        · have v := v.1 h
          refine r_iinc B (q := 3) dL_law_1837 (by decide) rfl (lv' := [(3, .int (i2 (x3 + 6))), (0, .ref b), (1, .ref (eA E 0)), (2, .ref (eA E 236))]) rfl ?_
          refine r_sub [1, 2, 3, 0] rfl ?_
          refine r_goto B (tgt := 18) dL_law_1840 (by decide) ?_
          obtain ⟨h54, v⟩ := v
          refine r_sub [0, 1, 2, 3] rfl ?_
          exact ih (x3 + 6) _ hI53 h54 v
        · have v := v.2 h
          refine r_iconst B dL_law_374 ?_
          exact absurd v id
      · have v := v.2.2.2.2.1 hcs
        refine r_tabIn B (tgt := 376) dL_law_33 ((rg_and _ _)) 4 hcs (by decide) (by decide) rfl (by decide) ?_
        refine r_aload_n B dL_law_376 rfl rfl ?_
        refine r_aload_n B dL_law_377 rfl rfl ?_
        refine r_iload_n B dL_law_378 rfl rfl ?_
        refine r_iconst B dL_law_379 ?_
        refine r_iadd B dL_law_380 ?_
        obtain ⟨h55, v⟩ := v
        refine r_sld B SC h55 dL_law_381 ?_
        refine r_aload_n B dL_law_382 rfl rfl ?_
        refine r_iload_n B dL_law_383 rfl rfl ?_
        refine r_iconst B dL_law_384 ?_
        refine r_iadd B dL_law_385 ?_
        obtain ⟨h56, v⟩ := v
        refine r_sld B SC h56 dL_law_386 ?_
        refine r_cI B (st := []) (as := [.int (i2 (X (x3 + 1))), .int (i2 (X (x3 + 2)))]) (T := TX10) (N := 11) (c_X_push (X (x3 + 1)) (X (x3 + 2)) _ hI ((hX _)) ((hX _))) v o_0 rfl mw_X_push wl_L_32 ⟨Nat.le_of_ble_eq_true rfl, Nat.le_of_ble_eq_true rfl⟩ rfl rfl (Nat.le_of_ble_eq_true rfl) dL_law_387 (fun z57 I58 hz57 hI58 v => ?_)
        refine r_aload_n B dL_law_390 rfl rfl ?_
        refine r_aload_n B dL_law_391 rfl rfl ?_
        refine r_iload_n B dL_law_392 rfl rfl ?_
        refine r_iconst B dL_law_393 ?_
        refine r_iadd B dL_law_394 ?_
        obtain ⟨h59, v⟩ := v
        refine r_sld B SC h59 dL_law_395 ?_
        refine r_aload_n B dL_law_396 rfl rfl ?_
        refine r_iload_n B dL_law_397 rfl rfl ?_
        refine r_iconst B dL_law_398 ?_
        refine r_iadd B dL_law_399 ?_
        obtain ⟨h60, v⟩ := v
        refine r_sld B SC h60 dL_law_400 ?_
        refine r_cI B (st := [.int (i2 z57)]) (as := [.int (i2 (X (x3 + 1))), .int (i2 (X (x3 + 2)))]) (T := TX11) (N := 25) (c_M_push (X (x3 + 1)) (X (x3 + 2)) _ hI58 ((hX _)) ((hX _))) v o_236 rfl mw_M_push wl_L_36 ⟨Nat.le_of_ble_eq_true rfl, Nat.le_of_ble_eq_true rfl⟩ rfl rfl (Nat.le_of_ble_eq_true rfl) dL_law_401 (fun z61 I62 hz61 hI62 v => ?_)
        refine r_icmp_eq B (tgt := 1837) dL_law_404 (by decide) hz57 hz61 (fun h => ?_) (fun h => ?_)
        · have v := v.1 h
          refine r_iinc B (q := 3) dL_law_1837 (by decide) rfl (lv' := [(3, .int (i2 (x3 + 6))), (0, .ref b), (1, .ref (eA E 0)), (2, .ref (eA E 236))]) rfl ?_
          refine r_sub [1, 2, 3, 0] rfl ?_
          refine r_goto B (tgt := 18) dL_law_1840 (by decide) ?_
          obtain ⟨h63, v⟩ := v
          refine r_sub [0, 1, 2, 3] rfl ?_
          exact ih (x3 + 6) _ hI62 h63 v
        · have v := v.2 h
          refine r_iconst B dL_law_407 ?_
          exact absurd v id
      · have v := v.2.2.2.2.2.1 hcs
        refine r_tabIn B (tgt := 409) dL_law_33 ((rg_and _ _)) 5 hcs (by decide) (by decide) rfl (by decide) ?_
        refine r_aload_n B dL_law_409 rfl rfl ?_
        refine r_aload_n B dL_law_410 rfl rfl ?_
        refine r_iload_n B dL_law_411 rfl rfl ?_
        refine r_iconst B dL_law_412 ?_
        refine r_iadd B dL_law_413 ?_
        obtain ⟨h64, v⟩ := v
        refine r_sld B SC h64 dL_law_414 ?_
        refine r_cI B (st := []) (as := [.int (i2 (X (x3 + 1)))]) (T := TX10) (N := 11) (c_X_take (X (x3 + 1)) _ hI ((hX _))) v o_0 rfl mw_X_take wl_L_37 ⟨Nat.le_of_ble_eq_true rfl, Nat.le_of_ble_eq_true rfl⟩ rfl rfl (Nat.le_of_ble_eq_true rfl) dL_law_415 (fun z65 I66 hz65 hI66 v => ?_)
        refine r_aload_n B dL_law_418 rfl rfl ?_
        refine r_aload_n B dL_law_419 rfl rfl ?_
        refine r_iload_n B dL_law_420 rfl rfl ?_
        refine r_iconst B dL_law_421 ?_
        refine r_iadd B dL_law_422 ?_
        obtain ⟨h67, v⟩ := v
        refine r_sld B SC h67 dL_law_423 ?_
        refine r_cI B (st := [.int (i2 z65)]) (as := [.int (i2 (X (x3 + 1)))]) (T := TX11) (N := 25) (c_M_take (X (x3 + 1)) _ hI66 ((hX _))) v o_236 rfl mw_M_take wl_L_40 ⟨Nat.le_of_ble_eq_true rfl, Nat.le_of_ble_eq_true rfl⟩ rfl rfl (Nat.le_of_ble_eq_true rfl) dL_law_424 (fun z68 I69 hz68 hI69 v => ?_)
        refine r_icmp_eq B (tgt := 1837) dL_law_427 (by decide) hz65 hz68 (fun h => ?_) (fun h => ?_)
        · have v := v.1 h
          refine r_iinc B (q := 3) dL_law_1837 (by decide) rfl (lv' := [(3, .int (i2 (x3 + 6))), (0, .ref b), (1, .ref (eA E 0)), (2, .ref (eA E 236))]) rfl ?_
          refine r_sub [1, 2, 3, 0] rfl ?_
          refine r_goto B (tgt := 18) dL_law_1840 (by decide) ?_
          obtain ⟨h70, v⟩ := v
          refine r_sub [0, 1, 2, 3] rfl ?_
          exact ih (x3 + 6) _ hI69 h70 v
        · have v := v.2 h
          refine r_iconst B dL_law_430 ?_
          exact absurd v id
      · have v := v.2.2.2.2.2.2.1 hcs
        refine r_tabIn B (tgt := 432) dL_law_33 ((rg_and _ _)) 6 hcs (by decide) (by decide) rfl (by decide) ?_
        refine r_aload_n B dL_law_432 rfl rfl ?_
        refine r_aload_n B dL_law_433 rfl rfl ?_
        refine r_iload_n B dL_law_434 rfl rfl ?_
        refine r_iconst B dL_law_435 ?_
        refine r_iadd B dL_law_436 ?_
        obtain ⟨h71, v⟩ := v
        refine r_sld B SC h71 dL_law_437 ?_
        refine r_cI B (st := []) (as := [.int (i2 (X (x3 + 1)))]) (T := TX10) (N := 11) (c_X_until (X (x3 + 1)) _ hI ((hX _))) v o_0 rfl mw_X_until wl_L_41 ⟨Nat.le_of_ble_eq_true rfl, Nat.le_of_ble_eq_true rfl⟩ rfl rfl (Nat.le_of_ble_eq_true rfl) dL_law_438 (fun z72 I73 hz72 hI73 v => ?_)
        refine r_aload_n B dL_law_441 rfl rfl ?_
        refine r_aload_n B dL_law_442 rfl rfl ?_
        refine r_iload_n B dL_law_443 rfl rfl ?_
        refine r_iconst B dL_law_444 ?_
        refine r_iadd B dL_law_445 ?_
        obtain ⟨h74, v⟩ := v
        refine r_sld B SC h74 dL_law_446 ?_
        refine r_cI B (st := [.int (i2 z72)]) (as := [.int (i2 (X (x3 + 1)))]) (T := TX11) (N := 25) (c_M_until (X (x3 + 1)) _ hI73 ((hX _))) v o_236 rfl mw_M_until wl_L_44 ⟨Nat.le_of_ble_eq_true rfl, Nat.le_of_ble_eq_true rfl⟩ rfl rfl (Nat.le_of_ble_eq_true rfl) dL_law_447 (fun z75 I76 hz75 hI76 v => ?_)
        refine r_icmp_eq B (tgt := 1837) dL_law_450 (by decide) hz72 hz75 (fun h => ?_) (fun h => ?_)
        · have v := v.1 h
          refine r_iinc B (q := 3) dL_law_1837 (by decide) rfl (lv' := [(3, .int (i2 (x3 + 6))), (0, .ref b), (1, .ref (eA E 0)), (2, .ref (eA E 236))]) rfl ?_
          refine r_sub [1, 2, 3, 0] rfl ?_
          refine r_goto B (tgt := 18) dL_law_1840 (by decide) ?_
          obtain ⟨h77, v⟩ := v
          refine r_sub [0, 1, 2, 3] rfl ?_
          exact ih (x3 + 6) _ hI76 h77 v
        · have v := v.2 h
          refine r_iconst B dL_law_453 ?_
          exact absurd v id
      · have v := v.2.2.2.2.2.2.2.1 hcs
        refine r_tabIn B (tgt := 455) dL_law_33 ((rg_and _ _)) 7 hcs (by decide) (by decide) rfl (by decide) ?_
        refine r_aload_n B dL_law_455 rfl rfl ?_
        refine r_aload_n B dL_law_456 rfl rfl ?_
        refine r_iload_n B dL_law_457 rfl rfl ?_
        refine r_iconst B dL_law_458 ?_
        refine r_iadd B dL_law_459 ?_
        obtain ⟨h78, v⟩ := v
        refine r_sld B SC h78 dL_law_460 ?_
        refine r_cI B (st := []) (as := [.int (i2 (X (x3 + 1)))]) (T := TX10) (N := 11) (c_X_cancel (X (x3 + 1)) _ hI ((hX _))) v o_0 rfl mw_X_cancel wl_L_45 ⟨Nat.le_of_ble_eq_true rfl, Nat.le_of_ble_eq_true rfl⟩ rfl rfl (Nat.le_of_ble_eq_true rfl) dL_law_461 (fun z79 I80 hz79 hI80 v => ?_)
        refine r_aload_n B dL_law_464 rfl rfl ?_
        refine r_aload_n B dL_law_465 rfl rfl ?_
        refine r_iload_n B dL_law_466 rfl rfl ?_
        refine r_iconst B dL_law_467 ?_
        refine r_iadd B dL_law_468 ?_
        obtain ⟨h81, v⟩ := v
        refine r_sld B SC h81 dL_law_469 ?_
        refine r_cI B (st := [.int (i2 z79)]) (as := [.int (i2 (X (x3 + 1)))]) (T := TX11) (N := 25) (c_M_cancel (X (x3 + 1)) _ hI80 ((hX _))) v o_236 rfl mw_M_cancel wl_L_48 ⟨Nat.le_of_ble_eq_true rfl, Nat.le_of_ble_eq_true rfl⟩ rfl rfl (Nat.le_of_ble_eq_true rfl) dL_law_470 (fun z82 I83 hz82 hI83 v => ?_)
        refine r_icmp_eq B (tgt := 1837) dL_law_473 (by decide) hz79 hz82 (fun h => ?_) (fun h => ?_)
        · have v := v.1 h
          refine r_iinc B (q := 3) dL_law_1837 (by decide) rfl (lv' := [(3, .int (i2 (x3 + 6))), (0, .ref b), (1, .ref (eA E 0)), (2, .ref (eA E 236))]) rfl ?_
          refine r_sub [1, 2, 3, 0] rfl ?_
          refine r_goto B (tgt := 18) dL_law_1840 (by decide) ?_
          obtain ⟨h84, v⟩ := v
          refine r_sub [0, 1, 2, 3] rfl ?_
          exact ih (x3 + 6) _ hI83 h84 v
        · have v := v.2 h
          refine r_iconst B dL_law_476 ?_
          exact absurd v id
      · have v := v.2.2.2.2.2.2.2.2.1 hcs
        refine r_tabIn B (tgt := 478) dL_law_33 ((rg_and _ _)) 8 hcs (by decide) (by decide) rfl (by decide) ?_
        refine r_aload_n B dL_law_478 rfl rfl ?_
        refine r_aload_n B dL_law_479 rfl rfl ?_
        refine r_iload_n B dL_law_480 rfl rfl ?_
        refine r_iconst B dL_law_481 ?_
        refine r_iadd B dL_law_482 ?_
        obtain ⟨h85, v⟩ := v
        refine r_sld B SC h85 dL_law_483 ?_
        refine r_cI B (st := []) (as := [.int (i2 (X (x3 + 1)))]) (T := TX10) (N := 11) (c_X_clear (X (x3 + 1)) _ hI ((hX _))) v o_0 rfl mw_X_clear wl_L_49 ⟨Nat.le_of_ble_eq_true rfl, Nat.le_of_ble_eq_true rfl⟩ rfl rfl (Nat.le_of_ble_eq_true rfl) dL_law_484 (fun z86 I87 hz86 hI87 v => ?_)
        refine r_aload_n B dL_law_487 rfl rfl ?_
        refine r_aload_n B dL_law_488 rfl rfl ?_
        refine r_iload_n B dL_law_489 rfl rfl ?_
        refine r_iconst B dL_law_490 ?_
        refine r_iadd B dL_law_491 ?_
        obtain ⟨h88, v⟩ := v
        refine r_sld B SC h88 dL_law_492 ?_
        refine r_cI B (st := [.int (i2 z86)]) (as := [.int (i2 (X (x3 + 1)))]) (T := TX11) (N := 25) (c_M_clear (X (x3 + 1)) _ hI87 ((hX _))) v o_236 rfl mw_M_clear wl_L_52 ⟨Nat.le_of_ble_eq_true rfl, Nat.le_of_ble_eq_true rfl⟩ rfl rfl (Nat.le_of_ble_eq_true rfl) dL_law_493 (fun z89 I90 hz89 hI90 v => ?_)
        refine r_icmp_eq B (tgt := 1837) dL_law_496 (by decide) hz86 hz89 (fun h => ?_) (fun h => ?_)
        · have v := v.1 h
          refine r_iinc B (q := 3) dL_law_1837 (by decide) rfl (lv' := [(3, .int (i2 (x3 + 6))), (0, .ref b), (1, .ref (eA E 0)), (2, .ref (eA E 236))]) rfl ?_
          refine r_sub [1, 2, 3, 0] rfl ?_
          refine r_goto B (tgt := 18) dL_law_1840 (by decide) ?_
          obtain ⟨h91, v⟩ := v
          refine r_sub [0, 1, 2, 3] rfl ?_
          exact ih (x3 + 6) _ hI90 h91 v
        · have v := v.2 h
          refine r_iconst B dL_law_499 ?_
          exact absurd v id
      · have v := v.2.2.2.2.2.2.2.2.2.1 hcs
        refine r_tabIn B (tgt := 501) dL_law_33 ((rg_and _ _)) 9 hcs (by decide) (by decide) rfl (by decide) ?_
        refine r_aload_n B dL_law_501 rfl rfl ?_
        refine r_aload_n B dL_law_502 rfl rfl ?_
        refine r_iload_n B dL_law_503 rfl rfl ?_
        refine r_iconst B dL_law_504 ?_
        refine r_iadd B dL_law_505 ?_
        obtain ⟨h92, v⟩ := v
        refine r_sld B SC h92 dL_law_506 ?_
        refine r_aload_n B dL_law_507 rfl rfl ?_
        refine r_iload_n B dL_law_508 rfl rfl ?_
        refine r_iconst B dL_law_509 ?_
        refine r_iadd B dL_law_510 ?_
        obtain ⟨h93, v⟩ := v
        refine r_sld B SC h93 dL_law_511 ?_
        refine r_cI B (st := []) (as := [.int (i2 (X (x3 + 1))), .int (i2 (X (x3 + 2)))]) (T := TX10) (N := 11) (c_X_postpone (X (x3 + 1)) (X (x3 + 2)) _ hI ((hX _)) ((hX _))) v o_0 rfl mw_X_postpone wl_L_53 ⟨Nat.le_of_ble_eq_true rfl, Nat.le_of_ble_eq_true rfl⟩ rfl rfl (Nat.le_of_ble_eq_true rfl) dL_law_512 (fun z94 I95 hz94 hI95 v => ?_)
        refine r_aload_n B dL_law_515 rfl rfl ?_
        refine r_aload_n B dL_law_516 rfl rfl ?_
        refine r_iload_n B dL_law_517 rfl rfl ?_
        refine r_iconst B dL_law_518 ?_
        refine r_iadd B dL_law_519 ?_
        obtain ⟨h96, v⟩ := v
        refine r_sld B SC h96 dL_law_520 ?_
        refine r_aload_n B dL_law_521 rfl rfl ?_
        refine r_iload_n B dL_law_522 rfl rfl ?_
        refine r_iconst B dL_law_523 ?_
        refine r_iadd B dL_law_524 ?_
        obtain ⟨h97, v⟩ := v
        refine r_sld B SC h97 dL_law_525 ?_
        refine r_cI B (st := [.int (i2 z94)]) (as := [.int (i2 (X (x3 + 1))), .int (i2 (X (x3 + 2)))]) (T := TX11) (N := 25) (c_M_postpone (X (x3 + 1)) (X (x3 + 2)) _ hI95 ((hX _)) ((hX _))) v o_236 rfl mw_M_postpone wl_L_56 ⟨Nat.le_of_ble_eq_true rfl, Nat.le_of_ble_eq_true rfl⟩ rfl rfl (Nat.le_of_ble_eq_true rfl) dL_law_526 (fun z98 I99 hz98 hI99 v => ?_)
        refine r_icmp_eq B (tgt := 1837) dL_law_529 (by decide) hz94 hz98 (fun h => ?_) (fun h => ?_)
        · have v := v.1 h
          refine r_iinc B (q := 3) dL_law_1837 (by decide) rfl (lv' := [(3, .int (i2 (x3 + 6))), (0, .ref b), (1, .ref (eA E 0)), (2, .ref (eA E 236))]) rfl ?_
          refine r_sub [1, 2, 3, 0] rfl ?_
          refine r_goto B (tgt := 18) dL_law_1840 (by decide) ?_
          obtain ⟨h100, v⟩ := v
          refine r_sub [0, 1, 2, 3] rfl ?_
          exact ih (x3 + 6) _ hI99 h100 v
        · have v := v.2 h
          refine r_iconst B dL_law_532 ?_
          exact absurd v id
      · have v := v.2.2.2.2.2.2.2.2.2.2.1 hcs
        refine r_tabIn B (tgt := 534) dL_law_33 ((rg_and _ _)) 10 hcs (by decide) (by decide) rfl (by decide) ?_
        refine r_aload_n B dL_law_534 rfl rfl ?_
        refine r_aload_n B dL_law_535 rfl rfl ?_
        refine r_iload_n B dL_law_536 rfl rfl ?_
        refine r_iconst B dL_law_537 ?_
        refine r_iadd B dL_law_538 ?_
        obtain ⟨h101, v⟩ := v
        refine r_sld B SC h101 dL_law_539 ?_
        refine r_aload_n B dL_law_540 rfl rfl ?_
        refine r_iload_n B dL_law_541 rfl rfl ?_
        refine r_iconst B dL_law_542 ?_
        refine r_iadd B dL_law_543 ?_
        obtain ⟨h102, v⟩ := v
        refine r_sld B SC h102 dL_law_544 ?_
        refine r_aload_n B dL_law_545 rfl rfl ?_
        refine r_iload_n B dL_law_546 rfl rfl ?_
        refine r_iconst B dL_law_547 ?_
        refine r_iadd B dL_law_548 ?_
        obtain ⟨h103, v⟩ := v
        refine r_sld B SC h103 dL_law_549 ?_
        refine r_aload_n B dL_law_550 rfl rfl ?_
        refine r_iload_n B dL_law_551 rfl rfl ?_
        refine r_iconst B dL_law_552 ?_
        refine r_iadd B dL_law_553 ?_
        obtain ⟨h104, v⟩ := v
        refine r_sld B SC h104 dL_law_554 ?_
        refine r_cI B (st := []) (as := [.int (i2 (X (x3 + 1))), .int (i2 (X (x3 + 2))), .int (i2 (X (x3 + 3))), .int (i2 (X (x3 + 4)))]) (T := TX10) (N := 11) (c_X_series (X (x3 + 1)) (X (x3 + 2)) (X (x3 + 3)) (X (x3 + 4)) _ hI ((hX _)) ((hX _)) ((hX _)) ((hX _))) v o_0 rfl mw_X_series wl_L_57 ⟨Nat.le_of_ble_eq_true rfl, Nat.le_of_ble_eq_true rfl⟩ rfl rfl (Nat.le_of_ble_eq_true rfl) dL_law_555 (fun z105 I106 hz105 hI106 v => ?_)
        refine r_aload_n B dL_law_558 rfl rfl ?_
        refine r_aload_n B dL_law_559 rfl rfl ?_
        refine r_iload_n B dL_law_560 rfl rfl ?_
        refine r_iconst B dL_law_561 ?_
        refine r_iadd B dL_law_562 ?_
        obtain ⟨h107, v⟩ := v
        refine r_sld B SC h107 dL_law_563 ?_
        refine r_aload_n B dL_law_564 rfl rfl ?_
        refine r_iload_n B dL_law_565 rfl rfl ?_
        refine r_iconst B dL_law_566 ?_
        refine r_iadd B dL_law_567 ?_
        obtain ⟨h108, v⟩ := v
        refine r_sld B SC h108 dL_law_568 ?_
        refine r_aload_n B dL_law_569 rfl rfl ?_
        refine r_iload_n B dL_law_570 rfl rfl ?_
        refine r_iconst B dL_law_571 ?_
        refine r_iadd B dL_law_572 ?_
        obtain ⟨h109, v⟩ := v
        refine r_sld B SC h109 dL_law_573 ?_
        refine r_aload_n B dL_law_574 rfl rfl ?_
        refine r_iload_n B dL_law_575 rfl rfl ?_
        refine r_iconst B dL_law_576 ?_
        refine r_iadd B dL_law_577 ?_
        obtain ⟨h110, v⟩ := v
        refine r_sld B SC h110 dL_law_578 ?_
        refine r_cI B (st := [.int (i2 z105)]) (as := [.int (i2 (X (x3 + 1))), .int (i2 (X (x3 + 2))), .int (i2 (X (x3 + 3))), .int (i2 (X (x3 + 4)))]) (T := TX11) (N := 25) (c_M_series (X (x3 + 1)) (X (x3 + 2)) (X (x3 + 3)) (X (x3 + 4)) _ hI106 ((hX _)) ((hX _)) ((hX _)) ((hX _))) v o_236 rfl mw_M_series wl_L_61 ⟨Nat.le_of_ble_eq_true rfl, Nat.le_of_ble_eq_true rfl⟩ rfl rfl (Nat.le_of_ble_eq_true rfl) dL_law_579 (fun z111 I112 hz111 hI112 v => ?_)
        refine r_icmp_eq B (tgt := 1837) dL_law_582 (by decide) hz105 hz111 (fun h => ?_) (fun h => ?_)
        · have v := v.1 h
          refine r_iinc B (q := 3) dL_law_1837 (by decide) rfl (lv' := [(3, .int (i2 (x3 + 6))), (0, .ref b), (1, .ref (eA E 0)), (2, .ref (eA E 236))]) rfl ?_
          refine r_sub [1, 2, 3, 0] rfl ?_
          refine r_goto B (tgt := 18) dL_law_1840 (by decide) ?_
          obtain ⟨h113, v⟩ := v
          refine r_sub [0, 1, 2, 3] rfl ?_
          exact ih (x3 + 6) _ hI112 h113 v
        · have v := v.2 h
          refine r_iconst B dL_law_585 ?_
          exact absurd v id
      · have v := v.2.2.2.2.2.2.2.2.2.2.2.1 hcs
        refine r_tabIn B (tgt := 587) dL_law_33 ((rg_and _ _)) 11 hcs (by decide) (by decide) rfl (by decide) ?_
        refine r_aload_n B dL_law_587 rfl rfl ?_
        refine r_aload_n B dL_law_588 rfl rfl ?_
        refine r_iload_n B dL_law_589 rfl rfl ?_
        refine r_iconst B dL_law_590 ?_
        refine r_iadd B dL_law_591 ?_
        obtain ⟨h114, v⟩ := v
        refine r_sld B SC h114 dL_law_592 ?_
        refine r_aload_n B dL_law_593 rfl rfl ?_
        refine r_iload_n B dL_law_594 rfl rfl ?_
        refine r_iconst B dL_law_595 ?_
        refine r_iadd B dL_law_596 ?_
        obtain ⟨h115, v⟩ := v
        refine r_sld B SC h115 dL_law_597 ?_
        refine r_cI B (st := []) (as := [.int (i2 (X (x3 + 1))), .int (i2 (X (x3 + 2)))]) (T := TX10) (N := 11) (c_X_shift (X (x3 + 1)) (X (x3 + 2)) _ hI ((hX _)) ((hX _))) v o_0 rfl mw_X_shift wl_L_62 ⟨Nat.le_of_ble_eq_true rfl, Nat.le_of_ble_eq_true rfl⟩ rfl rfl (Nat.le_of_ble_eq_true rfl) dL_law_598 (fun z116 I117 hz116 hI117 v => ?_)
        refine r_aload_n B dL_law_601 rfl rfl ?_
        refine r_aload_n B dL_law_602 rfl rfl ?_
        refine r_iload_n B dL_law_603 rfl rfl ?_
        refine r_iconst B dL_law_604 ?_
        refine r_iadd B dL_law_605 ?_
        obtain ⟨h118, v⟩ := v
        refine r_sld B SC h118 dL_law_606 ?_
        refine r_aload_n B dL_law_607 rfl rfl ?_
        refine r_iload_n B dL_law_608 rfl rfl ?_
        refine r_iconst B dL_law_609 ?_
        refine r_iadd B dL_law_610 ?_
        obtain ⟨h119, v⟩ := v
        refine r_sld B SC h119 dL_law_611 ?_
        refine r_cI B (st := [.int (i2 z116)]) (as := [.int (i2 (X (x3 + 1))), .int (i2 (X (x3 + 2)))]) (T := TX11) (N := 25) (c_M_shift (X (x3 + 1)) (X (x3 + 2)) _ hI117 ((hX _)) ((hX _))) v o_236 rfl mw_M_shift wl_L_65 ⟨Nat.le_of_ble_eq_true rfl, Nat.le_of_ble_eq_true rfl⟩ rfl rfl (Nat.le_of_ble_eq_true rfl) dL_law_612 (fun z120 I121 hz120 hI121 v => ?_)
        refine r_icmp_eq B (tgt := 1837) dL_law_615 (by decide) hz116 hz120 (fun h => ?_) (fun h => ?_)
        · have v := v.1 h
          refine r_iinc B (q := 3) dL_law_1837 (by decide) rfl (lv' := [(3, .int (i2 (x3 + 6))), (0, .ref b), (1, .ref (eA E 0)), (2, .ref (eA E 236))]) rfl ?_
          refine r_sub [1, 2, 3, 0] rfl ?_
          refine r_goto B (tgt := 18) dL_law_1840 (by decide) ?_
          obtain ⟨h122, v⟩ := v
          refine r_sub [0, 1, 2, 3] rfl ?_
          exact ih (x3 + 6) _ hI121 h122 v
        · have v := v.2 h
          refine r_iconst B dL_law_618 ?_
          exact absurd v id
      · have v := v.2.2.2.2.2.2.2.2.2.2.2.2.1 hcs
        refine r_tabIn B (tgt := 620) dL_law_33 ((rg_and _ _)) 12 hcs (by decide) (by decide) rfl (by decide) ?_
        refine r_aload_n B dL_law_620 rfl rfl ?_
        refine r_aload_n B dL_law_621 rfl rfl ?_
        refine r_iload_n B dL_law_622 rfl rfl ?_
        refine r_iconst B dL_law_623 ?_
        refine r_iadd B dL_law_624 ?_
        obtain ⟨h123, v⟩ := v
        refine r_sld B SC h123 dL_law_625 ?_
        refine r_aload_n B dL_law_626 rfl rfl ?_
        refine r_iload_n B dL_law_627 rfl rfl ?_
        refine r_iconst B dL_law_628 ?_
        refine r_iadd B dL_law_629 ?_
        obtain ⟨h124, v⟩ := v
        refine r_sld B SC h124 dL_law_630 ?_
        refine r_cI B (st := []) (as := [.int (i2 (X (x3 + 1))), .int (i2 (X (x3 + 2)))]) (T := TX10) (N := 11) (c_X_merge (X (x3 + 1)) (X (x3 + 2)) _ hI ((hX _)) ((hX _))) v o_0 rfl mw_X_merge wl_L_66 ⟨Nat.le_of_ble_eq_true rfl, Nat.le_of_ble_eq_true rfl⟩ rfl rfl (Nat.le_of_ble_eq_true rfl) dL_law_631 (fun z125 I126 hz125 hI126 v => ?_)
        refine r_aload_n B dL_law_634 rfl rfl ?_
        refine r_aload_n B dL_law_635 rfl rfl ?_
        refine r_iload_n B dL_law_636 rfl rfl ?_
        refine r_iconst B dL_law_637 ?_
        refine r_iadd B dL_law_638 ?_
        obtain ⟨h127, v⟩ := v
        refine r_sld B SC h127 dL_law_639 ?_
        refine r_aload_n B dL_law_640 rfl rfl ?_
        refine r_iload_n B dL_law_641 rfl rfl ?_
        refine r_iconst B dL_law_642 ?_
        refine r_iadd B dL_law_643 ?_
        obtain ⟨h128, v⟩ := v
        refine r_sld B SC h128 dL_law_644 ?_
        refine r_cI B (st := [.int (i2 z125)]) (as := [.int (i2 (X (x3 + 1))), .int (i2 (X (x3 + 2)))]) (T := TX11) (N := 25) (c_M_merge (X (x3 + 1)) (X (x3 + 2)) _ hI126 ((hX _)) ((hX _))) v o_236 rfl mw_M_merge wl_L_69 ⟨Nat.le_of_ble_eq_true rfl, Nat.le_of_ble_eq_true rfl⟩ rfl rfl (Nat.le_of_ble_eq_true rfl) dL_law_645 (fun z129 I130 hz129 hI130 v => ?_)
        refine r_icmp_eq B (tgt := 1837) dL_law_648 (by decide) hz125 hz129 (fun h => ?_) (fun h => ?_)
        · have v := v.1 h
          refine r_iinc B (q := 3) dL_law_1837 (by decide) rfl (lv' := [(3, .int (i2 (x3 + 6))), (0, .ref b), (1, .ref (eA E 0)), (2, .ref (eA E 236))]) rfl ?_
          refine r_sub [1, 2, 3, 0] rfl ?_
          refine r_goto B (tgt := 18) dL_law_1840 (by decide) ?_
          obtain ⟨h131, v⟩ := v
          refine r_sub [0, 1, 2, 3] rfl ?_
          exact ih (x3 + 6) _ hI130 h131 v
        · have v := v.2 h
          refine r_iconst B dL_law_651 ?_
          exact absurd v id
      · have v := v.2.2.2.2.2.2.2.2.2.2.2.2.2.1 hcs
        refine r_tabIn B (tgt := 653) dL_law_33 ((rg_and _ _)) 13 hcs (by decide) (by decide) rfl (by decide) ?_
        refine r_aload_n B dL_law_653 rfl rfl ?_
        refine r_aload_n B dL_law_654 rfl rfl ?_
        refine r_iload_n B dL_law_655 rfl rfl ?_
        refine r_iconst B dL_law_656 ?_
        refine r_iadd B dL_law_657 ?_
        obtain ⟨h132, v⟩ := v
        refine r_sld B SC h132 dL_law_658 ?_
        refine r_cI B (st := []) (as := [.int (i2 (X (x3 + 1)))]) (T := TX10) (N := 11) (c_X_cut (X (x3 + 1)) _ hI ((hX _))) v o_0 rfl mw_X_cut wl_L_70 ⟨Nat.le_of_ble_eq_true rfl, Nat.le_of_ble_eq_true rfl⟩ rfl rfl (Nat.le_of_ble_eq_true rfl) dL_law_659 (fun z133 I134 hz133 hI134 v => ?_)
        refine r_aload_n B dL_law_662 rfl rfl ?_
        refine r_aload_n B dL_law_663 rfl rfl ?_
        refine r_iload_n B dL_law_664 rfl rfl ?_
        refine r_iconst B dL_law_665 ?_
        refine r_iadd B dL_law_666 ?_
        obtain ⟨h135, v⟩ := v
        refine r_sld B SC h135 dL_law_667 ?_
        refine r_cI B (st := [.int (i2 z133)]) (as := [.int (i2 (X (x3 + 1)))]) (T := TX11) (N := 25) (c_M_cut (X (x3 + 1)) _ hI134 ((hX _))) v o_236 rfl mw_M_cut wl_L_73 ⟨Nat.le_of_ble_eq_true rfl, Nat.le_of_ble_eq_true rfl⟩ rfl rfl (Nat.le_of_ble_eq_true rfl) dL_law_668 (fun z136 I137 hz136 hI137 v => ?_)
        refine r_icmp_eq B (tgt := 1837) dL_law_671 (by decide) hz133 hz136 (fun h => ?_) (fun h => ?_)
        · have v := v.1 h
          refine r_iinc B (q := 3) dL_law_1837 (by decide) rfl (lv' := [(3, .int (i2 (x3 + 6))), (0, .ref b), (1, .ref (eA E 0)), (2, .ref (eA E 236))]) rfl ?_
          refine r_sub [1, 2, 3, 0] rfl ?_
          refine r_goto B (tgt := 18) dL_law_1840 (by decide) ?_
          obtain ⟨h138, v⟩ := v
          refine r_sub [0, 1, 2, 3] rfl ?_
          exact ih (x3 + 6) _ hI137 h138 v
        · have v := v.2 h
          refine r_iconst B dL_law_674 ?_
          exact absurd v id
      · have v := v.2.2.2.2.2.2.2.2.2.2.2.2.2.2.1 hcs
        refine r_tabIn B (tgt := 676) dL_law_33 ((rg_and _ _)) 14 hcs (by decide) (by decide) rfl (by decide) ?_
        refine r_aload_n B dL_law_676 rfl rfl ?_
        refine r_aload_n B dL_law_677 rfl rfl ?_
        refine r_iload_n B dL_law_678 rfl rfl ?_
        refine r_iconst B dL_law_679 ?_
        refine r_iadd B dL_law_680 ?_
        obtain ⟨h139, v⟩ := v
        refine r_sld B SC h139 dL_law_681 ?_
        refine r_aload_n B dL_law_682 rfl rfl ?_
        refine r_iload_n B dL_law_683 rfl rfl ?_
        refine r_iconst B dL_law_684 ?_
        refine r_iadd B dL_law_685 ?_
        obtain ⟨h140, v⟩ := v
        refine r_sld B SC h140 dL_law_686 ?_
        refine r_cI B (st := []) (as := [.int (i2 (X (x3 + 1))), .int (i2 (X (x3 + 2)))]) (T := TX10) (N := 11) (c_X_swap (X (x3 + 1)) (X (x3 + 2)) _ hI ((hX _)) ((hX _))) v o_0 rfl mw_X_swap wl_L_74 ⟨Nat.le_of_ble_eq_true rfl, Nat.le_of_ble_eq_true rfl⟩ rfl rfl (Nat.le_of_ble_eq_true rfl) dL_law_687 (fun z141 I142 hz141 hI142 v => ?_)
        refine r_aload_n B dL_law_690 rfl rfl ?_
        refine r_aload_n B dL_law_691 rfl rfl ?_
        refine r_iload_n B dL_law_692 rfl rfl ?_
        refine r_iconst B dL_law_693 ?_
        refine r_iadd B dL_law_694 ?_
        obtain ⟨h143, v⟩ := v
        refine r_sld B SC h143 dL_law_695 ?_
        refine r_aload_n B dL_law_696 rfl rfl ?_
        refine r_iload_n B dL_law_697 rfl rfl ?_
        refine r_iconst B dL_law_698 ?_
        refine r_iadd B dL_law_699 ?_
        obtain ⟨h144, v⟩ := v
        refine r_sld B SC h144 dL_law_700 ?_
        refine r_cI B (st := [.int (i2 z141)]) (as := [.int (i2 (X (x3 + 1))), .int (i2 (X (x3 + 2)))]) (T := TX11) (N := 25) (c_M_swap (X (x3 + 1)) (X (x3 + 2)) _ hI142 ((hX _)) ((hX _))) v o_236 rfl mw_M_swap wl_L_77 ⟨Nat.le_of_ble_eq_true rfl, Nat.le_of_ble_eq_true rfl⟩ rfl rfl (Nat.le_of_ble_eq_true rfl) dL_law_701 (fun z145 I146 hz145 hI146 v => ?_)
        refine r_icmp_eq B (tgt := 1837) dL_law_704 (by decide) hz141 hz145 (fun h => ?_) (fun h => ?_)
        · have v := v.1 h
          refine r_iinc B (q := 3) dL_law_1837 (by decide) rfl (lv' := [(3, .int (i2 (x3 + 6))), (0, .ref b), (1, .ref (eA E 0)), (2, .ref (eA E 236))]) rfl ?_
          refine r_sub [1, 2, 3, 0] rfl ?_
          refine r_goto B (tgt := 18) dL_law_1840 (by decide) ?_
          obtain ⟨h147, v⟩ := v
          refine r_sub [0, 1, 2, 3] rfl ?_
          exact ih (x3 + 6) _ hI146 h147 v
        · have v := v.2 h
          refine r_iconst B dL_law_707 ?_
          exact absurd v id
      · have v := v.2.2.2.2.2.2.2.2.2.2.2.2.2.2.2.1 hcs
        refine r_tabIn B (tgt := 709) dL_law_33 ((rg_and _ _)) 15 hcs (by decide) (by decide) rfl (by decide) ?_
        refine r_aload_n B dL_law_709 rfl rfl ?_
        refine r_aload_n B dL_law_710 rfl rfl ?_
        refine r_iload_n B dL_law_711 rfl rfl ?_
        refine r_iconst B dL_law_712 ?_
        refine r_iadd B dL_law_713 ?_
        obtain ⟨h148, v⟩ := v
        refine r_sld B SC h148 dL_law_714 ?_
        refine r_aload_n B dL_law_715 rfl rfl ?_
        refine r_iload_n B dL_law_716 rfl rfl ?_
        refine r_iconst B dL_law_717 ?_
        refine r_iadd B dL_law_718 ?_
        obtain ⟨h149, v⟩ := v
        refine r_sld B SC h149 dL_law_719 ?_
        refine r_aload_n B dL_law_720 rfl rfl ?_
        refine r_iload_n B dL_law_721 rfl rfl ?_
        refine r_iconst B dL_law_722 ?_
        refine r_iadd B dL_law_723 ?_
        obtain ⟨h150, v⟩ := v
        refine r_sld B SC h150 dL_law_724 ?_
        refine r_cI B (st := []) (as := [.int (i2 (X (x3 + 1))), .int (i2 (X (x3 + 2))), .int (i2 (X (x3 + 3)))]) (T := TX10) (N := 11) (c_X_rule (X (x3 + 1)) (X (x3 + 2)) (X (x3 + 3)) _ hI ((hX _)) ((hX _)) ((hX _))) v o_0 rfl mw_X_rule wl_L_78 ⟨Nat.le_of_ble_eq_true rfl, Nat.le_of_ble_eq_true rfl⟩ rfl rfl (Nat.le_of_ble_eq_true rfl) dL_law_725 (fun z151 I152 hz151 hI152 v => ?_)
        refine r_aload_n B dL_law_728 rfl rfl ?_
        refine r_aload_n B dL_law_729 rfl rfl ?_
        refine r_iload_n B dL_law_730 rfl rfl ?_
        refine r_iconst B dL_law_731 ?_
        refine r_iadd B dL_law_732 ?_
        obtain ⟨h153, v⟩ := v
        refine r_sld B SC h153 dL_law_733 ?_
        refine r_aload_n B dL_law_734 rfl rfl ?_
        refine r_iload_n B dL_law_735 rfl rfl ?_
        refine r_iconst B dL_law_736 ?_
        refine r_iadd B dL_law_737 ?_
        obtain ⟨h154, v⟩ := v
        refine r_sld B SC h154 dL_law_738 ?_
        refine r_aload_n B dL_law_739 rfl rfl ?_
        refine r_iload_n B dL_law_740 rfl rfl ?_
        refine r_iconst B dL_law_741 ?_
        refine r_iadd B dL_law_742 ?_
        obtain ⟨h155, v⟩ := v
        refine r_sld B SC h155 dL_law_743 ?_
        refine r_cI B (st := [.int (i2 z151)]) (as := [.int (i2 (X (x3 + 1))), .int (i2 (X (x3 + 2))), .int (i2 (X (x3 + 3)))]) (T := TX11) (N := 25) (c_M_rule (X (x3 + 1)) (X (x3 + 2)) (X (x3 + 3)) _ hI152 ((hX _)) ((hX _)) ((hX _))) v o_236 rfl mw_M_rule wl_L_82 ⟨Nat.le_of_ble_eq_true rfl, Nat.le_of_ble_eq_true rfl⟩ rfl rfl (Nat.le_of_ble_eq_true rfl) dL_law_744 (fun z156 I157 hz156 hI157 v => ?_)
        refine r_icmp_eq B (tgt := 1837) dL_law_747 (by decide) hz151 hz156 (fun h => ?_) (fun h => ?_)
        · have v := v.1 h
          refine r_iinc B (q := 3) dL_law_1837 (by decide) rfl (lv' := [(3, .int (i2 (x3 + 6))), (0, .ref b), (1, .ref (eA E 0)), (2, .ref (eA E 236))]) rfl ?_
          refine r_sub [1, 2, 3, 0] rfl ?_
          refine r_goto B (tgt := 18) dL_law_1840 (by decide) ?_
          obtain ⟨h158, v⟩ := v
          refine r_sub [0, 1, 2, 3] rfl ?_
          exact ih (x3 + 6) _ hI157 h158 v
        · have v := v.2 h
          refine r_iconst B dL_law_750 ?_
          exact absurd v id
      · have v := v.2.2.2.2.2.2.2.2.2.2.2.2.2.2.2.2.1 hcs
        refine r_tabIn B (tgt := 752) dL_law_33 ((rg_and _ _)) 16 hcs (by decide) (by decide) rfl (by decide) ?_
        refine r_aload_n B dL_law_752 rfl rfl ?_
        refine r_aload_n B dL_law_753 rfl rfl ?_
        refine r_iload_n B dL_law_754 rfl rfl ?_
        refine r_iconst B dL_law_755 ?_
        refine r_iadd B dL_law_756 ?_
        obtain ⟨h159, v⟩ := v
        refine r_sld B SC h159 dL_law_757 ?_
        refine r_cI B (st := []) (as := [.int (i2 (X (x3 + 1)))]) (T := TX10) (N := 11) (c_X_unrule (X (x3 + 1)) _ hI ((hX _))) v o_0 rfl mw_X_unrule wl_L_83 ⟨Nat.le_of_ble_eq_true rfl, Nat.le_of_ble_eq_true rfl⟩ rfl rfl (Nat.le_of_ble_eq_true rfl) dL_law_758 (fun z160 I161 hz160 hI161 v => ?_)
        refine r_aload_n B dL_law_761 rfl rfl ?_
        refine r_aload_n B dL_law_762 rfl rfl ?_
        refine r_iload_n B dL_law_763 rfl rfl ?_
        refine r_iconst B dL_law_764 ?_
        refine r_iadd B dL_law_765 ?_
        obtain ⟨h162, v⟩ := v
        refine r_sld B SC h162 dL_law_766 ?_
        refine r_cI B (st := [.int (i2 z160)]) (as := [.int (i2 (X (x3 + 1)))]) (T := TX11) (N := 25) (c_M_unrule (X (x3 + 1)) _ hI161 ((hX _))) v o_236 rfl mw_M_unrule wl_L_86 ⟨Nat.le_of_ble_eq_true rfl, Nat.le_of_ble_eq_true rfl⟩ rfl rfl (Nat.le_of_ble_eq_true rfl) dL_law_767 (fun z163 I164 hz163 hI164 v => ?_)
        refine r_icmp_eq B (tgt := 1837) dL_law_770 (by decide) hz160 hz163 (fun h => ?_) (fun h => ?_)
        · have v := v.1 h
          refine r_iinc B (q := 3) dL_law_1837 (by decide) rfl (lv' := [(3, .int (i2 (x3 + 6))), (0, .ref b), (1, .ref (eA E 0)), (2, .ref (eA E 236))]) rfl ?_
          refine r_sub [1, 2, 3, 0] rfl ?_
          refine r_goto B (tgt := 18) dL_law_1840 (by decide) ?_
          obtain ⟨h165, v⟩ := v
          refine r_sub [0, 1, 2, 3] rfl ?_
          exact ih (x3 + 6) _ hI164 h165 v
        · have v := v.2 h
          refine r_iconst B dL_law_773 ?_
          exact absurd v id
      · have v := v.2.2.2.2.2.2.2.2.2.2.2.2.2.2.2.2.2.1 hcs
        refine r_tabIn B (tgt := 775) dL_law_33 ((rg_and _ _)) 17 hcs (by decide) (by decide) rfl (by decide) ?_
        refine r_aload_n B dL_law_775 rfl rfl ?_
        refine r_aload_n B dL_law_776 rfl rfl ?_
        refine r_iload_n B dL_law_777 rfl rfl ?_
        refine r_iconst B dL_law_778 ?_
        refine r_iadd B dL_law_779 ?_
        obtain ⟨h166, v⟩ := v
        refine r_sld B SC h166 dL_law_780 ?_
        refine r_aload_n B dL_law_781 rfl rfl ?_
        refine r_iload_n B dL_law_782 rfl rfl ?_
        refine r_iconst B dL_law_783 ?_
        refine r_iadd B dL_law_784 ?_
        obtain ⟨h167, v⟩ := v
        refine r_sld B SC h167 dL_law_785 ?_
        refine r_cI B (st := []) (as := [.int (i2 (X (x3 + 1))), .int (i2 (X (x3 + 2)))]) (T := TX10) (N := 11) (c_X_resize (X (x3 + 1)) (X (x3 + 2)) _ hI ((hX _)) ((hX _))) v o_0 rfl mw_X_resize wl_L_87 ⟨Nat.le_of_ble_eq_true rfl, Nat.le_of_ble_eq_true rfl⟩ rfl rfl (Nat.le_of_ble_eq_true rfl) dL_law_786 (fun z168 I169 hz168 hI169 v => ?_)
        refine r_aload_n B dL_law_789 rfl rfl ?_
        refine r_aload_n B dL_law_790 rfl rfl ?_
        refine r_iload_n B dL_law_791 rfl rfl ?_
        refine r_iconst B dL_law_792 ?_
        refine r_iadd B dL_law_793 ?_
        obtain ⟨h170, v⟩ := v
        refine r_sld B SC h170 dL_law_794 ?_
        refine r_aload_n B dL_law_795 rfl rfl ?_
        refine r_iload_n B dL_law_796 rfl rfl ?_
        refine r_iconst B dL_law_797 ?_
        refine r_iadd B dL_law_798 ?_
        obtain ⟨h171, v⟩ := v
        refine r_sld B SC h171 dL_law_799 ?_
        refine r_cI B (st := [.int (i2 z168)]) (as := [.int (i2 (X (x3 + 1))), .int (i2 (X (x3 + 2)))]) (T := TX11) (N := 25) (c_M_resize (X (x3 + 1)) (X (x3 + 2)) _ hI169 ((hX _)) ((hX _))) v o_236 rfl mw_M_resize wl_L_90 ⟨Nat.le_of_ble_eq_true rfl, Nat.le_of_ble_eq_true rfl⟩ rfl rfl (Nat.le_of_ble_eq_true rfl) dL_law_800 (fun z172 I173 hz172 hI173 v => ?_)
        refine r_icmp_eq B (tgt := 1837) dL_law_803 (by decide) hz168 hz172 (fun h => ?_) (fun h => ?_)
        · have v := v.1 h
          refine r_iinc B (q := 3) dL_law_1837 (by decide) rfl (lv' := [(3, .int (i2 (x3 + 6))), (0, .ref b), (1, .ref (eA E 0)), (2, .ref (eA E 236))]) rfl ?_
          refine r_sub [1, 2, 3, 0] rfl ?_
          refine r_goto B (tgt := 18) dL_law_1840 (by decide) ?_
          obtain ⟨h174, v⟩ := v
          refine r_sub [0, 1, 2, 3] rfl ?_
          exact ih (x3 + 6) _ hI173 h174 v
        · have v := v.2 h
          refine r_iconst B dL_law_806 ?_
          exact absurd v id
      · have v := v.2.2.2.2.2.2.2.2.2.2.2.2.2.2.2.2.2.2.1 hcs
        refine r_tabIn B (tgt := 808) dL_law_33 ((rg_and _ _)) 18 hcs (by decide) (by decide) rfl (by decide) ?_
        refine r_aload_n B dL_law_808 rfl rfl ?_
        refine r_cI B (st := []) (as := []) (T := TX10) (N := 11) (c_X_undo _ hI ) v o_0 rfl mw_X_undo wl_L_91 ⟨Nat.le_of_ble_eq_true rfl, Nat.le_of_ble_eq_true rfl⟩ rfl rfl (Nat.le_of_ble_eq_true rfl) dL_law_809 (fun z175 I176 hz175 hI176 v => ?_)
        refine r_aload_n B dL_law_812 rfl rfl ?_
        refine r_cI B (st := [.int (i2 z175)]) (as := []) (T := TX11) (N := 25) (c_M_undo _ hI176 ) v o_236 rfl mw_M_undo wl_L_94 ⟨Nat.le_of_ble_eq_true rfl, Nat.le_of_ble_eq_true rfl⟩ rfl rfl (Nat.le_of_ble_eq_true rfl) dL_law_813 (fun z177 I178 hz177 hI178 v => ?_)
        refine r_icmp_eq B (tgt := 1837) dL_law_816 (by decide) hz175 hz177 (fun h => ?_) (fun h => ?_)
        · have v := v.1 h
          refine r_iinc B (q := 3) dL_law_1837 (by decide) rfl (lv' := [(3, .int (i2 (x3 + 6))), (0, .ref b), (1, .ref (eA E 0)), (2, .ref (eA E 236))]) rfl ?_
          refine r_sub [1, 2, 3, 0] rfl ?_
          refine r_goto B (tgt := 18) dL_law_1840 (by decide) ?_
          obtain ⟨h179, v⟩ := v
          refine r_sub [0, 1, 2, 3] rfl ?_
          exact ih (x3 + 6) _ hI178 h179 v
        · have v := v.2 h
          refine r_iconst B dL_law_819 ?_
          exact absurd v id
      · have v := v.2.2.2.2.2.2.2.2.2.2.2.2.2.2.2.2.2.2.2.1 hcs
        refine r_tabIn B (tgt := 821) dL_law_33 ((rg_and _ _)) 19 hcs (by decide) (by decide) rfl (by decide) ?_
        refine r_aload_n B dL_law_821 rfl rfl ?_
        refine r_aload_n B dL_law_822 rfl rfl ?_
        refine r_iload_n B dL_law_823 rfl rfl ?_
        refine r_iconst B dL_law_824 ?_
        refine r_iadd B dL_law_825 ?_
        obtain ⟨h180, v⟩ := v
        refine r_sld B SC h180 dL_law_826 ?_
        refine r_cI B (st := []) (as := [.int (i2 (X (x3 + 1)))]) (T := TX10) (N := 11) (c_X_keep (X (x3 + 1)) _ hI ((hX _))) v o_0 rfl mw_X_keep wl_L_95 ⟨Nat.le_of_ble_eq_true rfl, Nat.le_of_ble_eq_true rfl⟩ rfl rfl (Nat.le_of_ble_eq_true rfl) dL_law_827 (fun z181 I182 hz181 hI182 v => ?_)
        refine r_aload_n B dL_law_830 rfl rfl ?_
        refine r_aload_n B dL_law_831 rfl rfl ?_
        refine r_iload_n B dL_law_832 rfl rfl ?_
        refine r_iconst B dL_law_833 ?_
        refine r_iadd B dL_law_834 ?_
        obtain ⟨h183, v⟩ := v
        refine r_sld B SC h183 dL_law_835 ?_
        refine r_cI B (st := [.int (i2 z181)]) (as := [.int (i2 (X (x3 + 1)))]) (T := TX11) (N := 25) (c_M_keep (X (x3 + 1)) _ hI182 ((hX _))) v o_236 rfl mw_M_keep wl_L_98 ⟨Nat.le_of_ble_eq_true rfl, Nat.le_of_ble_eq_true rfl⟩ rfl rfl (Nat.le_of_ble_eq_true rfl) dL_law_836 (fun z184 I185 hz184 hI185 v => ?_)
        refine r_icmp_eq B (tgt := 1837) dL_law_839 (by decide) hz181 hz184 (fun h => ?_) (fun h => ?_)
        · have v := v.1 h
          refine r_iinc B (q := 3) dL_law_1837 (by decide) rfl (lv' := [(3, .int (i2 (x3 + 6))), (0, .ref b), (1, .ref (eA E 0)), (2, .ref (eA E 236))]) rfl ?_
          refine r_sub [1, 2, 3, 0] rfl ?_
          refine r_goto B (tgt := 18) dL_law_1840 (by decide) ?_
          obtain ⟨h186, v⟩ := v
          refine r_sub [0, 1, 2, 3] rfl ?_
          exact ih (x3 + 6) _ hI185 h186 v
        · have v := v.2 h
          refine r_iconst B dL_law_842 ?_
          exact absurd v id
      · have v := v.2.2.2.2.2.2.2.2.2.2.2.2.2.2.2.2.2.2.2.2.1 hcs
        refine r_tabIn B (tgt := 844) dL_law_33 ((rg_and _ _)) 20 hcs (by decide) (by decide) rfl (by decide) ?_
        refine r_aload_n B dL_law_844 rfl rfl ?_
        refine r_aload_n B dL_law_845 rfl rfl ?_
        refine r_iload_n B dL_law_846 rfl rfl ?_
        refine r_iconst B dL_law_847 ?_
        refine r_iadd B dL_law_848 ?_
        obtain ⟨h187, v⟩ := v
        refine r_sld B SC h187 dL_law_849 ?_
        refine r_cI B (st := []) (as := [.int (i2 (X (x3 + 1)))]) (T := TX10) (N := 11) (c_X_back (X (x3 + 1)) _ hI ((hX _))) v o_0 rfl mw_X_back wl_L_99 ⟨Nat.le_of_ble_eq_true rfl, Nat.le_of_ble_eq_true rfl⟩ rfl rfl (Nat.le_of_ble_eq_true rfl) dL_law_850 (fun z188 I189 hz188 hI189 v => ?_)
        refine r_aload_n B dL_law_853 rfl rfl ?_
        refine r_aload_n B dL_law_854 rfl rfl ?_
        refine r_iload_n B dL_law_855 rfl rfl ?_
        refine r_iconst B dL_law_856 ?_
        refine r_iadd B dL_law_857 ?_
        obtain ⟨h190, v⟩ := v
        refine r_sld B SC h190 dL_law_858 ?_
        refine r_cI B (st := [.int (i2 z188)]) (as := [.int (i2 (X (x3 + 1)))]) (T := TX11) (N := 25) (c_M_back (X (x3 + 1)) _ hI189 ((hX _))) v o_236 rfl mw_M_back wl_L_102 ⟨Nat.le_of_ble_eq_true rfl, Nat.le_of_ble_eq_true rfl⟩ rfl rfl (Nat.le_of_ble_eq_true rfl) dL_law_859 (fun z191 I192 hz191 hI192 v => ?_)
        refine r_icmp_eq B (tgt := 1837) dL_law_862 (by decide) hz188 hz191 (fun h => ?_) (fun h => ?_)
        · have v := v.1 h
          refine r_iinc B (q := 3) dL_law_1837 (by decide) rfl (lv' := [(3, .int (i2 (x3 + 6))), (0, .ref b), (1, .ref (eA E 0)), (2, .ref (eA E 236))]) rfl ?_
          refine r_sub [1, 2, 3, 0] rfl ?_
          refine r_goto B (tgt := 18) dL_law_1840 (by decide) ?_
          obtain ⟨h193, v⟩ := v
          refine r_sub [0, 1, 2, 3] rfl ?_
          exact ih (x3 + 6) _ hI192 h193 v
        · have v := v.2 h
          refine r_iconst B dL_law_865 ?_
          exact absurd v id
      · have v := v.2.2.2.2.2.2.2.2.2.2.2.2.2.2.2.2.2.2.2.2.2.1 hcs
        refine r_tabIn B (tgt := 867) dL_law_33 ((rg_and _ _)) 21 hcs (by decide) (by decide) rfl (by decide) ?_
        refine r_aload_n B dL_law_867 rfl rfl ?_
        refine r_aload_n B dL_law_868 rfl rfl ?_
        refine r_iload_n B dL_law_869 rfl rfl ?_
        refine r_iconst B dL_law_870 ?_
        refine r_iadd B dL_law_871 ?_
        obtain ⟨h194, v⟩ := v
        refine r_sld B SC h194 dL_law_872 ?_
        refine r_aload_n B dL_law_873 rfl rfl ?_
        refine r_iload_n B dL_law_874 rfl rfl ?_
        refine r_iconst B dL_law_875 ?_
        refine r_iadd B dL_law_876 ?_
        obtain ⟨h195, v⟩ := v
        refine r_sld B SC h195 dL_law_877 ?_
        refine r_cI B (st := []) (as := [.int (i2 (X (x3 + 1))), .int (i2 (X (x3 + 2)))]) (T := TX10) (N := 11) (c_X_next (X (x3 + 1)) (X (x3 + 2)) _ hI ((hX _)) ((hX _))) v o_0 rfl mw_X_next wl_L_103 ⟨Nat.le_of_ble_eq_true rfl, Nat.le_of_ble_eq_true rfl⟩ rfl rfl (Nat.le_of_ble_eq_true rfl) dL_law_878 (fun z196 I197 hz196 hI197 v => ?_)
        refine r_aload_n B dL_law_881 rfl rfl ?_
        refine r_aload_n B dL_law_882 rfl rfl ?_
        refine r_iload_n B dL_law_883 rfl rfl ?_
        refine r_iconst B dL_law_884 ?_
        refine r_iadd B dL_law_885 ?_
        obtain ⟨h198, v⟩ := v
        refine r_sld B SC h198 dL_law_886 ?_
        refine r_aload_n B dL_law_887 rfl rfl ?_
        refine r_iload_n B dL_law_888 rfl rfl ?_
        refine r_iconst B dL_law_889 ?_
        refine r_iadd B dL_law_890 ?_
        obtain ⟨h199, v⟩ := v
        refine r_sld B SC h199 dL_law_891 ?_
        refine r_cI B (st := [.int (i2 z196)]) (as := [.int (i2 (X (x3 + 1))), .int (i2 (X (x3 + 2)))]) (T := TX11) (N := 25) (c_M_next (X (x3 + 1)) (X (x3 + 2)) _ hI197 ((hX _)) ((hX _))) v o_236 rfl mw_M_next wl_L_106 ⟨Nat.le_of_ble_eq_true rfl, Nat.le_of_ble_eq_true rfl⟩ rfl rfl (Nat.le_of_ble_eq_true rfl) dL_law_892 (fun z200 I201 hz200 hI201 v => ?_)
        refine r_icmp_eq B (tgt := 1837) dL_law_895 (by decide) hz196 hz200 (fun h => ?_) (fun h => ?_)
        · have v := v.1 h
          refine r_iinc B (q := 3) dL_law_1837 (by decide) rfl (lv' := [(3, .int (i2 (x3 + 6))), (0, .ref b), (1, .ref (eA E 0)), (2, .ref (eA E 236))]) rfl ?_
          refine r_sub [1, 2, 3, 0] rfl ?_
          refine r_goto B (tgt := 18) dL_law_1840 (by decide) ?_
          obtain ⟨h202, v⟩ := v
          refine r_sub [0, 1, 2, 3] rfl ?_
          exact ih (x3 + 6) _ hI201 h202 v
        · have v := v.2 h
          refine r_iconst B dL_law_898 ?_
          exact absurd v id
      · have v := v.2.2.2.2.2.2.2.2.2.2.2.2.2.2.2.2.2.2.2.2.2.2.1 hcs
        refine r_tabIn B (tgt := 900) dL_law_33 ((rg_and _ _)) 22 hcs (by decide) (by decide) rfl (by decide) ?_
        refine r_aload_n B dL_law_900 rfl rfl ?_
        refine r_aload_n B dL_law_901 rfl rfl ?_
        refine r_iload_n B dL_law_902 rfl rfl ?_
        refine r_iconst B dL_law_903 ?_
        refine r_iadd B dL_law_904 ?_
        obtain ⟨h203, v⟩ := v
        refine r_sld B SC h203 dL_law_905 ?_
        refine r_aload_n B dL_law_906 rfl rfl ?_
        refine r_iload_n B dL_law_907 rfl rfl ?_
        refine r_iconst B dL_law_908 ?_
        refine r_iadd B dL_law_909 ?_
        obtain ⟨h204, v⟩ := v
        refine r_sld B SC h204 dL_law_910 ?_
        refine r_cI B (st := []) (as := [.int (i2 (X (x3 + 1))), .int (i2 (X (x3 + 2)))]) (T := TX10) (N := 11) (c_X_of (X (x3 + 1)) (X (x3 + 2)) _ hI ((hX _)) ((hX _))) v o_0 rfl mw_X_of wl_L_107 ⟨Nat.le_of_ble_eq_true rfl, Nat.le_of_ble_eq_true rfl⟩ rfl rfl (Nat.le_of_ble_eq_true rfl) dL_law_911 (fun z205 I206 hz205 hI206 v => ?_)
        refine r_aload_n B dL_law_914 rfl rfl ?_
        refine r_aload_n B dL_law_915 rfl rfl ?_
        refine r_iload_n B dL_law_916 rfl rfl ?_
        refine r_iconst B dL_law_917 ?_
        refine r_iadd B dL_law_918 ?_
        obtain ⟨h207, v⟩ := v
        refine r_sld B SC h207 dL_law_919 ?_
        refine r_aload_n B dL_law_920 rfl rfl ?_
        refine r_iload_n B dL_law_921 rfl rfl ?_
        refine r_iconst B dL_law_922 ?_
        refine r_iadd B dL_law_923 ?_
        obtain ⟨h208, v⟩ := v
        refine r_sld B SC h208 dL_law_924 ?_
        refine r_cI B (st := [.int (i2 z205)]) (as := [.int (i2 (X (x3 + 1))), .int (i2 (X (x3 + 2)))]) (T := TX11) (N := 25) (c_M_of (X (x3 + 1)) (X (x3 + 2)) _ hI206 ((hX _)) ((hX _))) v o_236 rfl mw_M_of wl_L_110 ⟨Nat.le_of_ble_eq_true rfl, Nat.le_of_ble_eq_true rfl⟩ rfl rfl (Nat.le_of_ble_eq_true rfl) dL_law_925 (fun z209 I210 hz209 hI210 v => ?_)
        refine r_icmp_eq B (tgt := 1837) dL_law_928 (by decide) hz205 hz209 (fun h => ?_) (fun h => ?_)
        · have v := v.1 h
          refine r_iinc B (q := 3) dL_law_1837 (by decide) rfl (lv' := [(3, .int (i2 (x3 + 6))), (0, .ref b), (1, .ref (eA E 0)), (2, .ref (eA E 236))]) rfl ?_
          refine r_sub [1, 2, 3, 0] rfl ?_
          refine r_goto B (tgt := 18) dL_law_1840 (by decide) ?_
          obtain ⟨h211, v⟩ := v
          refine r_sub [0, 1, 2, 3] rfl ?_
          exact ih (x3 + 6) _ hI210 h211 v
        · have v := v.2 h
          refine r_iconst B dL_law_931 ?_
          exact absurd v id
      · have v := v.2.2.2.2.2.2.2.2.2.2.2.2.2.2.2.2.2.2.2.2.2.2.2.1 hcs
        refine r_tabIn B (tgt := 933) dL_law_33 ((rg_and _ _)) 23 hcs (by decide) (by decide) rfl (by decide) ?_
        refine r_aload_n B dL_law_933 rfl rfl ?_
        refine r_aload_n B dL_law_934 rfl rfl ?_
        refine r_iload_n B dL_law_935 rfl rfl ?_
        refine r_iconst B dL_law_936 ?_
        refine r_iadd B dL_law_937 ?_
        obtain ⟨h212, v⟩ := v
        refine r_sld B SC h212 dL_law_938 ?_
        refine r_aload_n B dL_law_939 rfl rfl ?_
        refine r_iload_n B dL_law_940 rfl rfl ?_
        refine r_iconst B dL_law_941 ?_
        refine r_iadd B dL_law_942 ?_
        obtain ⟨h213, v⟩ := v
        refine r_sld B SC h213 dL_law_943 ?_
        refine r_cI B (st := []) (as := [.int (i2 (X (x3 + 1))), .int (i2 (X (x3 + 2)))]) (T := TX10) (N := 11) (c_X_row (X (x3 + 1)) (X (x3 + 2)) _ hI ((hX _)) ((hX _))) v o_0 rfl mw_X_row wl_L_111 ⟨Nat.le_of_ble_eq_true rfl, Nat.le_of_ble_eq_true rfl⟩ rfl rfl (Nat.le_of_ble_eq_true rfl) dL_law_944 (fun z214 I215 hz214 hI215 v => ?_)
        refine r_aload_n B dL_law_947 rfl rfl ?_
        refine r_aload_n B dL_law_948 rfl rfl ?_
        refine r_iload_n B dL_law_949 rfl rfl ?_
        refine r_iconst B dL_law_950 ?_
        refine r_iadd B dL_law_951 ?_
        obtain ⟨h216, v⟩ := v
        refine r_sld B SC h216 dL_law_952 ?_
        refine r_aload_n B dL_law_953 rfl rfl ?_
        refine r_iload_n B dL_law_954 rfl rfl ?_
        refine r_iconst B dL_law_955 ?_
        refine r_iadd B dL_law_956 ?_
        obtain ⟨h217, v⟩ := v
        refine r_sld B SC h217 dL_law_957 ?_
        refine r_cI B (st := [.int (i2 z214)]) (as := [.int (i2 (X (x3 + 1))), .int (i2 (X (x3 + 2)))]) (T := TX11) (N := 25) (c_M_row (X (x3 + 1)) (X (x3 + 2)) _ hI215 ((hX _)) ((hX _))) v o_236 rfl mw_M_row wl_L_114 ⟨Nat.le_of_ble_eq_true rfl, Nat.le_of_ble_eq_true rfl⟩ rfl rfl (Nat.le_of_ble_eq_true rfl) dL_law_958 (fun z218 I219 hz218 hI219 v => ?_)
        refine r_icmp_eq B (tgt := 1837) dL_law_961 (by decide) hz214 hz218 (fun h => ?_) (fun h => ?_)
        · have v := v.1 h
          refine r_iinc B (q := 3) dL_law_1837 (by decide) rfl (lv' := [(3, .int (i2 (x3 + 6))), (0, .ref b), (1, .ref (eA E 0)), (2, .ref (eA E 236))]) rfl ?_
          refine r_sub [1, 2, 3, 0] rfl ?_
          refine r_goto B (tgt := 18) dL_law_1840 (by decide) ?_
          obtain ⟨h220, v⟩ := v
          refine r_sub [0, 1, 2, 3] rfl ?_
          exact ih (x3 + 6) _ hI219 h220 v
        · have v := v.2 h
          refine r_iconst B dL_law_964 ?_
          exact absurd v id
      · have v := v.2.2.2.2.2.2.2.2.2.2.2.2.2.2.2.2.2.2.2.2.2.2.2.2.1 hcs
        refine r_tabIn B (tgt := 966) dL_law_33 ((rg_and _ _)) 24 hcs (by decide) (by decide) rfl (by decide) ?_
        refine r_aload_n B dL_law_966 rfl rfl ?_
        refine r_aload_n B dL_law_967 rfl rfl ?_
        refine r_iload_n B dL_law_968 rfl rfl ?_
        refine r_iconst B dL_law_969 ?_
        refine r_iadd B dL_law_970 ?_
        obtain ⟨h221, v⟩ := v
        refine r_sld B SC h221 dL_law_971 ?_
        refine r_aload_n B dL_law_972 rfl rfl ?_
        refine r_iload_n B dL_law_973 rfl rfl ?_
        refine r_iconst B dL_law_974 ?_
        refine r_iadd B dL_law_975 ?_
        obtain ⟨h222, v⟩ := v
        refine r_sld B SC h222 dL_law_976 ?_
        refine r_cI B (st := []) (as := [.int (i2 (X (x3 + 1))), .int (i2 (X (x3 + 2)))]) (T := TX10) (N := 11) (c_X_letter (X (x3 + 1)) (X (x3 + 2)) _ hI ((hX _)) ((hX _))) v o_0 rfl mw_X_letter wl_L_115 ⟨Nat.le_of_ble_eq_true rfl, Nat.le_of_ble_eq_true rfl⟩ rfl rfl (Nat.le_of_ble_eq_true rfl) dL_law_977 (fun z223 I224 hz223 hI224 v => ?_)
        refine r_aload_n B dL_law_980 rfl rfl ?_
        refine r_aload_n B dL_law_981 rfl rfl ?_
        refine r_iload_n B dL_law_982 rfl rfl ?_
        refine r_iconst B dL_law_983 ?_
        refine r_iadd B dL_law_984 ?_
        obtain ⟨h225, v⟩ := v
        refine r_sld B SC h225 dL_law_985 ?_
        refine r_aload_n B dL_law_986 rfl rfl ?_
        refine r_iload_n B dL_law_987 rfl rfl ?_
        refine r_iconst B dL_law_988 ?_
        refine r_iadd B dL_law_989 ?_
        obtain ⟨h226, v⟩ := v
        refine r_sld B SC h226 dL_law_990 ?_
        refine r_cI B (st := [.int (i2 z223)]) (as := [.int (i2 (X (x3 + 1))), .int (i2 (X (x3 + 2)))]) (T := TX11) (N := 25) (c_M_letter (X (x3 + 1)) (X (x3 + 2)) _ hI224 ((hX _)) ((hX _))) v o_236 rfl mw_M_letter wl_L_118 ⟨Nat.le_of_ble_eq_true rfl, Nat.le_of_ble_eq_true rfl⟩ rfl rfl (Nat.le_of_ble_eq_true rfl) dL_law_991 (fun z227 I228 hz227 hI228 v => ?_)
        refine r_icmp_eq B (tgt := 1837) dL_law_994 (by decide) hz223 hz227 (fun h => ?_) (fun h => ?_)
        · have v := v.1 h
          refine r_iinc B (q := 3) dL_law_1837 (by decide) rfl (lv' := [(3, .int (i2 (x3 + 6))), (0, .ref b), (1, .ref (eA E 0)), (2, .ref (eA E 236))]) rfl ?_
          refine r_sub [1, 2, 3, 0] rfl ?_
          refine r_goto B (tgt := 18) dL_law_1840 (by decide) ?_
          obtain ⟨h229, v⟩ := v
          refine r_sub [0, 1, 2, 3] rfl ?_
          exact ih (x3 + 6) _ hI228 h229 v
        · have v := v.2 h
          refine r_iconst B dL_law_997 ?_
          exact absurd v id
      · have v := v.2.2.2.2.2.2.2.2.2.2.2.2.2.2.2.2.2.2.2.2.2.2.2.2.2.1 hcs
        refine r_tabIn B (tgt := 999) dL_law_33 ((rg_and _ _)) 25 hcs (by decide) (by decide) rfl (by decide) ?_
        refine r_aload_n B dL_law_999 rfl rfl ?_
        refine r_aload_n B dL_law_1000 rfl rfl ?_
        refine r_iload_n B dL_law_1001 rfl rfl ?_
        refine r_iconst B dL_law_1002 ?_
        refine r_iadd B dL_law_1003 ?_
        obtain ⟨h230, v⟩ := v
        refine r_sld B SC h230 dL_law_1004 ?_
        refine r_aload_n B dL_law_1005 rfl rfl ?_
        refine r_iload_n B dL_law_1006 rfl rfl ?_
        refine r_iconst B dL_law_1007 ?_
        refine r_iadd B dL_law_1008 ?_
        obtain ⟨h231, v⟩ := v
        refine r_sld B SC h231 dL_law_1009 ?_
        refine r_cI B (st := []) (as := [.int (i2 (X (x3 + 1))), .int (i2 (X (x3 + 2)))]) (T := TX10) (N := 11) (c_X_named (X (x3 + 1)) (X (x3 + 2)) _ hI ((hX _)) ((hX _))) v o_0 rfl mw_X_named wl_L_119 ⟨Nat.le_of_ble_eq_true rfl, Nat.le_of_ble_eq_true rfl⟩ rfl rfl (Nat.le_of_ble_eq_true rfl) dL_law_1010 (fun z232 I233 hz232 hI233 v => ?_)
        refine r_aload_n B dL_law_1013 rfl rfl ?_
        refine r_aload_n B dL_law_1014 rfl rfl ?_
        refine r_iload_n B dL_law_1015 rfl rfl ?_
        refine r_iconst B dL_law_1016 ?_
        refine r_iadd B dL_law_1017 ?_
        obtain ⟨h234, v⟩ := v
        refine r_sld B SC h234 dL_law_1018 ?_
        refine r_aload_n B dL_law_1019 rfl rfl ?_
        refine r_iload_n B dL_law_1020 rfl rfl ?_
        refine r_iconst B dL_law_1021 ?_
        refine r_iadd B dL_law_1022 ?_
        obtain ⟨h235, v⟩ := v
        refine r_sld B SC h235 dL_law_1023 ?_
        refine r_cI B (st := [.int (i2 z232)]) (as := [.int (i2 (X (x3 + 1))), .int (i2 (X (x3 + 2)))]) (T := TX11) (N := 25) (c_M_named (X (x3 + 1)) (X (x3 + 2)) _ hI233 ((hX _)) ((hX _))) v o_236 rfl mw_M_named wl_L_122 ⟨Nat.le_of_ble_eq_true rfl, Nat.le_of_ble_eq_true rfl⟩ rfl rfl (Nat.le_of_ble_eq_true rfl) dL_law_1024 (fun z236 I237 hz236 hI237 v => ?_)
        refine r_icmp_eq B (tgt := 1837) dL_law_1027 (by decide) hz232 hz236 (fun h => ?_) (fun h => ?_)
        · have v := v.1 h
          refine r_iinc B (q := 3) dL_law_1837 (by decide) rfl (lv' := [(3, .int (i2 (x3 + 6))), (0, .ref b), (1, .ref (eA E 0)), (2, .ref (eA E 236))]) rfl ?_
          refine r_sub [1, 2, 3, 0] rfl ?_
          refine r_goto B (tgt := 18) dL_law_1840 (by decide) ?_
          obtain ⟨h238, v⟩ := v
          refine r_sub [0, 1, 2, 3] rfl ?_
          exact ih (x3 + 6) _ hI237 h238 v
        · have v := v.2 h
          refine r_iconst B dL_law_1030 ?_
          exact absurd v id
      · have v := v.2.2.2.2.2.2.2.2.2.2.2.2.2.2.2.2.2.2.2.2.2.2.2.2.2.2.1 hcs
        refine r_tabIn B (tgt := 1032) dL_law_33 ((rg_and _ _)) 26 hcs (by decide) (by decide) rfl (by decide) ?_
        refine r_aload_n B dL_law_1032 rfl rfl ?_
        refine r_aload_n B dL_law_1033 rfl rfl ?_
        refine r_iload_n B dL_law_1034 rfl rfl ?_
        refine r_iconst B dL_law_1035 ?_
        refine r_iadd B dL_law_1036 ?_
        obtain ⟨h239, v⟩ := v
        refine r_sld B SC h239 dL_law_1037 ?_
        refine r_aload_n B dL_law_1038 rfl rfl ?_
        refine r_iload_n B dL_law_1039 rfl rfl ?_
        refine r_iconst B dL_law_1040 ?_
        refine r_iadd B dL_law_1041 ?_
        obtain ⟨h240, v⟩ := v
        refine r_sld B SC h240 dL_law_1042 ?_
        refine r_cI B (st := []) (as := [.int (i2 (X (x3 + 1))), .int (i2 (X (x3 + 2)))]) (T := TX10) (N := 11) (c_X_ruled (X (x3 + 1)) (X (x3 + 2)) _ hI ((hX _)) ((hX _))) v o_0 rfl mw_X_ruled wl_L_123 ⟨Nat.le_of_ble_eq_true rfl, Nat.le_of_ble_eq_true rfl⟩ rfl rfl (Nat.le_of_ble_eq_true rfl) dL_law_1043 (fun z241 I242 hz241 hI242 v => ?_)
        refine r_aload_n B dL_law_1046 rfl rfl ?_
        refine r_aload_n B dL_law_1047 rfl rfl ?_
        refine r_iload_n B dL_law_1048 rfl rfl ?_
        refine r_iconst B dL_law_1049 ?_
        refine r_iadd B dL_law_1050 ?_
        obtain ⟨h243, v⟩ := v
        refine r_sld B SC h243 dL_law_1051 ?_
        refine r_aload_n B dL_law_1052 rfl rfl ?_
        refine r_iload_n B dL_law_1053 rfl rfl ?_
        refine r_iconst B dL_law_1054 ?_
        refine r_iadd B dL_law_1055 ?_
        obtain ⟨h244, v⟩ := v
        refine r_sld B SC h244 dL_law_1056 ?_
        refine r_cI B (st := [.int (i2 z241)]) (as := [.int (i2 (X (x3 + 1))), .int (i2 (X (x3 + 2)))]) (T := TX11) (N := 25) (c_M_ruled (X (x3 + 1)) (X (x3 + 2)) _ hI242 ((hX _)) ((hX _))) v o_236 rfl mw_M_ruled wl_L_126 ⟨Nat.le_of_ble_eq_true rfl, Nat.le_of_ble_eq_true rfl⟩ rfl rfl (Nat.le_of_ble_eq_true rfl) dL_law_1057 (fun z245 I246 hz245 hI246 v => ?_)
        refine r_icmp_eq B (tgt := 1837) dL_law_1060 (by decide) hz241 hz245 (fun h => ?_) (fun h => ?_)
        · have v := v.1 h
          refine r_iinc B (q := 3) dL_law_1837 (by decide) rfl (lv' := [(3, .int (i2 (x3 + 6))), (0, .ref b), (1, .ref (eA E 0)), (2, .ref (eA E 236))]) rfl ?_
          refine r_sub [1, 2, 3, 0] rfl ?_
          refine r_goto B (tgt := 18) dL_law_1840 (by decide) ?_
          obtain ⟨h247, v⟩ := v
          refine r_sub [0, 1, 2, 3] rfl ?_
          exact ih (x3 + 6) _ hI246 h247 v
        · have v := v.2 h
          refine r_iconst B dL_law_1063 ?_
          exact absurd v id
      · have v := v.2.2.2.2.2.2.2.2.2.2.2.2.2.2.2.2.2.2.2.2.2.2.2.2.2.2.2.1 hcs
        refine r_tabIn B (tgt := 1065) dL_law_33 ((rg_and _ _)) 27 hcs (by decide) (by decide) rfl (by decide) ?_
        refine r_aload_n B dL_law_1065 rfl rfl ?_
        refine r_aload_n B dL_law_1066 rfl rfl ?_
        refine r_iload_n B dL_law_1067 rfl rfl ?_
        refine r_iconst B dL_law_1068 ?_
        refine r_iadd B dL_law_1069 ?_
        obtain ⟨h248, v⟩ := v
        refine r_sld B SC h248 dL_law_1070 ?_
        refine r_aload_n B dL_law_1071 rfl rfl ?_
        refine r_iload_n B dL_law_1072 rfl rfl ?_
        refine r_iconst B dL_law_1073 ?_
        refine r_iadd B dL_law_1074 ?_
        obtain ⟨h249, v⟩ := v
        refine r_sld B SC h249 dL_law_1075 ?_
        refine r_cI B (st := []) (as := [.int (i2 (X (x3 + 1))), .int (i2 (X (x3 + 2)))]) (T := TX10) (N := 11) (c_X_log (X (x3 + 1)) (X (x3 + 2)) _ hI ((hX _)) ((hX _))) v o_0 rfl mw_X_log wl_L_127 ⟨Nat.le_of_ble_eq_true rfl, Nat.le_of_ble_eq_true rfl⟩ rfl rfl (Nat.le_of_ble_eq_true rfl) dL_law_1076 (fun z250 I251 hz250 hI251 v => ?_)
        refine r_aload_n B dL_law_1079 rfl rfl ?_
        refine r_aload_n B dL_law_1080 rfl rfl ?_
        refine r_iload_n B dL_law_1081 rfl rfl ?_
        refine r_iconst B dL_law_1082 ?_
        refine r_iadd B dL_law_1083 ?_
        obtain ⟨h252, v⟩ := v
        refine r_sld B SC h252 dL_law_1084 ?_
        refine r_aload_n B dL_law_1085 rfl rfl ?_
        refine r_iload_n B dL_law_1086 rfl rfl ?_
        refine r_iconst B dL_law_1087 ?_
        refine r_iadd B dL_law_1088 ?_
        obtain ⟨h253, v⟩ := v
        refine r_sld B SC h253 dL_law_1089 ?_
        refine r_cI B (st := [.int (i2 z250)]) (as := [.int (i2 (X (x3 + 1))), .int (i2 (X (x3 + 2)))]) (T := TX11) (N := 25) (c_M_log (X (x3 + 1)) (X (x3 + 2)) _ hI251 ((hX _)) ((hX _))) v o_236 rfl mw_M_log wl_L_130 ⟨Nat.le_of_ble_eq_true rfl, Nat.le_of_ble_eq_true rfl⟩ rfl rfl (Nat.le_of_ble_eq_true rfl) dL_law_1090 (fun z254 I255 hz254 hI255 v => ?_)
        refine r_icmp_eq B (tgt := 1837) dL_law_1093 (by decide) hz250 hz254 (fun h => ?_) (fun h => ?_)
        · have v := v.1 h
          refine r_iinc B (q := 3) dL_law_1837 (by decide) rfl (lv' := [(3, .int (i2 (x3 + 6))), (0, .ref b), (1, .ref (eA E 0)), (2, .ref (eA E 236))]) rfl ?_
          refine r_sub [1, 2, 3, 0] rfl ?_
          refine r_goto B (tgt := 18) dL_law_1840 (by decide) ?_
          obtain ⟨h256, v⟩ := v
          refine r_sub [0, 1, 2, 3] rfl ?_
          exact ih (x3 + 6) _ hI255 h256 v
        · have v := v.2 h
          refine r_iconst B dL_law_1096 ?_
          exact absurd v id
      · have v := v.2.2.2.2.2.2.2.2.2.2.2.2.2.2.2.2.2.2.2.2.2.2.2.2.2.2.2.2.1 hcs
        refine r_tabIn B (tgt := 1098) dL_law_33 ((rg_and _ _)) 28 hcs (by decide) (by decide) rfl (by decide) ?_
        refine r_aload_n B dL_law_1098 rfl rfl ?_
        refine r_aload_n B dL_law_1099 rfl rfl ?_
        refine r_iload_n B dL_law_1100 rfl rfl ?_
        refine r_iconst B dL_law_1101 ?_
        refine r_iadd B dL_law_1102 ?_
        obtain ⟨h257, v⟩ := v
        refine r_sld B SC h257 dL_law_1103 ?_
        refine r_cI B (st := []) (as := [.int (i2 (X (x3 + 1)))]) (T := TX10) (N := 11) (c_X_total (X (x3 + 1)) _ hI ((hX _))) v o_0 rfl mw_X_total wl_L_131 ⟨Nat.le_of_ble_eq_true rfl, Nat.le_of_ble_eq_true rfl⟩ rfl rfl (Nat.le_of_ble_eq_true rfl) dL_law_1104 (fun z258 I259 hz258 hI259 v => ?_)
        refine r_aload_n B dL_law_1107 rfl rfl ?_
        refine r_aload_n B dL_law_1108 rfl rfl ?_
        refine r_iload_n B dL_law_1109 rfl rfl ?_
        refine r_iconst B dL_law_1110 ?_
        refine r_iadd B dL_law_1111 ?_
        obtain ⟨h260, v⟩ := v
        refine r_sld B SC h260 dL_law_1112 ?_
        refine r_cI B (st := [.int (i2 z258)]) (as := [.int (i2 (X (x3 + 1)))]) (T := TX11) (N := 25) (c_M_total (X (x3 + 1)) _ hI259 ((hX _))) v o_236 rfl mw_M_total wl_L_134 ⟨Nat.le_of_ble_eq_true rfl, Nat.le_of_ble_eq_true rfl⟩ rfl rfl (Nat.le_of_ble_eq_true rfl) dL_law_1113 (fun z261 I262 hz261 hI262 v => ?_)
        refine r_icmp_eq B (tgt := 1837) dL_law_1116 (by decide) hz258 hz261 (fun h => ?_) (fun h => ?_)
        · have v := v.1 h
          refine r_iinc B (q := 3) dL_law_1837 (by decide) rfl (lv' := [(3, .int (i2 (x3 + 6))), (0, .ref b), (1, .ref (eA E 0)), (2, .ref (eA E 236))]) rfl ?_
          refine r_sub [1, 2, 3, 0] rfl ?_
          refine r_goto B (tgt := 18) dL_law_1840 (by decide) ?_
          obtain ⟨h263, v⟩ := v
          refine r_sub [0, 1, 2, 3] rfl ?_
          exact ih (x3 + 6) _ hI262 h263 v
        · have v := v.2 h
          refine r_iconst B dL_law_1119 ?_
          exact absurd v id
      · have v := v.2.2.2.2.2.2.2.2.2.2.2.2.2.2.2.2.2.2.2.2.2.2.2.2.2.2.2.2.2.1 hcs
        refine r_tabIn B (tgt := 1121) dL_law_33 ((rg_and _ _)) 29 hcs (by decide) (by decide) rfl (by decide) ?_
        refine r_aload_n B dL_law_1121 rfl rfl ?_
        refine r_aload_n B dL_law_1122 rfl rfl ?_
        refine r_iload_n B dL_law_1123 rfl rfl ?_
        refine r_iconst B dL_law_1124 ?_
        refine r_iadd B dL_law_1125 ?_
        obtain ⟨h264, v⟩ := v
        refine r_sld B SC h264 dL_law_1126 ?_
        refine r_cI B (st := []) (as := [.int (i2 (X (x3 + 1)))]) (T := TX10) (N := 11) (c_X_skew (X (x3 + 1)) _ hI ((hX _))) v o_0 rfl mw_X_skew wl_L_135 ⟨Nat.le_of_ble_eq_true rfl, Nat.le_of_ble_eq_true rfl⟩ rfl rfl (Nat.le_of_ble_eq_true rfl) dL_law_1127 (fun z265 I266 hz265 hI266 v => ?_)
        refine r_aload_n B dL_law_1130 rfl rfl ?_
        refine r_aload_n B dL_law_1131 rfl rfl ?_
        refine r_iload_n B dL_law_1132 rfl rfl ?_
        refine r_iconst B dL_law_1133 ?_
        refine r_iadd B dL_law_1134 ?_
        obtain ⟨h267, v⟩ := v
        refine r_sld B SC h267 dL_law_1135 ?_
        refine r_cI B (st := [.int (i2 z265)]) (as := [.int (i2 (X (x3 + 1)))]) (T := TX11) (N := 25) (c_M_skew (X (x3 + 1)) _ hI266 ((hX _))) v o_236 rfl mw_M_skew wl_L_138 ⟨Nat.le_of_ble_eq_true rfl, Nat.le_of_ble_eq_true rfl⟩ rfl rfl (Nat.le_of_ble_eq_true rfl) dL_law_1136 (fun z268 I269 hz268 hI269 v => ?_)
        refine r_icmp_eq B (tgt := 1837) dL_law_1139 (by decide) hz265 hz268 (fun h => ?_) (fun h => ?_)
        · have v := v.1 h
          refine r_iinc B (q := 3) dL_law_1837 (by decide) rfl (lv' := [(3, .int (i2 (x3 + 6))), (0, .ref b), (1, .ref (eA E 0)), (2, .ref (eA E 236))]) rfl ?_
          refine r_sub [1, 2, 3, 0] rfl ?_
          refine r_goto B (tgt := 18) dL_law_1840 (by decide) ?_
          obtain ⟨h270, v⟩ := v
          refine r_sub [0, 1, 2, 3] rfl ?_
          exact ih (x3 + 6) _ hI269 h270 v
        · have v := v.2 h
          refine r_iconst B dL_law_1142 ?_
          exact absurd v id
      · have v := v.2.2.2.2.2.2.2.2.2.2.2.2.2.2.2.2.2.2.2.2.2.2.2.2.2.2.2.2.2.2.1 hcs
        refine r_tabIn B (tgt := 1144) dL_law_33 ((rg_and _ _)) 30 hcs (by decide) (by decide) rfl (by decide) ?_
        refine r_aload_n B dL_law_1144 rfl rfl ?_
        refine r_cI B (st := []) (as := []) (T := TX10) (N := 11) (c_X_looks _ hI ) v o_0 rfl mw_X_looks wl_L_139 ⟨Nat.le_of_ble_eq_true rfl, Nat.le_of_ble_eq_true rfl⟩ rfl rfl (Nat.le_of_ble_eq_true rfl) dL_law_1145 (fun z271 I272 hz271 hI272 v => ?_)
        refine r_aload_n B dL_law_1148 rfl rfl ?_
        refine r_cI B (st := [.int (i2 z271)]) (as := []) (T := TX11) (N := 25) (c_M_looks _ hI272 ) v o_236 rfl mw_M_looks wl_L_142 ⟨Nat.le_of_ble_eq_true rfl, Nat.le_of_ble_eq_true rfl⟩ rfl rfl (Nat.le_of_ble_eq_true rfl) dL_law_1149 (fun z273 I274 hz273 hI274 v => ?_)
        refine r_icmp_eq B (tgt := 1837) dL_law_1152 (by decide) hz271 hz273 (fun h => ?_) (fun h => ?_)
        · have v := v.1 h
          refine r_iinc B (q := 3) dL_law_1837 (by decide) rfl (lv' := [(3, .int (i2 (x3 + 6))), (0, .ref b), (1, .ref (eA E 0)), (2, .ref (eA E 236))]) rfl ?_
          refine r_sub [1, 2, 3, 0] rfl ?_
          refine r_goto B (tgt := 18) dL_law_1840 (by decide) ?_
          obtain ⟨h275, v⟩ := v
          refine r_sub [0, 1, 2, 3] rfl ?_
          exact ih (x3 + 6) _ hI274 h275 v
        · have v := v.2 h
          refine r_iconst B dL_law_1155 ?_
          exact absurd v id
      · have v := v.2.2.2.2.2.2.2.2.2.2.2.2.2.2.2.2.2.2.2.2.2.2.2.2.2.2.2.2.2.2.2.1 hcs
        refine r_tabIn B (tgt := 1157) dL_law_33 ((rg_and _ _)) 31 hcs (by decide) (by decide) rfl (by decide) ?_
        refine r_aload_n B dL_law_1157 rfl rfl ?_
        refine r_aload_n B dL_law_1158 rfl rfl ?_
        refine r_iload_n B dL_law_1159 rfl rfl ?_
        refine r_iconst B dL_law_1160 ?_
        refine r_iadd B dL_law_1161 ?_
        obtain ⟨h276, v⟩ := v
        refine r_sld B SC h276 dL_law_1162 ?_
        refine r_aload_n B dL_law_1163 rfl rfl ?_
        refine r_iload_n B dL_law_1164 rfl rfl ?_
        refine r_iconst B dL_law_1165 ?_
        refine r_iadd B dL_law_1166 ?_
        obtain ⟨h277, v⟩ := v
        refine r_sld B SC h277 dL_law_1167 ?_
        refine r_cI B (st := []) (as := [.int (i2 (X (x3 + 1))), .int (i2 (X (x3 + 2)))]) (T := TX10) (N := 11) (c_X_lookBy (X (x3 + 1)) (X (x3 + 2)) _ hI ((hX _)) ((hX _))) v o_0 rfl mw_X_lookBy wl_L_143 ⟨Nat.le_of_ble_eq_true rfl, Nat.le_of_ble_eq_true rfl⟩ rfl rfl (Nat.le_of_ble_eq_true rfl) dL_law_1168 (fun z278 I279 hz278 hI279 v => ?_)
        refine r_aload_n B dL_law_1171 rfl rfl ?_
        refine r_aload_n B dL_law_1172 rfl rfl ?_
        refine r_iload_n B dL_law_1173 rfl rfl ?_
        refine r_iconst B dL_law_1174 ?_
        refine r_iadd B dL_law_1175 ?_
        obtain ⟨h280, v⟩ := v
        refine r_sld B SC h280 dL_law_1176 ?_
        refine r_aload_n B dL_law_1177 rfl rfl ?_
        refine r_iload_n B dL_law_1178 rfl rfl ?_
        refine r_iconst B dL_law_1179 ?_
        refine r_iadd B dL_law_1180 ?_
        obtain ⟨h281, v⟩ := v
        refine r_sld B SC h281 dL_law_1181 ?_
        refine r_cI B (st := [.int (i2 z278)]) (as := [.int (i2 (X (x3 + 1))), .int (i2 (X (x3 + 2)))]) (T := TX11) (N := 25) (c_M_lookBy (X (x3 + 1)) (X (x3 + 2)) _ hI279 ((hX _)) ((hX _))) v o_236 rfl mw_M_lookBy wl_L_146 ⟨Nat.le_of_ble_eq_true rfl, Nat.le_of_ble_eq_true rfl⟩ rfl rfl (Nat.le_of_ble_eq_true rfl) dL_law_1182 (fun z282 I283 hz282 hI283 v => ?_)
        refine r_icmp_eq B (tgt := 1837) dL_law_1185 (by decide) hz278 hz282 (fun h => ?_) (fun h => ?_)
        · have v := v.1 h
          refine r_iinc B (q := 3) dL_law_1837 (by decide) rfl (lv' := [(3, .int (i2 (x3 + 6))), (0, .ref b), (1, .ref (eA E 0)), (2, .ref (eA E 236))]) rfl ?_
          refine r_sub [1, 2, 3, 0] rfl ?_
          refine r_goto B (tgt := 18) dL_law_1840 (by decide) ?_
          obtain ⟨h284, v⟩ := v
          refine r_sub [0, 1, 2, 3] rfl ?_
          exact ih (x3 + 6) _ hI283 h284 v
        · have v := v.2 h
          refine r_iconst B dL_law_1188 ?_
          exact absurd v id
      · have v := v.2.2.2.2.2.2.2.2.2.2.2.2.2.2.2.2.2.2.2.2.2.2.2.2.2.2.2.2.2.2.2.2.1 hcs
        refine r_tabIn B (tgt := 1190) dL_law_33 ((rg_and _ _)) 32 hcs (by decide) (by decide) rfl (by decide) ?_
        refine r_aload_n B dL_law_1190 rfl rfl ?_
        refine r_aload_n B dL_law_1191 rfl rfl ?_
        refine r_iload_n B dL_law_1192 rfl rfl ?_
        refine r_iconst B dL_law_1193 ?_
        refine r_iadd B dL_law_1194 ?_
        obtain ⟨h285, v⟩ := v
        refine r_sld B SC h285 dL_law_1195 ?_
        refine r_aload_n B dL_law_1196 rfl rfl ?_
        refine r_iload_n B dL_law_1197 rfl rfl ?_
        refine r_iconst B dL_law_1198 ?_
        refine r_iadd B dL_law_1199 ?_
        obtain ⟨h286, v⟩ := v
        refine r_sld B SC h286 dL_law_1200 ?_
        refine r_cI B (st := []) (as := [.int (i2 (X (x3 + 1))), .int (i2 (X (x3 + 2)))]) (T := TX10) (N := 11) (c_X_best (X (x3 + 1)) (X (x3 + 2)) _ hI ((hX _)) ((hX _))) v o_0 rfl mw_X_best wl_L_147 ⟨Nat.le_of_ble_eq_true rfl, Nat.le_of_ble_eq_true rfl⟩ rfl rfl (Nat.le_of_ble_eq_true rfl) dL_law_1201 (fun z287 I288 hz287 hI288 v => ?_)
        refine r_aload_n B dL_law_1204 rfl rfl ?_
        refine r_aload_n B dL_law_1205 rfl rfl ?_
        refine r_iload_n B dL_law_1206 rfl rfl ?_
        refine r_iconst B dL_law_1207 ?_
        refine r_iadd B dL_law_1208 ?_
        obtain ⟨h289, v⟩ := v
        refine r_sld B SC h289 dL_law_1209 ?_
        refine r_aload_n B dL_law_1210 rfl rfl ?_
        refine r_iload_n B dL_law_1211 rfl rfl ?_
        refine r_iconst B dL_law_1212 ?_
        refine r_iadd B dL_law_1213 ?_
        obtain ⟨h290, v⟩ := v
        refine r_sld B SC h290 dL_law_1214 ?_
        refine r_cI B (st := [.int (i2 z287)]) (as := [.int (i2 (X (x3 + 1))), .int (i2 (X (x3 + 2)))]) (T := TX11) (N := 25) (c_M_best (X (x3 + 1)) (X (x3 + 2)) _ hI288 ((hX _)) ((hX _))) v o_236 rfl mw_M_best wl_L_150 ⟨Nat.le_of_ble_eq_true rfl, Nat.le_of_ble_eq_true rfl⟩ rfl rfl (Nat.le_of_ble_eq_true rfl) dL_law_1215 (fun z291 I292 hz291 hI292 v => ?_)
        refine r_icmp_eq B (tgt := 1837) dL_law_1218 (by decide) hz287 hz291 (fun h => ?_) (fun h => ?_)
        · have v := v.1 h
          refine r_iinc B (q := 3) dL_law_1837 (by decide) rfl (lv' := [(3, .int (i2 (x3 + 6))), (0, .ref b), (1, .ref (eA E 0)), (2, .ref (eA E 236))]) rfl ?_
          refine r_sub [1, 2, 3, 0] rfl ?_
          refine r_goto B (tgt := 18) dL_law_1840 (by decide) ?_
          obtain ⟨h293, v⟩ := v
          refine r_sub [0, 1, 2, 3] rfl ?_
          exact ih (x3 + 6) _ hI292 h293 v
        · have v := v.2 h
          refine r_iconst B dL_law_1221 ?_
          exact absurd v id
      · have v := v.2.2.2.2.2.2.2.2.2.2.2.2.2.2.2.2.2.2.2.2.2.2.2.2.2.2.2.2.2.2.2.2.2.1 hcs
        refine r_tabIn B (tgt := 1223) dL_law_33 ((rg_and _ _)) 33 hcs (by decide) (by decide) rfl (by decide) ?_
        refine r_aload_n B dL_law_1223 rfl rfl ?_
        refine r_cI B (st := []) (as := []) (T := TX10) (N := 11) (c_X_widthNow _ hI ) v o_0 rfl mw_X_widthNow wl_L_151 ⟨Nat.le_of_ble_eq_true rfl, Nat.le_of_ble_eq_true rfl⟩ rfl rfl (Nat.le_of_ble_eq_true rfl) dL_law_1224 (fun z294 I295 hz294 hI295 v => ?_)
        refine r_aload_n B dL_law_1227 rfl rfl ?_
        refine r_cI B (st := [.int (i2 z294)]) (as := []) (T := TX11) (N := 25) (c_M_widthNow _ hI295 ) v o_236 rfl mw_M_widthNow wl_L_154 ⟨Nat.le_of_ble_eq_true rfl, Nat.le_of_ble_eq_true rfl⟩ rfl rfl (Nat.le_of_ble_eq_true rfl) dL_law_1228 (fun z296 I297 hz296 hI297 v => ?_)
        refine r_icmp_eq B (tgt := 1837) dL_law_1231 (by decide) hz294 hz296 (fun h => ?_) (fun h => ?_)
        · have v := v.1 h
          refine r_iinc B (q := 3) dL_law_1837 (by decide) rfl (lv' := [(3, .int (i2 (x3 + 6))), (0, .ref b), (1, .ref (eA E 0)), (2, .ref (eA E 236))]) rfl ?_
          refine r_sub [1, 2, 3, 0] rfl ?_
          refine r_goto B (tgt := 18) dL_law_1840 (by decide) ?_
          obtain ⟨h298, v⟩ := v
          refine r_sub [0, 1, 2, 3] rfl ?_
          exact ih (x3 + 6) _ hI297 h298 v
        · have v := v.2 h
          refine r_iconst B dL_law_1234 ?_
          exact absurd v id
      · have v := v.2.2.2.2.2.2.2.2.2.2.2.2.2.2.2.2.2.2.2.2.2.2.2.2.2.2.2.2.2.2.2.2.2.2.1 hcs
        refine r_tabIn B (tgt := 1236) dL_law_33 ((rg_and _ _)) 34 hcs (by decide) (by decide) rfl (by decide) ?_
        refine r_aload_n B dL_law_1236 rfl rfl ?_
        refine r_aload_n B dL_law_1237 rfl rfl ?_
        refine r_iload_n B dL_law_1238 rfl rfl ?_
        refine r_iconst B dL_law_1239 ?_
        refine r_iadd B dL_law_1240 ?_
        obtain ⟨h299, v⟩ := v
        refine r_sld B SC h299 dL_law_1241 ?_
        refine r_aload_n B dL_law_1242 rfl rfl ?_
        refine r_iload_n B dL_law_1243 rfl rfl ?_
        refine r_iconst B dL_law_1244 ?_
        refine r_iadd B dL_law_1245 ?_
        obtain ⟨h300, v⟩ := v
        refine r_sld B SC h300 dL_law_1246 ?_
        refine r_cI B (st := []) (as := [.int (i2 (X (x3 + 1))), .int (i2 (X (x3 + 2)))]) (T := TX10) (N := 11) (c_X_ahead (X (x3 + 1)) (X (x3 + 2)) _ hI ((hX _)) ((hX _))) v o_0 rfl mw_X_ahead wl_L_155 ⟨Nat.le_of_ble_eq_true rfl, Nat.le_of_ble_eq_true rfl⟩ rfl rfl (Nat.le_of_ble_eq_true rfl) dL_law_1247 (fun z301 I302 hz301 hI302 v => ?_)
        refine r_aload_n B dL_law_1250 rfl rfl ?_
        refine r_aload_n B dL_law_1251 rfl rfl ?_
        refine r_iload_n B dL_law_1252 rfl rfl ?_
        refine r_iconst B dL_law_1253 ?_
        refine r_iadd B dL_law_1254 ?_
        obtain ⟨h303, v⟩ := v
        refine r_sld B SC h303 dL_law_1255 ?_
        refine r_aload_n B dL_law_1256 rfl rfl ?_
        refine r_iload_n B dL_law_1257 rfl rfl ?_
        refine r_iconst B dL_law_1258 ?_
        refine r_iadd B dL_law_1259 ?_
        obtain ⟨h304, v⟩ := v
        refine r_sld B SC h304 dL_law_1260 ?_
        refine r_cI B (st := [.int (i2 z301)]) (as := [.int (i2 (X (x3 + 1))), .int (i2 (X (x3 + 2)))]) (T := TX11) (N := 25) (c_M_ahead (X (x3 + 1)) (X (x3 + 2)) _ hI302 ((hX _)) ((hX _))) v o_236 rfl mw_M_ahead wl_L_158 ⟨Nat.le_of_ble_eq_true rfl, Nat.le_of_ble_eq_true rfl⟩ rfl rfl (Nat.le_of_ble_eq_true rfl) dL_law_1261 (fun z305 I306 hz305 hI306 v => ?_)
        refine r_icmp_eq B (tgt := 1837) dL_law_1264 (by decide) hz301 hz305 (fun h => ?_) (fun h => ?_)
        · have v := v.1 h
          refine r_iinc B (q := 3) dL_law_1837 (by decide) rfl (lv' := [(3, .int (i2 (x3 + 6))), (0, .ref b), (1, .ref (eA E 0)), (2, .ref (eA E 236))]) rfl ?_
          refine r_sub [1, 2, 3, 0] rfl ?_
          refine r_goto B (tgt := 18) dL_law_1840 (by decide) ?_
          obtain ⟨h307, v⟩ := v
          refine r_sub [0, 1, 2, 3] rfl ?_
          exact ih (x3 + 6) _ hI306 h307 v
        · have v := v.2 h
          refine r_iconst B dL_law_1267 ?_
          exact absurd v id
      · have v := v.2.2.2.2.2.2.2.2.2.2.2.2.2.2.2.2.2.2.2.2.2.2.2.2.2.2.2.2.2.2.2.2.2.2.2.1 hcs
        refine r_tabIn B (tgt := 1269) dL_law_33 ((rg_and _ _)) 35 hcs (by decide) (by decide) rfl (by decide) ?_
        refine r_aload_n B dL_law_1269 rfl rfl ?_
        refine r_aload_n B dL_law_1270 rfl rfl ?_
        refine r_iload_n B dL_law_1271 rfl rfl ?_
        refine r_iconst B dL_law_1272 ?_
        refine r_iadd B dL_law_1273 ?_
        obtain ⟨h308, v⟩ := v
        refine r_sld B SC h308 dL_law_1274 ?_
        refine r_aload_n B dL_law_1275 rfl rfl ?_
        refine r_iload_n B dL_law_1276 rfl rfl ?_
        refine r_iconst B dL_law_1277 ?_
        refine r_iadd B dL_law_1278 ?_
        obtain ⟨h309, v⟩ := v
        refine r_sld B SC h309 dL_law_1279 ?_
        refine r_cI B (st := []) (as := [.int (i2 (X (x3 + 1))), .int (i2 (X (x3 + 2)))]) (T := TX10) (N := 11) (c_X_between (X (x3 + 1)) (X (x3 + 2)) _ hI ((hX _)) ((hX _))) v o_0 rfl mw_X_between wl_L_159 ⟨Nat.le_of_ble_eq_true rfl, Nat.le_of_ble_eq_true rfl⟩ rfl rfl (Nat.le_of_ble_eq_true rfl) dL_law_1280 (fun z310 I311 hz310 hI311 v => ?_)
        refine r_aload_n B dL_law_1283 rfl rfl ?_
        refine r_aload_n B dL_law_1284 rfl rfl ?_
        refine r_iload_n B dL_law_1285 rfl rfl ?_
        refine r_iconst B dL_law_1286 ?_
        refine r_iadd B dL_law_1287 ?_
        obtain ⟨h312, v⟩ := v
        refine r_sld B SC h312 dL_law_1288 ?_
        refine r_aload_n B dL_law_1289 rfl rfl ?_
        refine r_iload_n B dL_law_1290 rfl rfl ?_
        refine r_iconst B dL_law_1291 ?_
        refine r_iadd B dL_law_1292 ?_
        obtain ⟨h313, v⟩ := v
        refine r_sld B SC h313 dL_law_1293 ?_
        refine r_cI B (st := [.int (i2 z310)]) (as := [.int (i2 (X (x3 + 1))), .int (i2 (X (x3 + 2)))]) (T := TX11) (N := 25) (c_M_between (X (x3 + 1)) (X (x3 + 2)) _ hI311 ((hX _)) ((hX _))) v o_236 rfl mw_M_between wl_L_162 ⟨Nat.le_of_ble_eq_true rfl, Nat.le_of_ble_eq_true rfl⟩ rfl rfl (Nat.le_of_ble_eq_true rfl) dL_law_1294 (fun z314 I315 hz314 hI315 v => ?_)
        refine r_icmp_eq B (tgt := 1837) dL_law_1297 (by decide) hz310 hz314 (fun h => ?_) (fun h => ?_)
        · have v := v.1 h
          refine r_iinc B (q := 3) dL_law_1837 (by decide) rfl (lv' := [(3, .int (i2 (x3 + 6))), (0, .ref b), (1, .ref (eA E 0)), (2, .ref (eA E 236))]) rfl ?_
          refine r_sub [1, 2, 3, 0] rfl ?_
          refine r_goto B (tgt := 18) dL_law_1840 (by decide) ?_
          obtain ⟨h316, v⟩ := v
          refine r_sub [0, 1, 2, 3] rfl ?_
          exact ih (x3 + 6) _ hI315 h316 v
        · have v := v.2 h
          refine r_iconst B dL_law_1300 ?_
          exact absurd v id
      · have v := v.2.2.2.2.2.2.2.2.2.2.2.2.2.2.2.2.2.2.2.2.2.2.2.2.2.2.2.2.2.2.2.2.2.2.2.2.1 hcs
        refine r_tabIn B (tgt := 1302) dL_law_33 ((rg_and _ _)) 36 hcs (by decide) (by decide) rfl (by decide) ?_
        refine r_aload_n B dL_law_1302 rfl rfl ?_
        refine r_aload_n B dL_law_1303 rfl rfl ?_
        refine r_iload_n B dL_law_1304 rfl rfl ?_
        refine r_iconst B dL_law_1305 ?_
        refine r_iadd B dL_law_1306 ?_
        obtain ⟨h317, v⟩ := v
        refine r_sld B SC h317 dL_law_1307 ?_
        refine r_aload_n B dL_law_1308 rfl rfl ?_
        refine r_iload_n B dL_law_1309 rfl rfl ?_
        refine r_iconst B dL_law_1310 ?_
        refine r_iadd B dL_law_1311 ?_
        obtain ⟨h318, v⟩ := v
        refine r_sld B SC h318 dL_law_1312 ?_
        refine r_cI B (st := []) (as := [.int (i2 (X (x3 + 1))), .int (i2 (X (x3 + 2)))]) (T := TX10) (N := 11) (c_X_crowd (X (x3 + 1)) (X (x3 + 2)) _ hI ((hX _)) ((hX _))) v o_0 rfl mw_X_crowd wl_L_163 ⟨Nat.le_of_ble_eq_true rfl, Nat.le_of_ble_eq_true rfl⟩ rfl rfl (Nat.le_of_ble_eq_true rfl) dL_law_1313 (fun z319 I320 hz319 hI320 v => ?_)
        refine r_aload_n B dL_law_1316 rfl rfl ?_
        refine r_aload_n B dL_law_1317 rfl rfl ?_
        refine r_iload_n B dL_law_1318 rfl rfl ?_
        refine r_iconst B dL_law_1319 ?_
        refine r_iadd B dL_law_1320 ?_
        obtain ⟨h321, v⟩ := v
        refine r_sld B SC h321 dL_law_1321 ?_
        refine r_aload_n B dL_law_1322 rfl rfl ?_
        refine r_iload_n B dL_law_1323 rfl rfl ?_
        refine r_iconst B dL_law_1324 ?_
        refine r_iadd B dL_law_1325 ?_
        obtain ⟨h322, v⟩ := v
        refine r_sld B SC h322 dL_law_1326 ?_
        refine r_cI B (st := [.int (i2 z319)]) (as := [.int (i2 (X (x3 + 1))), .int (i2 (X (x3 + 2)))]) (T := TX11) (N := 25) (c_M_crowd (X (x3 + 1)) (X (x3 + 2)) _ hI320 ((hX _)) ((hX _))) v o_236 rfl mw_M_crowd wl_L_166 ⟨Nat.le_of_ble_eq_true rfl, Nat.le_of_ble_eq_true rfl⟩ rfl rfl (Nat.le_of_ble_eq_true rfl) dL_law_1327 (fun z323 I324 hz323 hI324 v => ?_)
        refine r_icmp_eq B (tgt := 1837) dL_law_1330 (by decide) hz319 hz323 (fun h => ?_) (fun h => ?_)
        · have v := v.1 h
          refine r_iinc B (q := 3) dL_law_1837 (by decide) rfl (lv' := [(3, .int (i2 (x3 + 6))), (0, .ref b), (1, .ref (eA E 0)), (2, .ref (eA E 236))]) rfl ?_
          refine r_sub [1, 2, 3, 0] rfl ?_
          refine r_goto B (tgt := 18) dL_law_1840 (by decide) ?_
          obtain ⟨h325, v⟩ := v
          refine r_sub [0, 1, 2, 3] rfl ?_
          exact ih (x3 + 6) _ hI324 h325 v
        · have v := v.2 h
          refine r_iconst B dL_law_1333 ?_
          exact absurd v id
      · have v := v.2.2.2.2.2.2.2.2.2.2.2.2.2.2.2.2.2.2.2.2.2.2.2.2.2.2.2.2.2.2.2.2.2.2.2.2.2.1 hcs
        refine r_tabIn B (tgt := 1335) dL_law_33 ((rg_and _ _)) 37 hcs (by decide) (by decide) rfl (by decide) ?_
        refine r_aload_n B dL_law_1335 rfl rfl ?_
        refine r_aload_n B dL_law_1336 rfl rfl ?_
        refine r_iload_n B dL_law_1337 rfl rfl ?_
        refine r_iconst B dL_law_1338 ?_
        refine r_iadd B dL_law_1339 ?_
        obtain ⟨h326, v⟩ := v
        refine r_sld B SC h326 dL_law_1340 ?_
        refine r_aload_n B dL_law_1341 rfl rfl ?_
        refine r_iload_n B dL_law_1342 rfl rfl ?_
        refine r_iconst B dL_law_1343 ?_
        refine r_iadd B dL_law_1344 ?_
        obtain ⟨h327, v⟩ := v
        refine r_sld B SC h327 dL_law_1345 ?_
        refine r_cI B (st := []) (as := [.int (i2 (X (x3 + 1))), .int (i2 (X (x3 + 2)))]) (T := TX10) (N := 11) (c_X_busiest (X (x3 + 1)) (X (x3 + 2)) _ hI ((hX _)) ((hX _))) v o_0 rfl mw_X_busiest wl_L_167 ⟨Nat.le_of_ble_eq_true rfl, Nat.le_of_ble_eq_true rfl⟩ rfl rfl (Nat.le_of_ble_eq_true rfl) dL_law_1346 (fun z328 I329 hz328 hI329 v => ?_)
        refine r_aload_n B dL_law_1349 rfl rfl ?_
        refine r_aload_n B dL_law_1350 rfl rfl ?_
        refine r_iload_n B dL_law_1351 rfl rfl ?_
        refine r_iconst B dL_law_1352 ?_
        refine r_iadd B dL_law_1353 ?_
        obtain ⟨h330, v⟩ := v
        refine r_sld B SC h330 dL_law_1354 ?_
        refine r_aload_n B dL_law_1355 rfl rfl ?_
        refine r_iload_n B dL_law_1356 rfl rfl ?_
        refine r_iconst B dL_law_1357 ?_
        refine r_iadd B dL_law_1358 ?_
        obtain ⟨h331, v⟩ := v
        refine r_sld B SC h331 dL_law_1359 ?_
        refine r_cI B (st := [.int (i2 z328)]) (as := [.int (i2 (X (x3 + 1))), .int (i2 (X (x3 + 2)))]) (T := TX11) (N := 25) (c_M_busiest (X (x3 + 1)) (X (x3 + 2)) _ hI329 ((hX _)) ((hX _))) v o_236 rfl mw_M_busiest wl_L_170 ⟨Nat.le_of_ble_eq_true rfl, Nat.le_of_ble_eq_true rfl⟩ rfl rfl (Nat.le_of_ble_eq_true rfl) dL_law_1360 (fun z332 I333 hz332 hI333 v => ?_)
        refine r_icmp_eq B (tgt := 1837) dL_law_1363 (by decide) hz328 hz332 (fun h => ?_) (fun h => ?_)
        · have v := v.1 h
          refine r_iinc B (q := 3) dL_law_1837 (by decide) rfl (lv' := [(3, .int (i2 (x3 + 6))), (0, .ref b), (1, .ref (eA E 0)), (2, .ref (eA E 236))]) rfl ?_
          refine r_sub [1, 2, 3, 0] rfl ?_
          refine r_goto B (tgt := 18) dL_law_1840 (by decide) ?_
          obtain ⟨h334, v⟩ := v
          refine r_sub [0, 1, 2, 3] rfl ?_
          exact ih (x3 + 6) _ hI333 h334 v
        · have v := v.2 h
          refine r_iconst B dL_law_1366 ?_
          exact absurd v id
      · have v := v.2.2.2.2.2.2.2.2.2.2.2.2.2.2.2.2.2.2.2.2.2.2.2.2.2.2.2.2.2.2.2.2.2.2.2.2.2.2.1 hcs
        refine r_tabIn B (tgt := 1368) dL_law_33 ((rg_and _ _)) 38 hcs (by decide) (by decide) rfl (by decide) ?_
        refine r_aload_n B dL_law_1368 rfl rfl ?_
        refine r_aload_n B dL_law_1369 rfl rfl ?_
        refine r_iload_n B dL_law_1370 rfl rfl ?_
        refine r_iconst B dL_law_1371 ?_
        refine r_iadd B dL_law_1372 ?_
        obtain ⟨h335, v⟩ := v
        refine r_sld B SC h335 dL_law_1373 ?_
        refine r_aload_n B dL_law_1374 rfl rfl ?_
        refine r_iload_n B dL_law_1375 rfl rfl ?_
        refine r_iconst B dL_law_1376 ?_
        refine r_iadd B dL_law_1377 ?_
        obtain ⟨h336, v⟩ := v
        refine r_sld B SC h336 dL_law_1378 ?_
        refine r_cI B (st := []) (as := [.int (i2 (X (x3 + 1))), .int (i2 (X (x3 + 2)))]) (T := TX10) (N := 11) (c_X_leads (X (x3 + 1)) (X (x3 + 2)) _ hI ((hX _)) ((hX _))) v o_0 rfl mw_X_leads wl_L_171 ⟨Nat.le_of_ble_eq_true rfl, Nat.le_of_ble_eq_true rfl⟩ rfl rfl (Nat.le_of_ble_eq_true rfl) dL_law_1379 (fun z337 I338 hz337 hI338 v => ?_)
        refine r_aload_n B dL_law_1382 rfl rfl ?_
        refine r_aload_n B dL_law_1383 rfl rfl ?_
        refine r_iload_n B dL_law_1384 rfl rfl ?_
        refine r_iconst B dL_law_1385 ?_
        refine r_iadd B dL_law_1386 ?_
        obtain ⟨h339, v⟩ := v
        refine r_sld B SC h339 dL_law_1387 ?_
        refine r_aload_n B dL_law_1388 rfl rfl ?_
        refine r_iload_n B dL_law_1389 rfl rfl ?_
        refine r_iconst B dL_law_1390 ?_
        refine r_iadd B dL_law_1391 ?_
        obtain ⟨h340, v⟩ := v
        refine r_sld B SC h340 dL_law_1392 ?_
        refine r_cI B (st := [.int (i2 z337)]) (as := [.int (i2 (X (x3 + 1))), .int (i2 (X (x3 + 2)))]) (T := TX11) (N := 25) (c_M_leads (X (x3 + 1)) (X (x3 + 2)) _ hI338 ((hX _)) ((hX _))) v o_236 rfl mw_M_leads wl_L_174 ⟨Nat.le_of_ble_eq_true rfl, Nat.le_of_ble_eq_true rfl⟩ rfl rfl (Nat.le_of_ble_eq_true rfl) dL_law_1393 (fun z341 I342 hz341 hI342 v => ?_)
        refine r_icmp_eq B (tgt := 1837) dL_law_1396 (by decide) hz337 hz341 (fun h => ?_) (fun h => ?_)
        · have v := v.1 h
          refine r_iinc B (q := 3) dL_law_1837 (by decide) rfl (lv' := [(3, .int (i2 (x3 + 6))), (0, .ref b), (1, .ref (eA E 0)), (2, .ref (eA E 236))]) rfl ?_
          refine r_sub [1, 2, 3, 0] rfl ?_
          refine r_goto B (tgt := 18) dL_law_1840 (by decide) ?_
          obtain ⟨h343, v⟩ := v
          refine r_sub [0, 1, 2, 3] rfl ?_
          exact ih (x3 + 6) _ hI342 h343 v
        · have v := v.2 h
          refine r_iconst B dL_law_1399 ?_
          exact absurd v id
      · have v := v.2.2.2.2.2.2.2.2.2.2.2.2.2.2.2.2.2.2.2.2.2.2.2.2.2.2.2.2.2.2.2.2.2.2.2.2.2.2.2.1 hcs
        refine r_tabIn B (tgt := 1401) dL_law_33 ((rg_and _ _)) 39 hcs (by decide) (by decide) rfl (by decide) ?_
        refine r_aload_n B dL_law_1401 rfl rfl ?_
        refine r_aload_n B dL_law_1402 rfl rfl ?_
        refine r_iload_n B dL_law_1403 rfl rfl ?_
        refine r_iconst B dL_law_1404 ?_
        refine r_iadd B dL_law_1405 ?_
        obtain ⟨h344, v⟩ := v
        refine r_sld B SC h344 dL_law_1406 ?_
        refine r_aload_n B dL_law_1407 rfl rfl ?_
        refine r_iload_n B dL_law_1408 rfl rfl ?_
        refine r_iconst B dL_law_1409 ?_
        refine r_iadd B dL_law_1410 ?_
        obtain ⟨h345, v⟩ := v
        refine r_sld B SC h345 dL_law_1411 ?_
        refine r_cI B (st := []) (as := [.int (i2 (X (x3 + 1))), .int (i2 (X (x3 + 2)))]) (T := TX10) (N := 11) (c_X_soonest (X (x3 + 1)) (X (x3 + 2)) _ hI ((hX _)) ((hX _))) v o_0 rfl mw_X_soonest wl_L_175 ⟨Nat.le_of_ble_eq_true rfl, Nat.le_of_ble_eq_true rfl⟩ rfl rfl (Nat.le_of_ble_eq_true rfl) dL_law_1412 (fun z346 I347 hz346 hI347 v => ?_)
        refine r_aload_n B dL_law_1415 rfl rfl ?_
        refine r_aload_n B dL_law_1416 rfl rfl ?_
        refine r_iload_n B dL_law_1417 rfl rfl ?_
        refine r_iconst B dL_law_1418 ?_
        refine r_iadd B dL_law_1419 ?_
        obtain ⟨h348, v⟩ := v
        refine r_sld B SC h348 dL_law_1420 ?_
        refine r_aload_n B dL_law_1421 rfl rfl ?_
        refine r_iload_n B dL_law_1422 rfl rfl ?_
        refine r_iconst B dL_law_1423 ?_
        refine r_iadd B dL_law_1424 ?_
        obtain ⟨h349, v⟩ := v
        refine r_sld B SC h349 dL_law_1425 ?_
        refine r_cI B (st := [.int (i2 z346)]) (as := [.int (i2 (X (x3 + 1))), .int (i2 (X (x3 + 2)))]) (T := TX11) (N := 25) (c_M_soonest (X (x3 + 1)) (X (x3 + 2)) _ hI347 ((hX _)) ((hX _))) v o_236 rfl mw_M_soonest wl_L_178 ⟨Nat.le_of_ble_eq_true rfl, Nat.le_of_ble_eq_true rfl⟩ rfl rfl (Nat.le_of_ble_eq_true rfl) dL_law_1426 (fun z350 I351 hz350 hI351 v => ?_)
        refine r_icmp_eq B (tgt := 1837) dL_law_1429 (by decide) hz346 hz350 (fun h => ?_) (fun h => ?_)
        · have v := v.1 h
          refine r_iinc B (q := 3) dL_law_1837 (by decide) rfl (lv' := [(3, .int (i2 (x3 + 6))), (0, .ref b), (1, .ref (eA E 0)), (2, .ref (eA E 236))]) rfl ?_
          refine r_sub [1, 2, 3, 0] rfl ?_
          refine r_goto B (tgt := 18) dL_law_1840 (by decide) ?_
          obtain ⟨h352, v⟩ := v
          refine r_sub [0, 1, 2, 3] rfl ?_
          exact ih (x3 + 6) _ hI351 h352 v
        · have v := v.2 h
          refine r_iconst B dL_law_1432 ?_
          exact absurd v id
      · have v := v.2.2.2.2.2.2.2.2.2.2.2.2.2.2.2.2.2.2.2.2.2.2.2.2.2.2.2.2.2.2.2.2.2.2.2.2.2.2.2.2.1 hcs
        refine r_tabIn B (tgt := 1434) dL_law_33 ((rg_and _ _)) 40 hcs (by decide) (by decide) rfl (by decide) ?_
        refine r_aload_n B dL_law_1434 rfl rfl ?_
        refine r_aload_n B dL_law_1435 rfl rfl ?_
        refine r_iload_n B dL_law_1436 rfl rfl ?_
        refine r_iconst B dL_law_1437 ?_
        refine r_iadd B dL_law_1438 ?_
        obtain ⟨h353, v⟩ := v
        refine r_sld B SC h353 dL_law_1439 ?_
        refine r_cI B (st := []) (as := [.int (i2 (X (x3 + 1)))]) (T := TX10) (N := 11) (c_X_day (X (x3 + 1)) _ hI ((hX _))) v o_0 rfl mw_X_day wl_L_179 ⟨Nat.le_of_ble_eq_true rfl, Nat.le_of_ble_eq_true rfl⟩ rfl rfl (Nat.le_of_ble_eq_true rfl) dL_law_1440 (fun z354 I355 hz354 hI355 v => ?_)
        refine r_aload_n B dL_law_1443 rfl rfl ?_
        refine r_aload_n B dL_law_1444 rfl rfl ?_
        refine r_iload_n B dL_law_1445 rfl rfl ?_
        refine r_iconst B dL_law_1446 ?_
        refine r_iadd B dL_law_1447 ?_
        obtain ⟨h356, v⟩ := v
        refine r_sld B SC h356 dL_law_1448 ?_
        refine r_cI B (st := [.int (i2 z354)]) (as := [.int (i2 (X (x3 + 1)))]) (T := TX11) (N := 25) (c_M_day (X (x3 + 1)) _ hI355 ((hX _))) v o_236 rfl mw_M_day wl_L_182 ⟨Nat.le_of_ble_eq_true rfl, Nat.le_of_ble_eq_true rfl⟩ rfl rfl (Nat.le_of_ble_eq_true rfl) dL_law_1449 (fun z357 I358 hz357 hI358 v => ?_)
        refine r_icmp_eq B (tgt := 1837) dL_law_1452 (by decide) hz354 hz357 (fun h => ?_) (fun h => ?_)
        · have v := v.1 h
          refine r_iinc B (q := 3) dL_law_1837 (by decide) rfl (lv' := [(3, .int (i2 (x3 + 6))), (0, .ref b), (1, .ref (eA E 0)), (2, .ref (eA E 236))]) rfl ?_
          refine r_sub [1, 2, 3, 0] rfl ?_
          refine r_goto B (tgt := 18) dL_law_1840 (by decide) ?_
          obtain ⟨h359, v⟩ := v
          refine r_sub [0, 1, 2, 3] rfl ?_
          exact ih (x3 + 6) _ hI358 h359 v
        · have v := v.2 h
          refine r_iconst B dL_law_1455 ?_
          exact absurd v id
      · have v := v.2.2.2.2.2.2.2.2.2.2.2.2.2.2.2.2.2.2.2.2.2.2.2.2.2.2.2.2.2.2.2.2.2.2.2.2.2.2.2.2.2.1 hcs
        refine r_tabIn B (tgt := 1457) dL_law_33 ((rg_and _ _)) 41 hcs (by decide) (by decide) rfl (by decide) ?_
        refine r_aload_n B dL_law_1457 rfl rfl ?_
        refine r_aload_n B dL_law_1458 rfl rfl ?_
        refine r_iload_n B dL_law_1459 rfl rfl ?_
        refine r_iconst B dL_law_1460 ?_
        refine r_iadd B dL_law_1461 ?_
        obtain ⟨h360, v⟩ := v
        refine r_sld B SC h360 dL_law_1462 ?_
        refine r_aload_n B dL_law_1463 rfl rfl ?_
        refine r_iload_n B dL_law_1464 rfl rfl ?_
        refine r_iconst B dL_law_1465 ?_
        refine r_iadd B dL_law_1466 ?_
        obtain ⟨h361, v⟩ := v
        refine r_sld B SC h361 dL_law_1467 ?_
        refine r_cI B (st := []) (as := [.int (i2 (X (x3 + 1))), .int (i2 (X (x3 + 2)))]) (T := TX10) (N := 11) (c_X_free (X (x3 + 1)) (X (x3 + 2)) _ hI ((hX _)) ((hX _))) v o_0 rfl mw_X_free wl_L_183 ⟨Nat.le_of_ble_eq_true rfl, Nat.le_of_ble_eq_true rfl⟩ rfl rfl (Nat.le_of_ble_eq_true rfl) dL_law_1468 (fun z362 I363 hz362 hI363 v => ?_)
        refine r_aload_n B dL_law_1471 rfl rfl ?_
        refine r_aload_n B dL_law_1472 rfl rfl ?_
        refine r_iload_n B dL_law_1473 rfl rfl ?_
        refine r_iconst B dL_law_1474 ?_
        refine r_iadd B dL_law_1475 ?_
        obtain ⟨h364, v⟩ := v
        refine r_sld B SC h364 dL_law_1476 ?_
        refine r_aload_n B dL_law_1477 rfl rfl ?_
        refine r_iload_n B dL_law_1478 rfl rfl ?_
        refine r_iconst B dL_law_1479 ?_
        refine r_iadd B dL_law_1480 ?_
        obtain ⟨h365, v⟩ := v
        refine r_sld B SC h365 dL_law_1481 ?_
        refine r_cI B (st := [.int (i2 z362)]) (as := [.int (i2 (X (x3 + 1))), .int (i2 (X (x3 + 2)))]) (T := TX11) (N := 25) (c_M_free (X (x3 + 1)) (X (x3 + 2)) _ hI363 ((hX _)) ((hX _))) v o_236 rfl mw_M_free wl_L_186 ⟨Nat.le_of_ble_eq_true rfl, Nat.le_of_ble_eq_true rfl⟩ rfl rfl (Nat.le_of_ble_eq_true rfl) dL_law_1482 (fun z366 I367 hz366 hI367 v => ?_)
        refine r_icmp_eq B (tgt := 1837) dL_law_1485 (by decide) hz362 hz366 (fun h => ?_) (fun h => ?_)
        · have v := v.1 h
          refine r_iinc B (q := 3) dL_law_1837 (by decide) rfl (lv' := [(3, .int (i2 (x3 + 6))), (0, .ref b), (1, .ref (eA E 0)), (2, .ref (eA E 236))]) rfl ?_
          refine r_sub [1, 2, 3, 0] rfl ?_
          refine r_goto B (tgt := 18) dL_law_1840 (by decide) ?_
          obtain ⟨h368, v⟩ := v
          refine r_sub [0, 1, 2, 3] rfl ?_
          exact ih (x3 + 6) _ hI367 h368 v
        · have v := v.2 h
          refine r_iconst B dL_law_1488 ?_
          exact absurd v id
      · have v := v.2.2.2.2.2.2.2.2.2.2.2.2.2.2.2.2.2.2.2.2.2.2.2.2.2.2.2.2.2.2.2.2.2.2.2.2.2.2.2.2.2.2.1 hcs
        refine r_tabIn B (tgt := 1490) dL_law_33 ((rg_and _ _)) 42 hcs (by decide) (by decide) rfl (by decide) ?_
        refine r_aload_n B dL_law_1490 rfl rfl ?_
        refine r_aload_n B dL_law_1491 rfl rfl ?_
        refine r_iload_n B dL_law_1492 rfl rfl ?_
        refine r_iconst B dL_law_1493 ?_
        refine r_iadd B dL_law_1494 ?_
        obtain ⟨h369, v⟩ := v
        refine r_sld B SC h369 dL_law_1495 ?_
        refine r_cI B (st := []) (as := [.int (i2 (X (x3 + 1)))]) (T := TX10) (N := 11) (c_X_pair (X (x3 + 1)) _ hI ((hX _))) v o_0 rfl mw_X_pair wl_L_187 ⟨Nat.le_of_ble_eq_true rfl, Nat.le_of_ble_eq_true rfl⟩ rfl rfl (Nat.le_of_ble_eq_true rfl) dL_law_1496 (fun z370 I371 hz370 hI371 v => ?_)
        refine r_aload_n B dL_law_1499 rfl rfl ?_
        refine r_aload_n B dL_law_1500 rfl rfl ?_
        refine r_iload_n B dL_law_1501 rfl rfl ?_
        refine r_iconst B dL_law_1502 ?_
        refine r_iadd B dL_law_1503 ?_
        obtain ⟨h372, v⟩ := v
        refine r_sld B SC h372 dL_law_1504 ?_
        refine r_cI B (st := [.int (i2 z370)]) (as := [.int (i2 (X (x3 + 1)))]) (T := TX11) (N := 25) (c_M_pair (X (x3 + 1)) _ hI371 ((hX _))) v o_236 rfl mw_M_pair wl_L_190 ⟨Nat.le_of_ble_eq_true rfl, Nat.le_of_ble_eq_true rfl⟩ rfl rfl (Nat.le_of_ble_eq_true rfl) dL_law_1505 (fun z373 I374 hz373 hI374 v => ?_)
        refine r_icmp_eq B (tgt := 1837) dL_law_1508 (by decide) hz370 hz373 (fun h => ?_) (fun h => ?_)
        · have v := v.1 h
          refine r_iinc B (q := 3) dL_law_1837 (by decide) rfl (lv' := [(3, .int (i2 (x3 + 6))), (0, .ref b), (1, .ref (eA E 0)), (2, .ref (eA E 236))]) rfl ?_
          refine r_sub [1, 2, 3, 0] rfl ?_
          refine r_goto B (tgt := 18) dL_law_1840 (by decide) ?_
          obtain ⟨h375, v⟩ := v
          refine r_sub [0, 1, 2, 3] rfl ?_
          exact ih (x3 + 6) _ hI374 h375 v
        · have v := v.2 h
          refine r_iconst B dL_law_1511 ?_
          exact absurd v id
      · have v := v.2.2.2.2.2.2.2.2.2.2.2.2.2.2.2.2.2.2.2.2.2.2.2.2.2.2.2.2.2.2.2.2.2.2.2.2.2.2.2.2.2.2.2.1 hcs
        refine r_tabIn B (tgt := 1513) dL_law_33 ((rg_and _ _)) 43 hcs (by decide) (by decide) rfl (by decide) ?_
        refine r_aload_n B dL_law_1513 rfl rfl ?_
        refine r_aload_n B dL_law_1514 rfl rfl ?_
        refine r_iload_n B dL_law_1515 rfl rfl ?_
        refine r_iconst B dL_law_1516 ?_
        refine r_iadd B dL_law_1517 ?_
        obtain ⟨h376, v⟩ := v
        refine r_sld B SC h376 dL_law_1518 ?_
        refine r_aload_n B dL_law_1519 rfl rfl ?_
        refine r_iload_n B dL_law_1520 rfl rfl ?_
        refine r_iconst B dL_law_1521 ?_
        refine r_iadd B dL_law_1522 ?_
        obtain ⟨h377, v⟩ := v
        refine r_sld B SC h377 dL_law_1523 ?_
        refine r_cI B (st := []) (as := [.int (i2 (X (x3 + 1))), .int (i2 (X (x3 + 2)))]) (T := TX10) (N := 11) (c_X_when (X (x3 + 1)) (X (x3 + 2)) _ hI ((hX _)) ((hX _))) v o_0 rfl mw_X_when wl_L_191 ⟨Nat.le_of_ble_eq_true rfl, Nat.le_of_ble_eq_true rfl⟩ rfl rfl (Nat.le_of_ble_eq_true rfl) dL_law_1524 (fun z378 I379 hz378 hI379 v => ?_)
        refine r_aload_n B dL_law_1527 rfl rfl ?_
        refine r_aload_n B dL_law_1528 rfl rfl ?_
        refine r_iload_n B dL_law_1529 rfl rfl ?_
        refine r_iconst B dL_law_1530 ?_
        refine r_iadd B dL_law_1531 ?_
        obtain ⟨h380, v⟩ := v
        refine r_sld B SC h380 dL_law_1532 ?_
        refine r_aload_n B dL_law_1533 rfl rfl ?_
        refine r_iload_n B dL_law_1534 rfl rfl ?_
        refine r_iconst B dL_law_1535 ?_
        refine r_iadd B dL_law_1536 ?_
        obtain ⟨h381, v⟩ := v
        refine r_sld B SC h381 dL_law_1537 ?_
        refine r_cI B (st := [.int (i2 z378)]) (as := [.int (i2 (X (x3 + 1))), .int (i2 (X (x3 + 2)))]) (T := TX11) (N := 25) (c_M_when (X (x3 + 1)) (X (x3 + 2)) _ hI379 ((hX _)) ((hX _))) v o_236 rfl mw_M_when wl_L_194 ⟨Nat.le_of_ble_eq_true rfl, Nat.le_of_ble_eq_true rfl⟩ rfl rfl (Nat.le_of_ble_eq_true rfl) dL_law_1538 (fun z382 I383 hz382 hI383 v => ?_)
        refine r_icmp_eq B (tgt := 1837) dL_law_1541 (by decide) hz378 hz382 (fun h => ?_) (fun h => ?_)
        · have v := v.1 h
          refine r_iinc B (q := 3) dL_law_1837 (by decide) rfl (lv' := [(3, .int (i2 (x3 + 6))), (0, .ref b), (1, .ref (eA E 0)), (2, .ref (eA E 236))]) rfl ?_
          refine r_sub [1, 2, 3, 0] rfl ?_
          refine r_goto B (tgt := 18) dL_law_1840 (by decide) ?_
          obtain ⟨h384, v⟩ := v
          refine r_sub [0, 1, 2, 3] rfl ?_
          exact ih (x3 + 6) _ hI383 h384 v
        · have v := v.2 h
          refine r_iconst B dL_law_1544 ?_
          exact absurd v id
      · have v := v.2.2.2.2.2.2.2.2.2.2.2.2.2.2.2.2.2.2.2.2.2.2.2.2.2.2.2.2.2.2.2.2.2.2.2.2.2.2.2.2.2.2.2.2.1 hcs
        refine r_tabIn B (tgt := 1546) dL_law_33 ((rg_and _ _)) 44 hcs (by decide) (by decide) rfl (by decide) ?_
        refine r_aload_n B dL_law_1546 rfl rfl ?_
        refine r_aload_n B dL_law_1547 rfl rfl ?_
        refine r_iload_n B dL_law_1548 rfl rfl ?_
        refine r_iconst B dL_law_1549 ?_
        refine r_iadd B dL_law_1550 ?_
        obtain ⟨h385, v⟩ := v
        refine r_sld B SC h385 dL_law_1551 ?_
        refine r_aload_n B dL_law_1552 rfl rfl ?_
        refine r_iload_n B dL_law_1553 rfl rfl ?_
        refine r_iconst B dL_law_1554 ?_
        refine r_iadd B dL_law_1555 ?_
        obtain ⟨h386, v⟩ := v
        refine r_sld B SC h386 dL_law_1556 ?_
        refine r_cI B (st := []) (as := [.int (i2 (X (x3 + 1))), .int (i2 (X (x3 + 2)))]) (T := TX10) (N := 11) (c_X_same (X (x3 + 1)) (X (x3 + 2)) _ hI ((hX _)) ((hX _))) v o_0 rfl mw_X_same wl_L_195 ⟨Nat.le_of_ble_eq_true rfl, Nat.le_of_ble_eq_true rfl⟩ rfl rfl (Nat.le_of_ble_eq_true rfl) dL_law_1557 (fun z387 I388 hz387 hI388 v => ?_)
        refine r_aload_n B dL_law_1560 rfl rfl ?_
        refine r_aload_n B dL_law_1561 rfl rfl ?_
        refine r_iload_n B dL_law_1562 rfl rfl ?_
        refine r_iconst B dL_law_1563 ?_
        refine r_iadd B dL_law_1564 ?_
        obtain ⟨h389, v⟩ := v
        refine r_sld B SC h389 dL_law_1565 ?_
        refine r_aload_n B dL_law_1566 rfl rfl ?_
        refine r_iload_n B dL_law_1567 rfl rfl ?_
        refine r_iconst B dL_law_1568 ?_
        refine r_iadd B dL_law_1569 ?_
        obtain ⟨h390, v⟩ := v
        refine r_sld B SC h390 dL_law_1570 ?_
        refine r_cI B (st := [.int (i2 z387)]) (as := [.int (i2 (X (x3 + 1))), .int (i2 (X (x3 + 2)))]) (T := TX11) (N := 25) (c_M_same (X (x3 + 1)) (X (x3 + 2)) _ hI388 ((hX _)) ((hX _))) v o_236 rfl mw_M_same wl_L_198 ⟨Nat.le_of_ble_eq_true rfl, Nat.le_of_ble_eq_true rfl⟩ rfl rfl (Nat.le_of_ble_eq_true rfl) dL_law_1571 (fun z391 I392 hz391 hI392 v => ?_)
        refine r_icmp_eq B (tgt := 1837) dL_law_1574 (by decide) hz387 hz391 (fun h => ?_) (fun h => ?_)
        · have v := v.1 h
          refine r_iinc B (q := 3) dL_law_1837 (by decide) rfl (lv' := [(3, .int (i2 (x3 + 6))), (0, .ref b), (1, .ref (eA E 0)), (2, .ref (eA E 236))]) rfl ?_
          refine r_sub [1, 2, 3, 0] rfl ?_
          refine r_goto B (tgt := 18) dL_law_1840 (by decide) ?_
          obtain ⟨h393, v⟩ := v
          refine r_sub [0, 1, 2, 3] rfl ?_
          exact ih (x3 + 6) _ hI392 h393 v
        · have v := v.2 h
          refine r_iconst B dL_law_1577 ?_
          exact absurd v id
      · have v := v.2.2.2.2.2.2.2.2.2.2.2.2.2.2.2.2.2.2.2.2.2.2.2.2.2.2.2.2.2.2.2.2.2.2.2.2.2.2.2.2.2.2.2.2.2.1 hcs
        refine r_tabIn B (tgt := 1579) dL_law_33 ((rg_and _ _)) 45 hcs (by decide) (by decide) rfl (by decide) ?_
        refine r_aload_n B dL_law_1579 rfl rfl ?_
        refine r_aload_n B dL_law_1580 rfl rfl ?_
        refine r_iload_n B dL_law_1581 rfl rfl ?_
        refine r_iconst B dL_law_1582 ?_
        refine r_iadd B dL_law_1583 ?_
        obtain ⟨h394, v⟩ := v
        refine r_sld B SC h394 dL_law_1584 ?_
        refine r_cI B (st := []) (as := [.int (i2 (X (x3 + 1)))]) (T := TX10) (N := 11) (c_X_told (X (x3 + 1)) _ hI ((hX _))) v o_0 rfl mw_X_told wl_L_199 ⟨Nat.le_of_ble_eq_true rfl, Nat.le_of_ble_eq_true rfl⟩ rfl rfl (Nat.le_of_ble_eq_true rfl) dL_law_1585 (fun z395 I396 hz395 hI396 v => ?_)
        refine r_aload_n B dL_law_1588 rfl rfl ?_
        refine r_aload_n B dL_law_1589 rfl rfl ?_
        refine r_iload_n B dL_law_1590 rfl rfl ?_
        refine r_iconst B dL_law_1591 ?_
        refine r_iadd B dL_law_1592 ?_
        obtain ⟨h397, v⟩ := v
        refine r_sld B SC h397 dL_law_1593 ?_
        refine r_cI B (st := [.int (i2 z395)]) (as := [.int (i2 (X (x3 + 1)))]) (T := TX11) (N := 25) (c_M_told (X (x3 + 1)) _ hI396 ((hX _))) v o_236 rfl mw_M_told wl_L_202 ⟨Nat.le_of_ble_eq_true rfl, Nat.le_of_ble_eq_true rfl⟩ rfl rfl (Nat.le_of_ble_eq_true rfl) dL_law_1594 (fun z398 I399 hz398 hI399 v => ?_)
        refine r_icmp_eq B (tgt := 1837) dL_law_1597 (by decide) hz395 hz398 (fun h => ?_) (fun h => ?_)
        · have v := v.1 h
          refine r_iinc B (q := 3) dL_law_1837 (by decide) rfl (lv' := [(3, .int (i2 (x3 + 6))), (0, .ref b), (1, .ref (eA E 0)), (2, .ref (eA E 236))]) rfl ?_
          refine r_sub [1, 2, 3, 0] rfl ?_
          refine r_goto B (tgt := 18) dL_law_1840 (by decide) ?_
          obtain ⟨h400, v⟩ := v
          refine r_sub [0, 1, 2, 3] rfl ?_
          exact ih (x3 + 6) _ hI399 h400 v
        · have v := v.2 h
          refine r_iconst B dL_law_1600 ?_
          exact absurd v id
      · have v := v.2.2.2.2.2.2.2.2.2.2.2.2.2.2.2.2.2.2.2.2.2.2.2.2.2.2.2.2.2.2.2.2.2.2.2.2.2.2.2.2.2.2.2.2.2.2.1 hcs
        refine r_tabIn B (tgt := 1602) dL_law_33 ((rg_and _ _)) 46 hcs (by decide) (by decide) rfl (by decide) ?_
        refine r_aload_n B dL_law_1602 rfl rfl ?_
        refine r_aload_n B dL_law_1603 rfl rfl ?_
        refine r_iload_n B dL_law_1604 rfl rfl ?_
        refine r_iconst B dL_law_1605 ?_
        refine r_iadd B dL_law_1606 ?_
        obtain ⟨h401, v⟩ := v
        refine r_sld B SC h401 dL_law_1607 ?_
        refine r_cI B (st := []) (as := [.int (i2 (X (x3 + 1)))]) (T := TX10) (N := 11) (c_X_share (X (x3 + 1)) _ hI ((hX _))) v o_0 rfl mw_X_share wl_L_203 ⟨Nat.le_of_ble_eq_true rfl, Nat.le_of_ble_eq_true rfl⟩ rfl rfl (Nat.le_of_ble_eq_true rfl) dL_law_1608 (fun z402 I403 hz402 hI403 v => ?_)
        refine r_aload_n B dL_law_1611 rfl rfl ?_
        refine r_aload_n B dL_law_1612 rfl rfl ?_
        refine r_iload_n B dL_law_1613 rfl rfl ?_
        refine r_iconst B dL_law_1614 ?_
        refine r_iadd B dL_law_1615 ?_
        obtain ⟨h404, v⟩ := v
        refine r_sld B SC h404 dL_law_1616 ?_
        refine r_cI B (st := [.int (i2 z402)]) (as := [.int (i2 (X (x3 + 1)))]) (T := TX11) (N := 25) (c_M_share (X (x3 + 1)) _ hI403 ((hX _))) v o_236 rfl mw_M_share wl_L_206 ⟨Nat.le_of_ble_eq_true rfl, Nat.le_of_ble_eq_true rfl⟩ rfl rfl (Nat.le_of_ble_eq_true rfl) dL_law_1617 (fun z405 I406 hz405 hI406 v => ?_)
        refine r_icmp_eq B (tgt := 1837) dL_law_1620 (by decide) hz402 hz405 (fun h => ?_) (fun h => ?_)
        · have v := v.1 h
          refine r_iinc B (q := 3) dL_law_1837 (by decide) rfl (lv' := [(3, .int (i2 (x3 + 6))), (0, .ref b), (1, .ref (eA E 0)), (2, .ref (eA E 236))]) rfl ?_
          refine r_sub [1, 2, 3, 0] rfl ?_
          refine r_goto B (tgt := 18) dL_law_1840 (by decide) ?_
          obtain ⟨h407, v⟩ := v
          refine r_sub [0, 1, 2, 3] rfl ?_
          exact ih (x3 + 6) _ hI406 h407 v
        · have v := v.2 h
          refine r_iconst B dL_law_1623 ?_
          exact absurd v id
      · have v := v.2.2.2.2.2.2.2.2.2.2.2.2.2.2.2.2.2.2.2.2.2.2.2.2.2.2.2.2.2.2.2.2.2.2.2.2.2.2.2.2.2.2.2.2.2.2.2.1 hcs
        refine r_tabIn B (tgt := 1625) dL_law_33 ((rg_and _ _)) 47 hcs (by decide) (by decide) rfl (by decide) ?_
        refine r_aload_n B dL_law_1625 rfl rfl ?_
        refine r_aload_n B dL_law_1626 rfl rfl ?_
        refine r_iload_n B dL_law_1627 rfl rfl ?_
        refine r_iconst B dL_law_1628 ?_
        refine r_iadd B dL_law_1629 ?_
        obtain ⟨h408, v⟩ := v
        refine r_sld B SC h408 dL_law_1630 ?_
        refine r_aload_n B dL_law_1631 rfl rfl ?_
        refine r_iload_n B dL_law_1632 rfl rfl ?_
        refine r_iconst B dL_law_1633 ?_
        refine r_iadd B dL_law_1634 ?_
        obtain ⟨h409, v⟩ := v
        refine r_sld B SC h409 dL_law_1635 ?_
        refine r_cI B (st := []) (as := [.int (i2 (X (x3 + 1))), .int (i2 (X (x3 + 2)))]) (T := TX10) (N := 11) (c_X_bestRows (X (x3 + 1)) (X (x3 + 2)) _ hI ((hX _)) ((hX _))) v o_0 rfl mw_X_bestRows wl_L_207 ⟨Nat.le_of_ble_eq_true rfl, Nat.le_of_ble_eq_true rfl⟩ rfl rfl (Nat.le_of_ble_eq_true rfl) dL_law_1636 (fun z410 I411 hz410 hI411 v => ?_)
        refine r_aload_n B dL_law_1639 rfl rfl ?_
        refine r_aload_n B dL_law_1640 rfl rfl ?_
        refine r_iload_n B dL_law_1641 rfl rfl ?_
        refine r_iconst B dL_law_1642 ?_
        refine r_iadd B dL_law_1643 ?_
        obtain ⟨h412, v⟩ := v
        refine r_sld B SC h412 dL_law_1644 ?_
        refine r_aload_n B dL_law_1645 rfl rfl ?_
        refine r_iload_n B dL_law_1646 rfl rfl ?_
        refine r_iconst B dL_law_1647 ?_
        refine r_iadd B dL_law_1648 ?_
        obtain ⟨h413, v⟩ := v
        refine r_sld B SC h413 dL_law_1649 ?_
        refine r_cI B (st := [.int (i2 z410)]) (as := [.int (i2 (X (x3 + 1))), .int (i2 (X (x3 + 2)))]) (T := TX11) (N := 25) (c_M_bestRows (X (x3 + 1)) (X (x3 + 2)) _ hI411 ((hX _)) ((hX _))) v o_236 rfl mw_M_bestRows wl_L_210 ⟨Nat.le_of_ble_eq_true rfl, Nat.le_of_ble_eq_true rfl⟩ rfl rfl (Nat.le_of_ble_eq_true rfl) dL_law_1650 (fun z414 I415 hz414 hI415 v => ?_)
        refine r_icmp_eq B (tgt := 1837) dL_law_1653 (by decide) hz410 hz414 (fun h => ?_) (fun h => ?_)
        · have v := v.1 h
          refine r_iinc B (q := 3) dL_law_1837 (by decide) rfl (lv' := [(3, .int (i2 (x3 + 6))), (0, .ref b), (1, .ref (eA E 0)), (2, .ref (eA E 236))]) rfl ?_
          refine r_sub [1, 2, 3, 0] rfl ?_
          refine r_goto B (tgt := 18) dL_law_1840 (by decide) ?_
          obtain ⟨h416, v⟩ := v
          refine r_sub [0, 1, 2, 3] rfl ?_
          exact ih (x3 + 6) _ hI415 h416 v
        · have v := v.2 h
          refine r_iconst B dL_law_1656 ?_
          exact absurd v id
      · have v := v.2.2.2.2.2.2.2.2.2.2.2.2.2.2.2.2.2.2.2.2.2.2.2.2.2.2.2.2.2.2.2.2.2.2.2.2.2.2.2.2.2.2.2.2.2.2.2.2.1 hcs
        refine r_tabIn B (tgt := 1658) dL_law_33 ((rg_and _ _)) 48 hcs (by decide) (by decide) rfl (by decide) ?_
        refine r_aload_n B dL_law_1658 rfl rfl ?_
        refine r_aload_n B dL_law_1659 rfl rfl ?_
        refine r_iload_n B dL_law_1660 rfl rfl ?_
        refine r_iconst B dL_law_1661 ?_
        refine r_iadd B dL_law_1662 ?_
        obtain ⟨h417, v⟩ := v
        refine r_sld B SC h417 dL_law_1663 ?_
        refine r_aload_n B dL_law_1664 rfl rfl ?_
        refine r_iload_n B dL_law_1665 rfl rfl ?_
        refine r_iconst B dL_law_1666 ?_
        refine r_iadd B dL_law_1667 ?_
        obtain ⟨h418, v⟩ := v
        refine r_sld B SC h418 dL_law_1668 ?_
        refine r_aload_n B dL_law_1669 rfl rfl ?_
        refine r_iload_n B dL_law_1670 rfl rfl ?_
        refine r_iconst B dL_law_1671 ?_
        refine r_iadd B dL_law_1672 ?_
        obtain ⟨h419, v⟩ := v
        refine r_sld B SC h419 dL_law_1673 ?_
        refine r_cI B (st := []) (as := [.int (i2 (X (x3 + 1))), .int (i2 (X (x3 + 2))), .int (i2 (X (x3 + 3)))]) (T := TX10) (N := 11) (c_X_skewBy (X (x3 + 1)) (X (x3 + 2)) (X (x3 + 3)) _ hI ((hX _)) ((hX _)) ((hX _))) v o_0 rfl mw_X_skewBy wl_L_211 ⟨Nat.le_of_ble_eq_true rfl, Nat.le_of_ble_eq_true rfl⟩ rfl rfl (Nat.le_of_ble_eq_true rfl) dL_law_1674 (fun z420 I421 hz420 hI421 v => ?_)
        refine r_aload_n B dL_law_1677 rfl rfl ?_
        refine r_aload_n B dL_law_1678 rfl rfl ?_
        refine r_iload_n B dL_law_1679 rfl rfl ?_
        refine r_iconst B dL_law_1680 ?_
        refine r_iadd B dL_law_1681 ?_
        obtain ⟨h422, v⟩ := v
        refine r_sld B SC h422 dL_law_1682 ?_
        refine r_aload_n B dL_law_1683 rfl rfl ?_
        refine r_iload_n B dL_law_1684 rfl rfl ?_
        refine r_iconst B dL_law_1685 ?_
        refine r_iadd B dL_law_1686 ?_
        obtain ⟨h423, v⟩ := v
        refine r_sld B SC h423 dL_law_1687 ?_
        refine r_aload_n B dL_law_1688 rfl rfl ?_
        refine r_iload_n B dL_law_1689 rfl rfl ?_
        refine r_iconst B dL_law_1690 ?_
        refine r_iadd B dL_law_1691 ?_
        obtain ⟨h424, v⟩ := v
        refine r_sld B SC h424 dL_law_1692 ?_
        refine r_cI B (st := [.int (i2 z420)]) (as := [.int (i2 (X (x3 + 1))), .int (i2 (X (x3 + 2))), .int (i2 (X (x3 + 3)))]) (T := TX11) (N := 25) (c_M_skewBy (X (x3 + 1)) (X (x3 + 2)) (X (x3 + 3)) _ hI421 ((hX _)) ((hX _)) ((hX _))) v o_236 rfl mw_M_skewBy wl_L_214 ⟨Nat.le_of_ble_eq_true rfl, Nat.le_of_ble_eq_true rfl⟩ rfl rfl (Nat.le_of_ble_eq_true rfl) dL_law_1693 (fun z425 I426 hz425 hI426 v => ?_)
        refine r_icmp_eq B (tgt := 1837) dL_law_1696 (by decide) hz420 hz425 (fun h => ?_) (fun h => ?_)
        · have v := v.1 h
          refine r_iinc B (q := 3) dL_law_1837 (by decide) rfl (lv' := [(3, .int (i2 (x3 + 6))), (0, .ref b), (1, .ref (eA E 0)), (2, .ref (eA E 236))]) rfl ?_
          refine r_sub [1, 2, 3, 0] rfl ?_
          refine r_goto B (tgt := 18) dL_law_1840 (by decide) ?_
          obtain ⟨h427, v⟩ := v
          refine r_sub [0, 1, 2, 3] rfl ?_
          exact ih (x3 + 6) _ hI426 h427 v
        · have v := v.2 h
          refine r_iconst B dL_law_1699 ?_
          exact absurd v id
      · have v := v.2.2.2.2.2.2.2.2.2.2.2.2.2.2.2.2.2.2.2.2.2.2.2.2.2.2.2.2.2.2.2.2.2.2.2.2.2.2.2.2.2.2.2.2.2.2.2.2.2.1 hcs
        refine r_tabIn B (tgt := 1701) dL_law_33 ((rg_and _ _)) 49 hcs (by decide) (by decide) rfl (by decide) ?_
        refine r_aload_n B dL_law_1701 rfl rfl ?_
        refine r_aload_n B dL_law_1702 rfl rfl ?_
        refine r_iload_n B dL_law_1703 rfl rfl ?_
        refine r_iconst B dL_law_1704 ?_
        refine r_iadd B dL_law_1705 ?_
        obtain ⟨h428, v⟩ := v
        refine r_sld B SC h428 dL_law_1706 ?_
        refine r_cI B (st := []) (as := [.int (i2 (X (x3 + 1)))]) (T := TX10) (N := 11) (c_X_longest (X (x3 + 1)) _ hI ((hX _))) v o_0 rfl mw_X_longest wl_L_215 ⟨Nat.le_of_ble_eq_true rfl, Nat.le_of_ble_eq_true rfl⟩ rfl rfl (Nat.le_of_ble_eq_true rfl) dL_law_1707 (fun z429 I430 hz429 hI430 v => ?_)
        refine r_aload_n B dL_law_1710 rfl rfl ?_
        refine r_aload_n B dL_law_1711 rfl rfl ?_
        refine r_iload_n B dL_law_1712 rfl rfl ?_
        refine r_iconst B dL_law_1713 ?_
        refine r_iadd B dL_law_1714 ?_
        obtain ⟨h431, v⟩ := v
        refine r_sld B SC h431 dL_law_1715 ?_
        refine r_cI B (st := [.int (i2 z429)]) (as := [.int (i2 (X (x3 + 1)))]) (T := TX11) (N := 25) (c_M_longest (X (x3 + 1)) _ hI430 ((hX _))) v o_236 rfl mw_M_longest wl_L_218 ⟨Nat.le_of_ble_eq_true rfl, Nat.le_of_ble_eq_true rfl⟩ rfl rfl (Nat.le_of_ble_eq_true rfl) dL_law_1716 (fun z432 I433 hz432 hI433 v => ?_)
        refine r_icmp_eq B (tgt := 1837) dL_law_1719 (by decide) hz429 hz432 (fun h => ?_) (fun h => ?_)
        · have v := v.1 h
          refine r_iinc B (q := 3) dL_law_1837 (by decide) rfl (lv' := [(3, .int (i2 (x3 + 6))), (0, .ref b), (1, .ref (eA E 0)), (2, .ref (eA E 236))]) rfl ?_
          refine r_sub [1, 2, 3, 0] rfl ?_
          refine r_goto B (tgt := 18) dL_law_1840 (by decide) ?_
          obtain ⟨h434, v⟩ := v
          refine r_sub [0, 1, 2, 3] rfl ?_
          exact ih (x3 + 6) _ hI433 h434 v
        · have v := v.2 h
          refine r_iconst B dL_law_1722 ?_
          exact absurd v id
      · have v := v.2.2.2.2.2.2.2.2.2.2.2.2.2.2.2.2.2.2.2.2.2.2.2.2.2.2.2.2.2.2.2.2.2.2.2.2.2.2.2.2.2.2.2.2.2.2.2.2.2.2.1 hcs
        refine r_tabIn B (tgt := 1724) dL_law_33 ((rg_and _ _)) 50 hcs (by decide) (by decide) rfl (by decide) ?_
        refine r_aload_n B dL_law_1724 rfl rfl ?_
        refine r_aload_n B dL_law_1725 rfl rfl ?_
        refine r_iload_n B dL_law_1726 rfl rfl ?_
        refine r_iconst B dL_law_1727 ?_
        refine r_iadd B dL_law_1728 ?_
        obtain ⟨h435, v⟩ := v
        refine r_sld B SC h435 dL_law_1729 ?_
        refine r_aload_n B dL_law_1730 rfl rfl ?_
        refine r_iload_n B dL_law_1731 rfl rfl ?_
        refine r_iconst B dL_law_1732 ?_
        refine r_iadd B dL_law_1733 ?_
        obtain ⟨h436, v⟩ := v
        refine r_sld B SC h436 dL_law_1734 ?_
        refine r_aload_n B dL_law_1735 rfl rfl ?_
        refine r_iload_n B dL_law_1736 rfl rfl ?_
        refine r_iconst B dL_law_1737 ?_
        refine r_iadd B dL_law_1738 ?_
        obtain ⟨h437, v⟩ := v
        refine r_sld B SC h437 dL_law_1739 ?_
        refine r_cI B (st := []) (as := [.int (i2 (X (x3 + 1))), .int (i2 (X (x3 + 2))), .int (i2 (X (x3 + 3)))]) (T := TX10) (N := 11) (c_X_way (X (x3 + 1)) (X (x3 + 2)) (X (x3 + 3)) _ hI ((hX _)) ((hX _)) ((hX _))) v o_0 rfl mw_X_way wl_L_219 ⟨Nat.le_of_ble_eq_true rfl, Nat.le_of_ble_eq_true rfl⟩ rfl rfl (Nat.le_of_ble_eq_true rfl) dL_law_1740 (fun z438 I439 hz438 hI439 v => ?_)
        refine r_aload_n B dL_law_1743 rfl rfl ?_
        refine r_aload_n B dL_law_1744 rfl rfl ?_
        refine r_iload_n B dL_law_1745 rfl rfl ?_
        refine r_iconst B dL_law_1746 ?_
        refine r_iadd B dL_law_1747 ?_
        obtain ⟨h440, v⟩ := v
        refine r_sld B SC h440 dL_law_1748 ?_
        refine r_aload_n B dL_law_1749 rfl rfl ?_
        refine r_iload_n B dL_law_1750 rfl rfl ?_
        refine r_iconst B dL_law_1751 ?_
        refine r_iadd B dL_law_1752 ?_
        obtain ⟨h441, v⟩ := v
        refine r_sld B SC h441 dL_law_1753 ?_
        refine r_aload_n B dL_law_1754 rfl rfl ?_
        refine r_iload_n B dL_law_1755 rfl rfl ?_
        refine r_iconst B dL_law_1756 ?_
        refine r_iadd B dL_law_1757 ?_
        obtain ⟨h442, v⟩ := v
        refine r_sld B SC h442 dL_law_1758 ?_
        refine r_cI B (st := [.int (i2 z438)]) (as := [.int (i2 (X (x3 + 1))), .int (i2 (X (x3 + 2))), .int (i2 (X (x3 + 3)))]) (T := TX11) (N := 25) (c_M_way (X (x3 + 1)) (X (x3 + 2)) (X (x3 + 3)) _ hI439 ((hX _)) ((hX _)) ((hX _))) v o_236 rfl mw_M_way wl_L_222 ⟨Nat.le_of_ble_eq_true rfl, Nat.le_of_ble_eq_true rfl⟩ rfl rfl (Nat.le_of_ble_eq_true rfl) dL_law_1759 (fun z443 I444 hz443 hI444 v => ?_)
        refine r_icmp_eq B (tgt := 1837) dL_law_1762 (by decide) hz438 hz443 (fun h => ?_) (fun h => ?_)
        · have v := v.1 h
          refine r_iinc B (q := 3) dL_law_1837 (by decide) rfl (lv' := [(3, .int (i2 (x3 + 6))), (0, .ref b), (1, .ref (eA E 0)), (2, .ref (eA E 236))]) rfl ?_
          refine r_sub [1, 2, 3, 0] rfl ?_
          refine r_goto B (tgt := 18) dL_law_1840 (by decide) ?_
          obtain ⟨h445, v⟩ := v
          refine r_sub [0, 1, 2, 3] rfl ?_
          exact ih (x3 + 6) _ hI444 h445 v
        · have v := v.2 h
          refine r_iconst B dL_law_1765 ?_
          exact absurd v id
      · have v := v.2.2.2.2.2.2.2.2.2.2.2.2.2.2.2.2.2.2.2.2.2.2.2.2.2.2.2.2.2.2.2.2.2.2.2.2.2.2.2.2.2.2.2.2.2.2.2.2.2.2.2.1 hcs
        refine r_tabIn B (tgt := 1767) dL_law_33 ((rg_and _ _)) 51 hcs (by decide) (by decide) rfl (by decide) ?_
        refine r_aload_n B dL_law_1767 rfl rfl ?_
        refine r_aload_n B dL_law_1768 rfl rfl ?_
        refine r_iload_n B dL_law_1769 rfl rfl ?_
        refine r_iconst B dL_law_1770 ?_
        refine r_iadd B dL_law_1771 ?_
        obtain ⟨h446, v⟩ := v
        refine r_sld B SC h446 dL_law_1772 ?_
        refine r_aload_n B dL_law_1773 rfl rfl ?_
        refine r_iload_n B dL_law_1774 rfl rfl ?_
        refine r_iconst B dL_law_1775 ?_
        refine r_iadd B dL_law_1776 ?_
        obtain ⟨h447, v⟩ := v
        refine r_sld B SC h447 dL_law_1777 ?_
        refine r_cI B (st := []) (as := [.int (i2 (X (x3 + 1))), .int (i2 (X (x3 + 2)))]) (T := TX10) (N := 11) (c_X_by (X (x3 + 1)) (X (x3 + 2)) _ hI ((hX _)) ((hX _))) v o_0 rfl mw_X_by wl_L_223 ⟨Nat.le_of_ble_eq_true rfl, Nat.le_of_ble_eq_true rfl⟩ rfl rfl (Nat.le_of_ble_eq_true rfl) dL_law_1778 (fun z448 I449 hz448 hI449 v => ?_)
        refine r_aload_n B dL_law_1781 rfl rfl ?_
        refine r_aload_n B dL_law_1782 rfl rfl ?_
        refine r_iload_n B dL_law_1783 rfl rfl ?_
        refine r_iconst B dL_law_1784 ?_
        refine r_iadd B dL_law_1785 ?_
        obtain ⟨h450, v⟩ := v
        refine r_sld B SC h450 dL_law_1786 ?_
        refine r_aload_n B dL_law_1787 rfl rfl ?_
        refine r_iload_n B dL_law_1788 rfl rfl ?_
        refine r_iconst B dL_law_1789 ?_
        refine r_iadd B dL_law_1790 ?_
        obtain ⟨h451, v⟩ := v
        refine r_sld B SC h451 dL_law_1791 ?_
        refine r_cI B (st := [.int (i2 z448)]) (as := [.int (i2 (X (x3 + 1))), .int (i2 (X (x3 + 2)))]) (T := TX11) (N := 25) (c_M_by (X (x3 + 1)) (X (x3 + 2)) _ hI449 ((hX _)) ((hX _))) v o_236 rfl mw_M_by wl_L_226 ⟨Nat.le_of_ble_eq_true rfl, Nat.le_of_ble_eq_true rfl⟩ rfl rfl (Nat.le_of_ble_eq_true rfl) dL_law_1792 (fun z452 I453 hz452 hI453 v => ?_)
        refine r_icmp_eq B (tgt := 1837) dL_law_1795 (by decide) hz448 hz452 (fun h => ?_) (fun h => ?_)
        · have v := v.1 h
          refine r_iinc B (q := 3) dL_law_1837 (by decide) rfl (lv' := [(3, .int (i2 (x3 + 6))), (0, .ref b), (1, .ref (eA E 0)), (2, .ref (eA E 236))]) rfl ?_
          refine r_sub [1, 2, 3, 0] rfl ?_
          refine r_goto B (tgt := 18) dL_law_1840 (by decide) ?_
          obtain ⟨h454, v⟩ := v
          refine r_sub [0, 1, 2, 3] rfl ?_
          exact ih (x3 + 6) _ hI453 h454 v
        · have v := v.2 h
          refine r_iconst B dL_law_1798 ?_
          exact absurd v id
      · have v := v.2.2.2.2.2.2.2.2.2.2.2.2.2.2.2.2.2.2.2.2.2.2.2.2.2.2.2.2.2.2.2.2.2.2.2.2.2.2.2.2.2.2.2.2.2.2.2.2.2.2.2.2.1 hcs
        refine r_tabIn B (tgt := 1800) dL_law_33 ((rg_and _ _)) 52 hcs (by decide) (by decide) rfl (by decide) ?_
        refine r_aload_n B dL_law_1800 rfl rfl ?_
        refine r_cL B (st := []) (as := []) (T := TX10) (N := 11) (c_X_digest _ hI ) v o_0 rfl mw_X_digest wl_L_227 ⟨Nat.le_of_ble_eq_true rfl, Nat.le_of_ble_eq_true rfl⟩ rfl rfl (Nat.le_of_ble_eq_true rfl) dL_law_1801 (fun z455 I456 hI456 v => ?_)
        refine r_aload_n B dL_law_1804 rfl rfl ?_
        refine r_cL B (st := [.long (l2 z455)]) (as := []) (T := TX11) (N := 25) (c_M_digest _ hI456 ) v o_236 rfl mw_M_digest wl_L_231 ⟨Nat.le_of_ble_eq_true rfl, Nat.le_of_ble_eq_true rfl⟩ rfl rfl (Nat.le_of_ble_eq_true rfl) dL_law_1805 (fun z457 I458 hI458 v => ?_)
        obtain ⟨h459, v⟩ := v
        refine r_lceq B (tgt := 1837) dL_law_1808 dL_law_1809 (by decide) h459 ?_
        refine r_iinc B (q := 3) dL_law_1837 (by decide) rfl (lv' := [(3, .int (i2 (x3 + 6))), (0, .ref b), (1, .ref (eA E 0)), (2, .ref (eA E 236))]) rfl ?_
        refine r_sub [1, 2, 3, 0] rfl ?_
        refine r_goto B (tgt := 18) dL_law_1840 (by decide) ?_
        obtain ⟨h460, v⟩ := v
        refine r_sub [0, 1, 2, 3] rfl ?_
        exact ih (x3 + 6) _ hI458 h460 v
      · have v := v.2.2.2.2.2.2.2.2.2.2.2.2.2.2.2.2.2.2.2.2.2.2.2.2.2.2.2.2.2.2.2.2.2.2.2.2.2.2.2.2.2.2.2.2.2.2.2.2.2.2.2.2.2.1 hcs
        refine r_tabIn B (tgt := 1814) dL_law_33 ((rg_and _ _)) 53 hcs (by decide) (by decide) rfl (by decide) ?_
        refine r_aload_n B dL_law_1814 rfl rfl ?_
        refine r_aload_n B dL_law_1815 rfl rfl ?_
        refine r_iload_n B dL_law_1816 rfl rfl ?_
        refine r_iconst B dL_law_1817 ?_
        refine r_iadd B dL_law_1818 ?_
        obtain ⟨h461, v⟩ := v
        refine r_sld B SC h461 dL_law_1819 ?_
        refine r_cI B (st := []) (as := [.int (i2 (X (x3 + 1)))]) (T := TX10) (N := 11) (c_X_count (X (x3 + 1)) _ hI ((hX _))) v o_0 rfl mw_X_count wl_L_232 ⟨Nat.le_of_ble_eq_true rfl, Nat.le_of_ble_eq_true rfl⟩ rfl rfl (Nat.le_of_ble_eq_true rfl) dL_law_1820 (fun z462 I463 hz462 hI463 v => ?_)
        refine r_aload_n B dL_law_1823 rfl rfl ?_
        refine r_aload_n B dL_law_1824 rfl rfl ?_
        refine r_iload_n B dL_law_1825 rfl rfl ?_
        refine r_iconst B dL_law_1826 ?_
        refine r_iadd B dL_law_1827 ?_
        obtain ⟨h464, v⟩ := v
        refine r_sld B SC h464 dL_law_1828 ?_
        refine r_cI B (st := [.int (i2 z462)]) (as := [.int (i2 (X (x3 + 1)))]) (T := TX11) (N := 25) (c_M_count (X (x3 + 1)) _ hI463 ((hX _))) v o_236 rfl mw_M_count wl_L_235 ⟨Nat.le_of_ble_eq_true rfl, Nat.le_of_ble_eq_true rfl⟩ rfl rfl (Nat.le_of_ble_eq_true rfl) dL_law_1829 (fun z465 I466 hz465 hI466 v => ?_)
        refine r_icmp_eq B (tgt := 1837) dL_law_1832 (by decide) hz462 hz465 (fun h => ?_) (fun h => ?_)
        · have v := v.1 h
          refine r_iinc B (q := 3) dL_law_1837 (by decide) rfl (lv' := [(3, .int (i2 (x3 + 6))), (0, .ref b), (1, .ref (eA E 0)), (2, .ref (eA E 236))]) rfl ?_
          refine r_sub [1, 2, 3, 0] rfl ?_
          refine r_goto B (tgt := 18) dL_law_1840 (by decide) ?_
          obtain ⟨h467, v⟩ := v
          refine r_sub [0, 1, 2, 3] rfl ?_
          exact ih (x3 + 6) _ hI466 h467 v
        · have v := v.2 h
          refine r_iconst B dL_law_1835 ?_
          exact absurd v id
      · have v := v.2.2.2.2.2.2.2.2.2.2.2.2.2.2.2.2.2.2.2.2.2.2.2.2.2.2.2.2.2.2.2.2.2.2.2.2.2.2.2.2.2.2.2.2.2.2.2.2.2.2.2.2.2.2 hcs
        refine r_tabOut B (tgt := 1837) dL_law_33 ((rg_and _ _)) hcs (by decide) ?_
        refine r_iinc B (q := 3) dL_law_1837 (by decide) rfl (lv' := [(3, .int (i2 (x3 + 6))), (0, .ref b), (1, .ref (eA E 0)), (2, .ref (eA E 236))]) rfl ?_
        refine r_sub [1, 2, 3, 0] rfl ?_
        refine r_goto B (tgt := 18) dL_law_1840 (by decide) ?_
        obtain ⟨h468, v⟩ := v
        refine r_sub [0, 1, 2, 3] rfl ?_
        exact ih (x3 + 6) _ hI h468 v
set_option maxHeartbeats 4000000 in
set_option maxRecDepth 100000 in
theorem w_law {p : Program} {l : Launch} {e : Env} {s : State} {m : MethodId} {args : Array Value} {below : List Frame} {meth : Method} {c0 : Code} {E : En} {A : Nat → Prop} {cn sn b : Nat} {QQ : State → Prop} {X : Int → Int} {L : Int} {Q : Mm → Prop} (B : Bd p room_1 s m args c0 cL_law 4 RL E A cn sn) (hr : ∀ (I : Mm) (pc : Nat) (lv : List (Nat × Value)), decode cL_law pc = .ok (.ireturn, 1) → WI p l e room_1 s m args below meth c0 E A 4 cn sn QQ I pc lv [.int (i2 1)]) (hk : True) (hX : ∀ i : Int, r32 (X i)) (hL : r32 L) (SC : SCR s A b L X) (I : Mm) (hI : rgM I) (v : V_law X L I Q) : WI p l e room_1 s m args below meth c0 E A 4 cn sn QQ I 16 [(0, .ref b), (1, .ref (eA E 0)), (2, .ref (eA E 236))] [] := by
  unfold V_law at v
  refine r_iconst B dL_law_16 ?_
  refine r_istore_n B dL_law_17 rfl (by decide) (lv' := [(3, .int (i2 0)), (0, .ref b), (1, .ref (eA E 0)), (2, .ref (eA E 236))]) rfl ?_
  refine r_sub [1, 2, 3, 0] rfl ?_
  obtain ⟨f469, v⟩ := v
  refine r_sub [0, 1, 2, 3] rfl ?_
  exact wL_L_law_18 B hr hk hX hL SC f469 0 I hI ((rg_lit (by decide) (by decide))) v
