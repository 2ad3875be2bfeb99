section XR2
variable {p : Program} {l : Launch} {e : Env} {R : Room} {s : State} {m : MethodId} {args : Array Value} {below : List Frame} {meth : Method} {c : Code} {E : En} {A : Nat → Prop} {nL cn sn : Nat} {Q : State → Prop} {W0 : va_W} {pc : Nat} {lv lv' : List (Nat × Value)} {st : List Value} {cc : ByteArray} {own : String}
theorem x_istore_n (B : Bx p s m args c cc nL own E A) {q : Fin 4} {i : Nat} {x : Int32} (hd : decode cc pc = .ok (.istore_n q, 1)) (hi : (q : Nat) = i) (hn : i < nL) (h : lvs lv i (.int x) = lv') (k : WX p l e R s m args below meth c E A nL cn sn Q W0 (pc + 1) lv' st) : WX p l e R s m args below meth c E A nL cn sn Q W0 pc lv (.int x :: st) := fun H locs ls hP hD hS hl => lv_istore_n B.1 B.2.1 hd hi hl hn h (fun ls hl => k H locs ls hP hD hS hl)
theorem x_iinc (B : Bx p s m args c cc nL own E A) {i q : Nat} {n x : Int} (hd : decode cc pc = .ok (.iinc i n, 3)) (hn : i < nL) (hk : lv[q]? = some (i, .int (i2 x))) (h : lvs lv i (.int (i2 (x + n))) = lv') (k : WX p l e R s m args below meth c E A nL cn sn Q W0 (pc + 3) lv' st) : WX p l e R s m args below meth c E A nL cn sn Q W0 pc lv st := fun H locs ls hP hD hS hl => lv_iinc B.1 B.2.1 hd hl hk (Int32.ofInt_add x n).symm hn h (fun ls hl => k H locs ls hP hD hS hl)
theorem x_icmp_ge (B : Bx p s m args c cc nL own E A) {x y : Int} {off : Int} {tgt : Nat} (hd : decode cc pc = .ok (.if_icmp .ge off, 3)) (ht : (pc : Int) + off = (tgt : Int)) (hx : r32 x) (hy : r32 y) (kt : y ≤ x → WX p l e R s m args below meth c E A nL cn sn Q W0 tgt lv st) (kf : x < y → WX p l e R s m args below meth c E A nL cn sn Q W0 (pc + 3) lv st) : WX p l e R s m args below meth c E A nL cn sn Q W0 pc lv (.int (i2 y) :: .int (i2 x) :: st) := fun H locs ls hP hD hS hl => lv_icmp_ge B.1 B.2.1 hd ht (fun q => kt (by exact (i2_le hy hx).mp q) H locs ls hP hD hS hl) (fun q => kf (by exact Int.not_le.mp (fun h9 => q ((i2_le hy hx).mpr h9))) H locs ls hP hD hS hl)
end XR2
theorem xo_X3 : Cond.methodLink RX3 3 Lib.objectInit ∈ TBL := tmem 129 (by decide +kernel) rfl
theorem xo_i : Cond.instanceMethod Lib.objectInit ∈ TBL := tmem 116 (by decide +kernel) rfl
theorem xo_c : Cond.code Lib.objectInit ⟨#[0xb1]⟩ 1 none ∈ TBL := tmem 117 (by decide +kernel) rfl
theorem xa_int : Cond.arrayClass .int ∈ TBL := tmem 149 (by decide +kernel) rfl
theorem xf_X3_9 : Cond.fieldLink RX3 9 "DayRows$Names" "words" "[I" ∈ TBL := tmem 133 (by decide +kernel) rfl
theorem xf_X3_15 : Cond.fieldLink RX3 15 "DayRows$Names" "taken" "[I" ∈ TBL := tmem 136 (by decide +kernel) rfl
theorem xf_X3_18 : Cond.fieldLink RX3 18 "DayRows$Names" "lost" "[I" ∈ TBL := tmem 138 (by decide +kernel) rfl
theorem xo_X8 : Cond.methodLink RX8 3 Lib.objectInit ∈ TBL := tmem 155 (by decide +kernel) rfl
theorem xf_X8_9 : Cond.fieldLink RX8 9 "DayRows$Things" "numbers" "[I" ∈ TBL := tmem 160 (by decide +kernel) rfl
theorem xf_X8_15 : Cond.fieldLink RX8 15 "DayRows$Things" "names" "[I" ∈ TBL := tmem 163 (by decide +kernel) rfl
theorem xf_X8_18 : Cond.fieldLink RX8 18 "DayRows$Things" "hours" "[I" ∈ TBL := tmem 167 (by decide +kernel) rfl
theorem xo_X5 : Cond.methodLink RX5 3 Lib.objectInit ∈ TBL := tmem 185 (by decide +kernel) rfl
theorem xf_X5_9 : Cond.fieldLink RX5 9 "DayRows$Rules" "names" "[I" ∈ TBL := tmem 192 (by decide +kernel) rfl
theorem xf_X5_15 : Cond.fieldLink RX5 15 "DayRows$Rules" "others" "[I" ∈ TBL := tmem 197 (by decide +kernel) rfl
theorem xf_X5_18 : Cond.fieldLink RX5 18 "DayRows$Rules" "gaps" "[I" ∈ TBL := tmem 202 (by decide +kernel) rfl
theorem xo_X2 : Cond.methodLink RX2 3 Lib.objectInit ∈ TBL := tmem 221 (by decide +kernel) rfl
theorem xf_X2_11 : Cond.fieldLink RX2 11 "DayRows$Log" "entries" "[I" ∈ TBL := tmem 224 (by decide +kernel) rfl
theorem xo_X6 : Cond.methodLink RX6 3 Lib.objectInit ∈ TBL := tmem 283 (by decide +kernel) rfl
theorem xa_byte : Cond.arrayClass .byte ∈ TBL := tmem 293 (by decide +kernel) rfl
theorem xf_X6_9 : Cond.fieldLink RX6 9 "DayRows$Tape" "bytes" "[B" ∈ TBL := tmem 287 (by decide +kernel) rfl
theorem xo_X9 : Cond.methodLink RX9 3 Lib.objectInit ∈ TBL := tmem 334 (by decide +kernel) rfl
theorem xf_X9_9 : Cond.fieldLink RX9 9 "DayRows$Ways" "prices" "[I" ∈ TBL := tmem 335 (by decide +kernel) rfl
theorem xo_X4 : Cond.methodLink RX4 3 Lib.objectInit ∈ TBL := tmem 299 (by decide +kernel) rfl
theorem xf_X4_9 : Cond.fieldLink RX4 9 "DayRows$Reader" "tape" "LDayRows$Tape;" ∈ TBL := tmem 300 (by decide +kernel) rfl
theorem xf_X4_15 : Cond.fieldLink RX4 15 "DayRows$Reader" "into" "LDayRows$Calendar;" ∈ TBL := tmem 301 (by decide +kernel) rfl
theorem xo_X7 : Cond.methodLink RX7 3 Lib.objectInit ∈ TBL := tmem 318 (by decide +kernel) rfl
theorem xo_X0 : Cond.methodLink RX0 3 Lib.objectInit ∈ TBL := tmem 123 (by decide +kernel) rfl
theorem xc_X0_9 : Cond.classLink RX0 9 RX3 ∈ TBL := tmem 124 (by decide +kernel) rfl
theorem xi_X3 : Cond.instantiable RX3 4 ∈ TBL := tmem 125 (by decide +kernel) rfl
theorem xz_X3 : Cond.initialized RX3 ∈ TBL := tmem 93 (by decide +kernel) rfl
theorem xf_X0_12 : Cond.fieldLink RX0 12 "DayRows$Calendar" "names" "LDayRows$Names;" ∈ TBL := tmem 232 (by decide +kernel) rfl
theorem xc_X0_18 : Cond.classLink RX0 18 RX8 ∈ TBL := tmem 150 (by decide +kernel) rfl
theorem xi_X8 : Cond.instantiable RX8 4 ∈ TBL := tmem 151 (by decide +kernel) rfl
theorem xz_X8 : Cond.initialized RX8 ∈ TBL := tmem 94 (by decide +kernel) rfl
theorem xf_X0_21 : Cond.fieldLink RX0 21 "DayRows$Calendar" "things" "LDayRows$Things;" ∈ TBL := tmem 236 (by decide +kernel) rfl
theorem xc_X0_25 : Cond.classLink RX0 25 RX5 ∈ TBL := tmem 180 (by decide +kernel) rfl
theorem xi_X5 : Cond.instantiable RX5 4 ∈ TBL := tmem 181 (by decide +kernel) rfl
theorem xz_X5 : Cond.initialized RX5 ∈ TBL := tmem 95 (by decide +kernel) rfl
theorem xf_X0_28 : Cond.fieldLink RX0 28 "DayRows$Calendar" "rules" "LDayRows$Rules;" ∈ TBL := tmem 239 (by decide +kernel) rfl
theorem xc_X0_32 : Cond.classLink RX0 32 RX2 ∈ TBL := tmem 216 (by decide +kernel) rfl
theorem xi_X2 : Cond.instantiable RX2 3 ∈ TBL := tmem 217 (by decide +kernel) rfl
theorem xz_X2 : Cond.initialized RX2 ∈ TBL := tmem 96 (by decide +kernel) rfl
theorem xf_X0_35 : Cond.fieldLink RX0 35 "DayRows$Calendar" "log" "LDayRows$Log;" ∈ TBL := tmem 243 (by decide +kernel) rfl
theorem xf_X0_39 : Cond.fieldLink RX0 39 "DayRows$Calendar" "totals" "[I" ∈ TBL := tmem 245 (by decide +kernel) rfl
theorem xf_X0_43 : Cond.fieldLink RX0 43 "DayRows$Calendar" "rows" "I" ∈ TBL := tmem 247 (by decide +kernel) rfl
theorem xf_X0_47 : Cond.fieldLink RX0 47 "DayRows$Calendar" "width" "I" ∈ TBL := tmem 251 (by decide +kernel) rfl
theorem xo_X1 : Cond.methodLink RX1 3 Lib.objectInit ∈ TBL := tmem 344 (by decide +kernel) rfl
theorem xc_X1_9 : Cond.classLink RX1 9 RX0 ∈ TBL := tmem 345 (by decide +kernel) rfl
theorem xf_X1_11 : Cond.fieldLink RX1 11 "DayRows$History" "states" "[LDayRows$Calendar;" ∈ TBL := tmem 351 (by decide +kernel) rfl
theorem xi_X0 : Cond.instantiable RX0 9 ∈ TBL := tmem 119 (by decide +kernel) rfl
theorem xz_X0 : Cond.initialized RX0 ∈ TBL := tmem 92 (by decide +kernel) rfl
theorem xl_X1_17 : Cond.methodLink RX1 17 yX0_init ∈ TBL := tmem 347 (by decide +kernel) rfl
theorem xo_X10 : Cond.methodLink RX10 1 Lib.objectInit ∈ TBL := tmem 115 (by decide +kernel) rfl
theorem xc_X10_7 : Cond.classLink RX10 7 RX0 ∈ TBL := tmem 118 (by decide +kernel) rfl
theorem xl_X10_9 : Cond.methodLink RX10 9 yX0_init ∈ TBL := tmem 120 (by decide +kernel) rfl
theorem xf_X10_10 : Cond.fieldLink RX10 10 "DayRows" "calendar" "LDayRows$Calendar;" ∈ TBL := tmem 359 (by decide +kernel) rfl
theorem xf_X10_16 : Cond.fieldLink RX10 16 "DayRows" "trial" "LDayRows$Calendar;" ∈ TBL := tmem 360 (by decide +kernel) rfl
theorem xc_X10_19 : Cond.classLink RX10 19 RX6 ∈ TBL := tmem 278 (by decide +kernel) rfl
theorem xi_X6 : Cond.instantiable RX6 2 ∈ TBL := tmem 279 (by decide +kernel) rfl
theorem xz_X6 : Cond.initialized RX6 ∈ TBL := tmem 97 (by decide +kernel) rfl
theorem xf_X10_22 : Cond.fieldLink RX10 22 "DayRows" "tape" "LDayRows$Tape;" ∈ TBL := tmem 361 (by decide +kernel) rfl
theorem xc_X10_26 : Cond.classLink RX10 26 RX4 ∈ TBL := tmem 294 (by decide +kernel) rfl
theorem xi_X4 : Cond.instantiable RX4 4 ∈ TBL := tmem 295 (by decide +kernel) rfl
theorem xz_X4 : Cond.initialized RX4 ∈ TBL := tmem 98 (by decide +kernel) rfl
theorem xl_X10_28 : Cond.methodLink RX10 28 yX4_init ∈ TBL := tmem 296 (by decide +kernel) rfl
theorem xf_X10_31 : Cond.fieldLink RX10 31 "DayRows" "reader" "LDayRows$Reader;" ∈ TBL := tmem 362 (by decide +kernel) rfl
theorem xc_X10_35 : Cond.classLink RX10 35 RX7 ∈ TBL := tmem 313 (by decide +kernel) rfl
theorem xi_X7 : Cond.instantiable RX7 3 ∈ TBL := tmem 314 (by decide +kernel) rfl
theorem xz_X7 : Cond.initialized RX7 ∈ TBL := tmem 99 (by decide +kernel) rfl
theorem xf_X10_38 : Cond.fieldLink RX10 38 "DayRows" "teller" "LDayRows$Teller;" ∈ TBL := tmem 363 (by decide +kernel) rfl
theorem xc_X10_42 : Cond.classLink RX10 42 RX9 ∈ TBL := tmem 329 (by decide +kernel) rfl
theorem xi_X9 : Cond.instantiable RX9 1 ∈ TBL := tmem 330 (by decide +kernel) rfl
theorem xz_X9 : Cond.initialized RX9 ∈ TBL := tmem 100 (by decide +kernel) rfl
theorem xf_X10_45 : Cond.fieldLink RX10 45 "DayRows" "ways" "LDayRows$Ways;" ∈ TBL := tmem 364 (by decide +kernel) rfl
theorem xc_X10_49 : Cond.classLink RX10 49 RX1 ∈ TBL := tmem 339 (by decide +kernel) rfl
theorem xi_X1 : Cond.instantiable RX1 3 ∈ TBL := tmem 340 (by decide +kernel) rfl
theorem xz_X1 : Cond.initialized RX1 ∈ TBL := tmem 101 (by decide +kernel) rfl
theorem xl_X10_51 : Cond.methodLink RX10 51 yX1_init ∈ TBL := tmem 341 (by decide +kernel) rfl
theorem xf_X10_52 : Cond.fieldLink RX10 52 "DayRows" "history" "LDayRows$History;" ∈ TBL := tmem 365 (by decide +kernel) rfl
theorem xf_X10_56 : Cond.fieldLink RX10 56 "DayRows" "shelves" "[LDayRows$Calendar;" ∈ TBL := tmem 366 (by decide +kernel) rfl
theorem xf_X10_60 : Cond.fieldLink RX10 60 "DayRows" "loads" "[I" ∈ TBL := tmem 367 (by decide +kernel) rfl
theorem xf_X10_64 : Cond.fieldLink RX10 64 "DayRows" "picked" "[I" ∈ TBL := tmem 368 (by decide +kernel) rfl
theorem xf_X10_67 : Cond.fieldLink RX10 67 "DayRows" "keptShelves" "I" ∈ TBL := tmem 369 (by decide +kernel) rfl
theorem xo_X11 : Cond.methodLink RX11 1 Lib.objectInit ∈ TBL := tmem 1173 (by decide +kernel) rfl
theorem xf_X11_7 : Cond.fieldLink RX11 7 "DayRowsModel" "now" "[I" ∈ TBL := tmem 1177 (by decide +kernel) rfl
theorem xf_X11_13 : Cond.fieldLink RX11 13 "DayRowsModel" "aside" "[I" ∈ TBL := tmem 1178 (by decide +kernel) rfl
theorem xf_X11_16 : Cond.fieldLink RX11 16 "DayRowsModel" "was" "[I" ∈ TBL := tmem 1179 (by decide +kernel) rfl
theorem xf_X11_19 : Cond.fieldLink RX11 19 "DayRowsModel" "kept" "[I" ∈ TBL := tmem 1181 (by decide +kernel) rfl
theorem xa_boolean : Cond.arrayClass .boolean ∈ TBL := tmem 1253 (by decide +kernel) rfl
theorem xf_X11_22 : Cond.fieldLink RX11 22 "DayRowsModel" "isKept" "[Z" ∈ TBL := tmem 1182 (by decide +kernel) rfl
theorem xf_X11_26 : Cond.fieldLink RX11 26 "DayRowsModel" "list" "[I" ∈ TBL := tmem 1185 (by decide +kernel) rfl
theorem xf_X11_29 : Cond.fieldLink RX11 29 "DayRowsModel" "listDue" "[I" ∈ TBL := tmem 1186 (by decide +kernel) rfl
theorem xf_X11_32 : Cond.fieldLink RX11 32 "DayRowsModel" "often" "[I" ∈ TBL := tmem 1187 (by decide +kernel) rfl
theorem xf_X11_35 : Cond.fieldLink RX11 35 "DayRowsModel" "far" "[I" ∈ TBL := tmem 1188 (by decide +kernel) rfl
theorem xf_X11_38 : Cond.fieldLink RX11 38 "DayRowsModel" "tape" "[B" ∈ TBL := tmem 1192 (by decide +kernel) rfl
theorem xf_X11_42 : Cond.fieldLink RX11 42 "DayRowsModel" "lying" "[I" ∈ TBL := tmem 1199 (by decide +kernel) rfl
theorem xf_X11_45 : Cond.fieldLink RX11 45 "DayRowsModel" "hoursTo" "[I" ∈ TBL := tmem 1200 (by decide +kernel) rfl
theorem xf_X11_48 : Cond.fieldLink RX11 48 "DayRowsModel" "rulesTo" "[I" ∈ TBL := tmem 1201 (by decide +kernel) rfl
theorem xc_L_7 : Cond.classLink RL 7 RX10 ∈ TBL := tmem 110 (by decide +kernel) rfl
theorem xi_X10 : Cond.instantiable RX10 11 ∈ TBL := tmem 111 (by decide +kernel) rfl
theorem xz_X10 : Cond.initialized RX10 ∈ TBL := tmem 91 (by decide +kernel) rfl
theorem xc_L_10 : Cond.classLink RL 10 RX11 ∈ TBL := tmem 1168 (by decide +kernel) rfl
theorem xi_X11 : Cond.instantiable RX11 25 ∈ TBL := tmem 1169 (by decide +kernel) rfl
theorem xz_X11 : Cond.initialized RX11 ∈ TBL := tmem 102 (by decide +kernel) rfl
theorem xl_L_9 : Cond.methodLink RL 9 yX10_init ∈ TBL := tmem 112 (by decide +kernel) rfl
theorem xl_L_12 : Cond.methodLink RL 12 yX11_init ∈ TBL := tmem 1170 (by decide +kernel) rfl
theorem xm_X3 : MXi yX3_init cX3_init 1 0 := ⟨tmem 127 (by decide +kernel) rfl, tmem 93 (by decide +kernel) rfl, tmem 128 (by decide +kernel) rfl, rfl, by decide +kernel, by decide +kernel, by decide +kernel⟩
theorem xm_X8 : MXi yX8_init cX8_init 1 0 := ⟨tmem 153 (by decide +kernel) rfl, tmem 94 (by decide +kernel) rfl, tmem 154 (by decide +kernel) rfl, rfl, by decide +kernel, by decide +kernel, by decide +kernel⟩
theorem xm_X5 : MXi yX5_init cX5_init 1 0 := ⟨tmem 183 (by decide +kernel) rfl, tmem 95 (by decide +kernel) rfl, tmem 184 (by decide +kernel) rfl, rfl, by decide +kernel, by decide +kernel, by decide +kernel⟩
theorem xm_X2 : MXi yX2_init cX2_init 1 0 := ⟨tmem 219 (by decide +kernel) rfl, tmem 96 (by decide +kernel) rfl, tmem 220 (by decide +kernel) rfl, rfl, by decide +kernel, by decide +kernel, by decide +kernel⟩
theorem xm_X0 : MXi yX0_init cX0_init 1 0 := ⟨tmem 121 (by decide +kernel) rfl, tmem 92 (by decide +kernel) rfl, tmem 122 (by decide +kernel) rfl, rfl, by decide +kernel, by decide +kernel, by decide +kernel⟩
theorem xm_X6 : MXi yX6_init cX6_init 1 0 := ⟨tmem 281 (by decide +kernel) rfl, tmem 97 (by decide +kernel) rfl, tmem 282 (by decide +kernel) rfl, rfl, by decide +kernel, by decide +kernel, by decide +kernel⟩
theorem xm_X4 : MXi yX4_init cX4_init 3 2 := ⟨tmem 297 (by decide +kernel) rfl, tmem 98 (by decide +kernel) rfl, tmem 298 (by decide +kernel) rfl, rfl, by decide +kernel, by decide +kernel, by decide +kernel⟩
theorem xm_X7 : MXi yX7_init cX7_init 1 0 := ⟨tmem 316 (by decide +kernel) rfl, tmem 99 (by decide +kernel) rfl, tmem 317 (by decide +kernel) rfl, rfl, by decide +kernel, by decide +kernel, by decide +kernel⟩
theorem xm_X9 : MXi yX9_init cX9_init 1 0 := ⟨tmem 332 (by decide +kernel) rfl, tmem 100 (by decide +kernel) rfl, tmem 333 (by decide +kernel) rfl, rfl, by decide +kernel, by decide +kernel, by decide +kernel⟩
theorem xm_X1 : MXi yX1_init cX1_init 2 0 := ⟨tmem 342 (by decide +kernel) rfl, tmem 101 (by decide +kernel) rfl, tmem 343 (by decide +kernel) rfl, rfl, by decide +kernel, by decide +kernel, by decide +kernel⟩
theorem xm_X10 : MXi yX10_init cX10_init 2 0 := ⟨tmem 113 (by decide +kernel) rfl, tmem 91 (by decide +kernel) rfl, tmem 114 (by decide +kernel) rfl, rfl, by decide +kernel, by decide +kernel, by decide +kernel⟩
theorem xm_X11 : MXi yX11_init cX11_init 1 0 := ⟨tmem 1171 (by decide +kernel) rfl, tmem 102 (by decide +kernel) rfl, tmem 1172 (by decide +kernel) rfl, rfl, by decide +kernel, by decide +kernel, by decide +kernel⟩
theorem zf_X0 : ∀ j, j < 9 → defaultValue (tyX0 j) = vp_V [.null, .null, .null, .null, .null, .int (i2 0), .int (i2 0), .int (i2 0), .int (i2 0)] j := by
  intro j hj
  rcases (show j = 0 ∨ j = 1 ∨ j = 2 ∨ j = 3 ∨ j = 4 ∨ j = 5 ∨ j = 6 ∨ j = 7 ∨ j = 8 by omega) with rfl | rfl | rfl | rfl | rfl | rfl | rfl | rfl | rfl <;> rfl
theorem zf_X1 : ∀ j, j < 3 → defaultValue (tyX1 j) = vp_V [.int (i2 0), .int (i2 0), .null] j := by
  intro j hj
  rcases (show j = 0 ∨ j = 1 ∨ j = 2 by omega) with rfl | rfl | rfl <;> rfl
theorem zf_X2 : ∀ j, j < 3 → defaultValue (tyX2 j) = vp_V [.int (i2 0), .int (i2 0), .null] j := by
  intro j hj
  rcases (show j = 0 ∨ j = 1 ∨ j = 2 by omega) with rfl | rfl | rfl <;> rfl
theorem zf_X3 : ∀ j, j < 4 → defaultValue (tyX3 j) = vp_V [.int (i2 0), .null, .null, .null] j := by
  intro j hj
  rcases (show j = 0 ∨ j = 1 ∨ j = 2 ∨ j = 3 by omega) with rfl | rfl | rfl | rfl <;> rfl
theorem zf_X4 : ∀ j, j < 4 → defaultValue (tyX4 j) = vp_V [.null, .null, .int (i2 0), .int (i2 0)] j := by
  intro j hj
  rcases (show j = 0 ∨ j = 1 ∨ j = 2 ∨ j = 3 by omega) with rfl | rfl | rfl | rfl <;> rfl
theorem zf_X5 : ∀ j, j < 4 → defaultValue (tyX5 j) = vp_V [.int (i2 0), .null, .null, .null] j := by
  intro j hj
  rcases (show j = 0 ∨ j = 1 ∨ j = 2 ∨ j = 3 by omega) with rfl | rfl | rfl | rfl <;> rfl
theorem zf_X6 : ∀ j, j < 2 → defaultValue (tyX6 j) = vp_V [.int (i2 0), .null] j := by
  intro j hj
  rcases (show j = 0 ∨ j = 1 by omega) with rfl | rfl <;> rfl
theorem zf_X7 : ∀ j, j < 3 → defaultValue (tyX7 j) = vp_V [.int (i2 0), .int (i2 0), .int (i2 0)] j := by
  intro j hj
  rcases (show j = 0 ∨ j = 1 ∨ j = 2 by omega) with rfl | rfl | rfl <;> rfl
theorem zf_X8 : ∀ j, j < 4 → defaultValue (tyX8 j) = vp_V [.int (i2 0), .null, .null, .null] j := by
  intro j hj
  rcases (show j = 0 ∨ j = 1 ∨ j = 2 ∨ j = 3 by omega) with rfl | rfl | rfl | rfl <;> rfl
theorem zf_X9 : ∀ j, j < 1 → defaultValue (tyX9 j) = vp_V [.null] j := by
  intro j hj
  rcases (show j = 0 by omega) with rfl <;> rfl
theorem zf_X10 : ∀ j, j < 11 → defaultValue (tyX10 j) = vp_V [.null, .null, .null, .null, .null, .null, .null, .null, .null, .null, .int (i2 0)] j := by
  intro j hj
  rcases (show j = 0 ∨ j = 1 ∨ j = 2 ∨ j = 3 ∨ j = 4 ∨ j = 5 ∨ j = 6 ∨ j = 7 ∨ j = 8 ∨ j = 9 ∨ j = 10 by omega) with rfl | rfl | rfl | rfl | rfl | rfl | rfl | rfl | rfl | rfl | rfl <;> rfl
theorem zf_X11 : ∀ j, j < 25 → defaultValue (tyX11 j) = vp_V [.null, .null, .null, .int (i2 0), .null, .null, .int (i2 0), .int (i2 0), .null, .null, .null, .null, .int (i2 0), .int (i2 0), .int (i2 0), .null, .int (i2 0), .int (i2 0), .int (i2 0), .int (i2 0), .int (i2 0), .int (i2 0), .null, .null, .null] j := by
  intro j hj
  rcases (show j = 0 ∨ j = 1 ∨ j = 2 ∨ j = 3 ∨ j = 4 ∨ j = 5 ∨ j = 6 ∨ j = 7 ∨ j = 8 ∨ j = 9 ∨ j = 10 ∨ j = 11 ∨ j = 12 ∨ j = 13 ∨ j = 14 ∨ j = 15 ∨ j = 16 ∨ j = 17 ∨ j = 18 ∨ j = 19 ∨ j = 20 ∨ j = 21 ∨ j = 22 ∨ j = 23 ∨ j = 24 by omega) with rfl | rfl | rfl | rfl | rfl | rfl | rfl | rfl | rfl | rfl | rfl | rfl | rfl | rfl | rfl | rfl | rfl | rfl | rfl | rfl | rfl | rfl | rfl | rfl | rfl <;> rfl
def nmB (E : En) (a : Nat → Nat) : va_W := [(a 0, .inr (3, [.int (i2 0), .ref (a 1), .ref (a 2), .ref (a 3)])), (a 1, zI E 16), (a 2, zI E 16), (a 3, zI E 16)]
def thB (E : En) (a : Nat → Nat) : va_W := [(a 0, .inr (8, [.int (i2 0), .ref (a 1), .ref (a 2), .ref (a 3)])), (a 1, zI E 200), (a 2, zI E 200), (a 3, zI E 200)]
def ruB (E : En) (a : Nat → Nat) : va_W := [(a 0, .inr (5, [.int (i2 0), .ref (a 1), .ref (a 2), .ref (a 3)])), (a 1, zI E 12), (a 2, zI E 12), (a 3, zI E 12)]
def loB (E : En) (a : Nat → Nat) : va_W := [(a 0, .inr (2, [.int (i2 0), .int (i2 0), .ref (a 1)])), (a 1, zI E 200)]
def taB (E : En) (a : Nat → Nat) : va_W := [(a 0, .inr (6, [.int (i2 0), .ref (a 1)])), (a 1, zB E 400)]
def waB (E : En) (a : Nat → Nat) : va_W := [(a 0, .inr (9, [.ref (a 1)])), (a 1, zI E 16)]
def reB (b t r : Nat) : va_W := [(b, .inr (4, [.ref t, .ref r, .int (i2 0), .int (i2 0)]))]
def teB (b : Nat) : va_W := [(b, .inr (7, [.int (i2 0), .int (i2 0), .int (i2 0)]))]
def caB (E : En) (a : Nat → Nat) : va_W := [(a 0, .inr (0, [.ref (a 1), .ref (a 5), .ref (a 9), .ref (a 13), .ref (a 15), .int (i2 4), .int (i2 10), .int (i2 0), .int (i2 0)])),
  (a 1, .inr (3, [.int (i2 0), .ref (a 2), .ref (a 3), .ref (a 4)])), (a 2, zI E 16), (a 3, zI E 16), (a 4, zI E 16),
  (a 5, .inr (8, [.int (i2 0), .ref (a 6), .ref (a 7), .ref (a 8)])), (a 6, zI E 200), (a 7, zI E 200), (a 8, zI E 200),
  (a 9, .inr (5, [.int (i2 0), .ref (a 10), .ref (a 11), .ref (a 12)])), (a 10, zI E 12), (a 11, zI E 12), (a 12, zI E 12),
  (a 13, .inr (2, [.int (i2 0), .int (i2 0), .ref (a 14)])), (a 14, zI E 200), (a 15, zI E 8)]
def hiB (E : En) (b q : Nat) (u : Nat → Nat → Nat) : va_W := (((((((((((([(b, .inr (1, [.int (i2 0), .int (i2 0), .ref q]))] : va_W) ++ ([(q, zQ E 10 (va_up (va_up (va_up (va_up (va_up (va_up (va_up (va_up (va_up (va_up (fun _ => none) 0 (some ((u 0) 0))) 1 (some ((u 1) 0))) 2 (some ((u 2) 0))) 3 (some ((u 3) 0))) 4 (some ((u 4) 0))) 5 (some ((u 5) 0))) 6 (some ((u 6) 0))) 7 (some ((u 7) 0))) 8 (some ((u 8) 0))) 9 (some ((u 9) 0))))] : va_W)) ++ (caB E (u 0))) ++ (caB E (u 1))) ++ (caB E (u 2))) ++ (caB E (u 3))) ++ (caB E (u 4))) ++ (caB E (u 5))) ++ (caB E (u 6))) ++ (caB E (u 7))) ++ (caB E (u 8))) ++ (caB E (u 9)))
def drB (E : En) (b : Nat) (u2 : Nat → Nat) (u4 : Nat → Nat) (u6 : Nat → Nat) (q7 : Nat) (q9 : Nat) (u12 : Nat → Nat) (q13 : Nat) (u14q : Nat) (u14 : Nat → Nat → Nat) (u17 : Nat → Nat) (u19 : Nat → Nat) (q15 : Nat) (q20 : Nat) (q21 : Nat) : va_W := ((((((((((((([(b, .inr (10, [.ref (u2 0), .ref (u4 0), .ref (u6 0), .ref q7, .ref q9, .ref (u12 0), .ref q13, .ref q15, .ref q20, .ref q21, .int (i2 0)]))] : va_W) ++ (caB E u2)) ++ (caB E u4)) ++ (taB E u6)) ++ (reB q7 (u6 0) (u4 0))) ++ (teB q9)) ++ (waB E u12)) ++ (hiB E q13 u14q u14)) ++ ([(q15, zQ E 2 (va_up (va_up (fun _ => none) 0 (some (u17 0))) 1 (some (u19 0))))] : va_W)) ++ (caB E u17)) ++ (caB E u19)) ++ ([(q20, zI E 64)] : va_W)) ++ ([(q21, zI E 200)] : va_W))
