/-! the constructors: a world that grows -/
def PX (E : En) (A : Nat → Prop) (W : va_W) (U : State) : Prop := va_P E.1 vwCl W U.heap ∧ va_K E.1 vwCl (tyE E) U ∧ va_D A W ∧ (∀ q, U.heap.size ≤ q → A q) ∧ SF E A U ∧ va_AO "DayRows$Calendar" U
theorem PX_blind (E : En) (A : Nat → Prop) (W : va_W) (as : List Value) : FrameBlind (va_Pc as (PX E A W)) := by
  intro a U g mk h
  obtain ⟨h0, h1, h2, h3, h4, h5, h6⟩ := h
  exact ⟨h0, h1, va_K.moved (u := U) (U := U.calling g mk a) (Vm.Alike.refl U.vm) h2, h3, h4, h5.calling g mk a, va_AO.moved (u := U) (U := U.calling g mk a) (Vm.Alike.refl U.vm) h6⟩
def Bx (p : Program) (s : State) (m : MethodId) (args : Array Value) (c : Code) (cc : ByteArray) (nL : Nat) (own : String) (E : En) (A : Nat → Prop) : Prop :=
  p.tables.exec = Jvm.exec ∧ c.code = cc ∧ c.maxLocals = nL ∧ s.vm.findClass own = some m.cls ∧ (∀ w ∈ TBL, w.before args s = true) ∧ va_K E.1 vwCl (tyE E) s ∧ (∀ q, s.heap.size ≤ q → A q) ∧ SF E A s ∧ va_AO "DayRows$Calendar" s
def WX (p : Program) (l : Launch) (e : Env) (R : Room) (s : State) (m : MethodId) (args : Array Value) (below : List Frame) (meth : Method) (c : Code) (E : En) (A : Nat → Prop) (nL cn sn : Nat) (Q : State → Prop) (W0 : va_W) (pc : Nat) (lv : List (Nat × Value)) (st : List Value) : Prop :=
  ∀ (H : Heap) (locs : List Loc) (ls : Array Slot), va_P E.1 vwCl W0 H → va_D A W0 → va_S A s.heap H locs → lv_has ls nL lv → W p l e R s m args below meth c H locs cn sn Q (F0 m pc ls st)
def XC (l : Launch) (E : En) (A : Nat → Prop) (y : MethodName) (cc : ByteArray) (mL fr lo mc ms : Nat) (as : List Value) (W0 : va_W) (Po : va_W → Prop) : Prop :=
  Met l y (.code y cc mL none :: TBL) { frames := fr, cells := mc, slots := ms, locals := lo } (va_Pc as (PX E A W0)) (va_Qv Po (fun u t => va_P E.1 vwCl u t.heap ∧ va_D A u) A) mc ms A
def MXi (y : MethodName) (cc : ByteArray) (mL n : Nat) : Prop := Cond.instanceMethod y ∈ TBL ∧ Cond.initialized y.cls ∈ TBL ∧ Cond.code y cc mL none ∈ TBL ∧ y.name = "<init>" ∧ (y.cls ≠ "java/lang/invoke/MethodHandle" ∧ y.cls ≠ "java/lang/invoke/VarHandle" ∧ (parseMethodDescriptor y.desc).map (fun d => d.parameters.length) = some n)
theorem ax_get {ws X : va_W} {j : Nat} {q : Nat × va_E} (h : X[j]? = some q) : (ws ++ X)[ws.length + j]? = some q := by
  rw [List.getElem?_append_right (by omega), show ws.length + j - ws.length = j by omega]
  exact h
theorem ax_set (ws X : va_W) (j : Nat) (q : Nat × va_E) : (ws ++ X).set (ws.length + j) q = ws ++ X.set j q := by
  rw [List.set_append_right _ _ (by omega), show ws.length + j - ws.length = j by omega]
section XR1
variable {p : Program} {l : Launch} {e : Env} {R : Room} {s : State} {m : MethodId} {args : Array Value} {below : List Frame} {meth : Method} {c : Code} {E : En} {A : Nat → Prop} {nL cn sn : Nat} {Q : State → Prop} {W0 : va_W} {pc : Nat} {lv lv' : List (Nat × Value)} {st : List Value} {cc : ByteArray} {own : String}
theorem x_aload_n (B : Bx p s m args c cc nL own E A) {q : Fin 4} {i : Nat} {x : Nat} (hd : decode cc pc = .ok (.aload_n q, 1)) (hi : (q : Nat) = i) (hg : lvg lv i = some (.ref x)) (k : WX p l e R s m args below meth c E A nL cn sn Q W0 (pc + 1) lv (.ref x :: st)) : WX p l e R s m args below meth c E A nL cn sn Q W0 pc lv st := fun H locs ls hP hD hS hl => lv_aload_n B.1 B.2.1 hd hi (lvg_at hl hg) (k H locs ls hP hD hS hl)
theorem x_iload_n (B : Bx p s m args c cc nL own E A) {q : Fin 4} {i : Nat} {x : Int32} (hd : decode cc pc = .ok (.iload_n q, 1)) (hi : (q : Nat) = i) (hg : lvg lv i = some (.int x)) (k : WX p l e R s m args below meth c E A nL cn sn Q W0 (pc + 1) lv (.int x :: st)) : WX p l e R s m args below meth c E A nL cn sn Q W0 pc lv st := fun H locs ls hP hD hS hl => lv_iload_n B.1 B.2.1 hd hi (lvg_at hl hg) (k H locs ls hP hD hS hl)
theorem x_iconst (B : Bx p s m args c cc nL own E A) {n : Int} (hd : decode cc pc = .ok (.iconst n, 1)) (k : WX p l e R s m args below meth c E A nL cn sn Q W0 (pc + 1) lv (.int (i2 n) :: st)) : WX p l e R s m args below meth c E A nL cn sn Q W0 pc lv st := fun H locs ls hP hD hS hl => lv_iconst B.1 B.2.1 hd rfl (k H locs ls hP hD hS hl)
theorem x_bipush (B : Bx p s m args c cc nL own E A) {n : Int} (hd : decode cc pc = .ok (.bipush n, 2)) (hv : (Int8.ofInt n).toInt32 = i2 n) (k : WX p l e R s m args below meth c E A nL cn sn Q W0 (pc + 2) lv (.int (i2 n) :: st)) : WX p l e R s m args below meth c E A nL cn sn Q W0 pc lv st := fun H locs ls hP hD hS hl => lv_bipush B.1 B.2.1 hd hv (k H locs ls hP hD hS hl)
theorem x_sipush (B : Bx p s m args c cc nL own E A) {n : Int} (hd : decode cc pc = .ok (.sipush n, 3)) (hv : (Int16.ofInt n).toInt32 = i2 n) (k : WX p l e R s m args below meth c E A nL cn sn Q W0 (pc + 3) lv (.int (i2 n) :: st)) : WX p l e R s m args below meth c E A nL cn sn Q W0 pc lv st := fun H locs ls hP hD hS hl => lv_sipush B.1 B.2.1 hd hv (k H locs ls hP hD hS hl)
theorem x_dup (B : Bx p s m args c cc nL own E A) {v : Value} (hd : decode cc pc = .ok (.dup, 1)) (hv : v.category = 1) (k : WX p l e R s m args below meth c E A nL cn sn Q W0 (pc + 1) lv (v :: v :: st)) : WX p l e R s m args below meth c E A nL cn sn Q W0 pc lv (v :: st) := fun H locs ls hP hD hS hl => lv_dup B.1 B.2.1 hd hv (k H locs ls hP hD hS hl)
theorem x_goto (B : Bx p s m args c cc nL own E A) {off : Int} {tgt : Nat} (hd : decode cc pc = .ok (.goto off, 3)) (ht : (pc : Int) + off = (tgt : Int)) (k : WX p l e R s m args below meth c E A nL cn sn Q W0 tgt lv st) : WX p l e R s m args below meth c E A nL cn sn Q W0 pc lv st := fun H locs ls hP hD hS hl => lv_goto B.1 B.2.1 hd ht (k H locs ls hP hD hS hl)
theorem x_asc {ws X Y : va_W} (k : WX p l e R s m args below meth c E A nL cn sn Q (ws ++ (X ++ Y)) pc lv st) : WX p l e R s m args below meth c E A nL cn sn Q (ws ++ X ++ Y) pc lv st := by
  rw [List.append_assoc]
  exact k
theorem x_to {W1 : va_W} (h : W0 = W1) (k : WX p l e R s m args below meth c E A nL cn sn Q W1 pc lv st) : WX p l e R s m args below meth c E A nL cn sn Q W0 pc lv st := h ▸ k
theorem x_objInit (B : Bx p s m args c cc nL own E A) {x idx : Nat} (hl : Cond.methodLink own idx Lib.objectInit ∈ TBL) (hi : Cond.instanceMethod Lib.objectInit ∈ TBL) (hco : Cond.code Lib.objectInit ⟨#[0xb1]⟩ 1 none ∈ TBL) (hd : decode cc pc = .ok (.invokespecial idx, 3)) (hc : (st.map fun v => v.category).sum ≤ 8) (hR : 1 ≤ R.frames ∧ 20 ≤ R.locals) (k : WX p l e R s m args below meth c E A nL cn sn Q W0 (pc + 3) lv st) : WX p l e R s m args below meth c E A nL cn sn Q W0 pc lv (.ref x :: st) := fun H locs ls hP hD hS hv =>
  W.objInit B.1 B.2.1 B.2.2.2.1 (B.2.2.2.2.1 _ hl) (B.2.2.2.2.1 _ hi) (B.2.2.2.2.1 _ hco) rfl (by rw [B.2.2.1]; exact hv.1) (a := x) (rest := st) rfl hd hR.1 (by show 2 * 0 + _ + 12 ≤ _; omega) (W.eq (g2 := F0 m (pc + 3) ls st) rfl (k H locs ls hP hD hS hv))
theorem x_new (B : Bx p s m args c cc nL own E A) {ws X : va_W} {C : String} {T : u_T} {N ci idx : Nat} (hc : vwCl[ci]? = some (C, T, N)) (hin : ∀ w ∈ u_ws C T N, w ∈ TBL) (ty : Nat → FieldType) (hty : ∀ k, k < N → parseFieldDescriptor (T k).2.2.1 = some (ty k)) (hcl : Cond.classLink own idx C ∈ TBL) (hinst : Cond.instantiable C N ∈ TBL) (hini : Cond.initialized C ∈ TBL) (fs : List Value) (hfs : ∀ j, j < N → defaultValue (ty j) = vp_V fs j) (hf : cn + 1 ≤ R.cells ∧ sn + N ≤ R.slots) (hd : decode cc pc = .ok (.new idx, 3))
    (k : ∀ q : Nat, WX p l e R s m args below meth c E A nL (cn + 1) (sn + N) Q (ws ++ (X ++ [(q, .inr (ci, fs))])) (pc + 3) lv (.ref q :: st)) : WX p l e R s m args below meth c E A nL cn sn Q (ws ++ X) pc lv st := fun H locs ls hP hD hS hl =>
  va_new (D := E.1) (tys := tyE E) B.1 B.2.1 B.2.2.2.2.1 hin ty hty B.2.2.2.1 (B.2.2.2.2.1 _ hcl) (B.2.2.2.2.1 _ hinst) (B.2.2.2.2.1 _ hini) B.2.2.2.2.2.1 hP hD hS B.2.2.2.2.2.2.1 hc hfs hf.1 hf.2 hd (fun q H1 hP1 hD1 hS1 => by
    rw [List.append_assoc] at hP1 hD1
    exact k q H1 locs ls hP1 hD1 hS1 hl)
abbrev zI (E : En) (n : Nat) : va_E := .inl (E.2.1.1, n, .inl (fun _ : Nat => i2 0))
abbrev zB (E : En) (n : Nat) : va_E := .inl (E.2.1.2.1, n, .inl (fun _ : Nat => i2 0))
abbrev zZ (E : En) (n : Nat) : va_E := .inl (E.2.1.2.2.1, n, .inl (fun _ : Nat => i2 0))
abbrev zQ (E : En) (n : Nat) (f : Nat → Option Nat) : va_E := .inl (E.2.1.2.2.2, n, .inr (.inr (.inr (.inr f))))
theorem x_newI (B : Bx p s m args c cc nL own E A) {ws X : va_W} (harr : Cond.arrayClass .int ∈ TBL) {n : Int} (N : Nat) (hn : n = (N : Int)) (hN : N ≤ 100000) (hf : cn + 1 ≤ R.cells ∧ sn + N ≤ R.slots) (hd : decode cc pc = .ok (.newarray .int, 2))
    (k : ∀ q : Nat, WX p l e R s m args below meth c E A nL (cn + 1) (sn + N) Q (ws ++ (X ++ [(q, zI E N)])) (pc + 2) lv (.ref q :: st)) : WX p l e R s m args below meth c E A nL cn sn Q (ws ++ X) pc lv (.int (i2 n) :: st) := fun H locs ls hP hD hS hl => by
  subst hn
  rw [i2_nat]
  refine va_newa (D := E.1) (tys := tyE E) B.1 B.2.1 (atype := .int) (ty := .int) (B.2.2.2.2.1 _ harr) rfl B.2.2.2.2.2.1 hP hD hS B.2.2.2.2.2.2.1 (a0 := (N, .inl (fun _ : Nat => i2 0))) (N' := N) (fun cA => rfl) (nI_pos (by omega)) (nI_clamp (by omega)) (by show N * 4 ≤ _; omega) hf.1 hf.2 hd (fun q cA H1 hK1 hP1 hD1 hS1 => ?_)
  have e1 : s.vm.findClass ("[" ++ FieldType.int.toString) = some cA := (hK1.2 4 (cA, .int) rfl).2
  have e2 : s.vm.findClass ("[" ++ FieldType.int.toString) = some E.2.1.1 := (B.2.2.2.2.2.1.2 0 (E.2.1.1, .int) rfl).2
  have e3 : cA = E.2.1.1 := Option.some.inj (e1.symm.trans e2)
  subst e3
  rw [List.append_assoc] at hP1 hD1
  exact k q H1 locs ls hP1 hD1 hS1 hl
theorem x_newB (B : Bx p s m args c cc nL own E A) {ws X : va_W} (harr : Cond.arrayClass .byte ∈ TBL) {n : Int} (N : Nat) (hn : n = (N : Int)) (hN : N ≤ 100000) (hf : cn + 1 ≤ R.cells ∧ sn + N ≤ R.slots) (hd : decode cc pc = .ok (.newarray .byte, 2))
    (k : ∀ q : Nat, WX p l e R s m args below meth c E A nL (cn + 1) (sn + N) Q (ws ++ (X ++ [(q, zB E N)])) (pc + 2) lv (.ref q :: st)) : WX p l e R s m args below meth c E A nL cn sn Q (ws ++ X) pc lv (.int (i2 n) :: st) := fun H locs ls hP hD hS hl => by
  subst hn
  rw [i2_nat]
  refine va_newa (D := E.1) (tys := tyE E) B.1 B.2.1 (atype := .byte) (ty := .byte) (B.2.2.2.2.1 _ harr) rfl B.2.2.2.2.2.1 hP hD hS B.2.2.2.2.2.2.1 (a0 := (N, .inl (fun _ : Nat => i2 0))) (N' := N) (fun cA => rfl) (nI_pos (by omega)) (nI_clamp (by omega)) (by show N * 1 ≤ _; omega) hf.1 hf.2 hd (fun q cA H1 hK1 hP1 hD1 hS1 => ?_)
  have e1 : s.vm.findClass ("[" ++ FieldType.byte.toString) = some cA := (hK1.2 4 (cA, .byte) rfl).2
  have e2 : s.vm.findClass ("[" ++ FieldType.byte.toString) = some E.2.1.2.1 := (B.2.2.2.2.2.1.2 1 (E.2.1.2.1, .byte) rfl).2
  have e3 : cA = E.2.1.2.1 := Option.some.inj (e1.symm.trans e2)
  subst e3
  rw [List.append_assoc] at hP1 hD1
  exact k q H1 locs ls hP1 hD1 hS1 hl
theorem x_newZ (B : Bx p s m args c cc nL own E A) {ws X : va_W} (harr : Cond.arrayClass .boolean ∈ TBL) {n : Int} (N : Nat) (hn : n = (N : Int)) (hN : N ≤ 100000) (hf : cn + 1 ≤ R.cells ∧ sn + N ≤ R.slots) (hd : decode cc pc = .ok (.newarray .boolean, 2))
    (k : ∀ q : Nat, WX p l e R s m args below meth c E A nL (cn + 1) (sn + N) Q (ws ++ (X ++ [(q, zZ E N)])) (pc + 2) lv (.ref q :: st)) : WX p l e R s m args below meth c E A nL cn sn Q (ws ++ X) pc lv (.int (i2 n) :: st) := fun H locs ls hP hD hS hl => by
  subst hn
  rw [i2_nat]
  refine va_newa (D := E.1) (tys := tyE E) B.1 B.2.1 (atype := .boolean) (ty := .boolean) (B.2.2.2.2.1 _ harr) rfl B.2.2.2.2.2.1 hP hD hS B.2.2.2.2.2.2.1 (a0 := (N, .inl (fun _ : Nat => i2 0))) (N' := N) (fun cA => rfl) (nI_pos (by omega)) (nI_clamp (by omega)) (by show N * 1 ≤ _; omega) hf.1 hf.2 hd (fun q cA H1 hK1 hP1 hD1 hS1 => ?_)
  have e1 : s.vm.findClass ("[" ++ FieldType.boolean.toString) = some cA := (hK1.2 4 (cA, .boolean) rfl).2
  have e2 : s.vm.findClass ("[" ++ FieldType.boolean.toString) = some E.2.1.2.2.1 := (B.2.2.2.2.2.1.2 2 (E.2.1.2.2.1, .boolean) rfl).2
  have e3 : cA = E.2.1.2.2.1 := Option.some.inj (e1.symm.trans e2)
  subst e3
  rw [List.append_assoc] at hP1 hD1
  exact k q H1 locs ls hP1 hD1 hS1 hl
theorem x_newQ (B : Bx p s m args c cc nL own E A) {ws X : va_W} {idx : Nat} (hcl : Cond.classLink own idx "DayRows$Calendar" ∈ TBL) {n : Int} (N : Nat) (hn : n = (N : Int)) (hN : N ≤ 100000) (hf : cn + 1 ≤ R.cells ∧ sn + N ≤ R.slots) (hd : decode cc pc = .ok (.anewarray idx, 3))
    (k : ∀ q : Nat, WX p l e R s m args below meth c E A nL (cn + 1) (sn + N) Q (ws ++ (X ++ [(q, zQ E N (fun _ => none))])) (pc + 3) lv (.ref q :: st)) : WX p l e R s m args below meth c E A nL cn sn Q (ws ++ X) pc lv (.int (i2 n) :: st) := fun H locs ls hP hD hS hl => by
  subst hn
  rw [i2_nat]
  refine va_newq (D := E.1) (tys := tyE E) B.1 B.2.1 (C := "DayRows$Calendar") B.2.2.2.1 (B.2.2.2.2.1 _ hcl) B.2.2.2.2.2.2.2.2 B.2.2.2.2.2.1 hP hD hS B.2.2.2.2.2.2.1 (N' := N) (nI_pos (by omega)) (nI_clamp (by omega)) (by omega) hf.1 hf.2 hd (fun q cA H1 hK1 hP1 hD1 hS1 => ?_)
  have e1 : s.vm.findClass ("[" ++ (FieldType.object "DayRows$Calendar").toString) = some cA := by
    obtain ⟨_, _, _, _, _, h⟩ := (hK1.2 4 (cA, .object "DayRows$Calendar") rfl).2
    exact h
  have e2 : s.vm.findClass ("[" ++ (FieldType.object "DayRows$Calendar").toString) = some E.2.1.2.2.2 := by
    obtain ⟨_, _, _, _, _, h⟩ := (B.2.2.2.2.2.1.2 3 (E.2.1.2.2.2, .object "DayRows$Calendar") rfl).2
    exact h
  have e3 : cA = E.2.1.2.2.2 := Option.some.inj (e1.symm.trans e2)
  subst e3
  rw [List.append_assoc] at hP1 hD1
  exact k q H1 locs ls hP1 hD1 hS1 hl
theorem x_putF (B : Bx p s m args c cc nL own E A) {ws X : va_W} (X' : va_W) {C : String} {T : u_T} {N ci idx a v : Nat} {fs : List Value} (i : Nat) (he : X[i]? = some (a, .inr (ci, fs))) (j : Nat) (hc : vwCl[ci]? = some (C, T, N)) (hin : ∀ w ∈ u_ws C T N, w ∈ TBL) (ty0 : Nat → FieldType) (hty : ∀ k, k < N → parseFieldDescriptor (T k).2.2.1 = some (ty0 k)) (hnm : ∀ a, a < N → ∀ b, b < N → a ≠ b → (T a).2.1 ≠ (T b).2.1) (hj : j < N) (hlen : j < fs.length) (hfin : (T j).2.2.2 = true) (hmi : meth.name = "<init>") (hown : (T j).1 = own) {ty : FieldType} (hI : parseFieldDescriptor (T j).2.2.1 = some ty) (hn : narrow ty (.ref v) = .ref v) (hfit : fits ty (.ref v) = true) (hw : Cond.fieldLink own idx (T j).1 (T j).2.1 (T j).2.2.1 ∈ TBL) (hd : decode cc pc = .ok (.putfield idx, 3)) (hX : X.set i (a, .inr (ci, fs.set j (.ref v))) = X')
    (kk : WX p l e R s m args below meth c E A nL cn sn Q (ws ++ X') (pc + 3) lv st) : WX p l e R s m args below meth c E A nL cn sn Q (ws ++ X) pc lv (.ref v :: .ref a :: st) := fun H locs ls hP hD hS hl =>
  va_putF (D := E.1) (tys := tyE E) B.1 B.2.1 B.2.2.2.2.1 hin ty0 hty hnm B.2.2.2.1 B.2.2.2.2.2.1 hP hD hS (ws.length + i) (ax_get he) hc j hj (B.2.2.2.2.1 _ hw) (fun _ h => h) hfin hmi hown hI hn hfit hlen hd (fun H1 locs1 hP1 hD1 hS1 => by
    rw [ax_set, hX] at hP1 hD1
    exact kk H1 locs1 ls hP1 hD1 hS1 hl)
theorem x_putI (B : Bx p s m args c cc nL own E A) {ws X : va_W} (X' : va_W) {C : String} {T : u_T} {N ci idx a : Nat} {v : Int} {fs : List Value} (i : Nat) (he : X[i]? = some (a, .inr (ci, fs))) (j : Nat) (hc : vwCl[ci]? = some (C, T, N)) (hin : ∀ w ∈ u_ws C T N, w ∈ TBL) (ty0 : Nat → FieldType) (hty : ∀ k, k < N → parseFieldDescriptor (T k).2.2.1 = some (ty0 k)) (hnm : ∀ a, a < N → ∀ b, b < N → a ≠ b → (T a).2.1 ≠ (T b).2.1) (hj : j < N) (hlen : j < fs.length) (hfin : (T j).2.2.2 = false) (hI : parseFieldDescriptor (T j).2.2.1 = some .int) (hw : Cond.fieldLink own idx (T j).1 (T j).2.1 (T j).2.2.1 ∈ TBL) (hd : decode cc pc = .ok (.putfield idx, 3)) (hX : X.set i (a, .inr (ci, fs.set j (.int (i2 v)))) = X')
    (kk : WX p l e R s m args below meth c E A nL cn sn Q (ws ++ X') (pc + 3) lv st) : WX p l e R s m args below meth c E A nL cn sn Q (ws ++ X) pc lv (.int (i2 v) :: .ref a :: st) := fun H locs ls hP hD hS hl =>
  va_put (D := E.1) (tys := tyE E) B.1 B.2.1 B.2.2.2.2.1 hin ty0 hty hnm B.2.2.2.1 B.2.2.2.2.2.1 hP hD hS (ws.length + i) (ax_get he) hc j hj (B.2.2.2.2.1 _ hw) (fun _ h => h) hfin hI rfl rfl hlen hd (fun H1 locs1 hP1 hD1 hS1 => by
    rw [ax_set, hX] at hP1 hD1
    exact kk H1 locs1 ls hP1 hD1 hS1 hl)
theorem x_getR (B : Bx p s m args c cc nL own E A) {ws X : va_W} {C : String} {T : u_T} {N ci idx a v : Nat} {fs : List Value} (i : Nat) (he : X[i]? = some (a, .inr (ci, fs))) (j : Nat) (hc : vwCl[ci]? = some (C, T, N)) (hin : ∀ w ∈ u_ws C T N, w ∈ TBL) (hj : j < N) (hf : fs[j]? = some (.ref v)) (hw : Cond.fieldLink own idx (T j).1 (T j).2.1 (T j).2.2.1 ∈ TBL) (hd : decode cc pc = .ok (.getfield idx, 3))
    (kk : WX p l e R s m args below meth c E A nL cn sn Q (ws ++ X) (pc + 3) lv (.ref v :: st)) : WX p l e R s m args below meth c E A nL cn sn Q (ws ++ X) pc lv (.ref a :: st) := fun H locs ls hP hD hS hl =>
  va_get (D := E.1) (tys := tyE E) B.1 B.2.1 B.2.2.2.2.1 hin B.2.2.2.1 B.2.2.2.2.2.1 hP (ws.length + i) (ax_get he) hc j hj (B.2.2.2.2.1 _ hw) (fun _ h => h) hf hd (kk H locs ls hP hD hS hl)
theorem x_aast (B : Bx p s m args c cc nL own E A) {ws X : va_W} (X' : va_W) {N a v : Nat} {vs : List Value} {f : Nat → Option Nat} (i k : Nat) (ha : X[i]? = some (a, zQ E N f)) (hv : X[k]? = some (v, .inr (0, vs))) {n : Int} (j : Nat) (hn : n = (j : Int)) (hj : j < N ∧ N ≤ 100000) (hd : decode cc pc = .ok (.aastore, 1)) (hX : X.set i (a, zQ E N (va_up f j (some v))) = X')
    (kk : WX p l e R s m args below meth c E A nL cn sn Q (ws ++ X') (pc + 1) lv st) : WX p l e R s m args below meth c E A nL cn sn Q (ws ++ X) pc lv (.ref v :: .int (i2 n) :: .ref a :: st) := fun H locs ls hP hD hS hl => by
  subst hn
  have h3 := ix_cl (x := (j : Int)) (n := N) ⟨by omega, by omega⟩ (by omega)
  have h4 : (i2 (j : Int)).toNatClampNeg = j := by omega
  refine va_astq (D := E.1) (tys := tyE E) B.1 B.2.1 B.2.2.2.2.2.1 hP hD hS (ws.length + i) 3 (ws.length + k) 0 (r := (RX0, TX0, 9)) (ax_get ha) rfl (ax_get hv) rfl h3.1 hd (fun H1 locs1 hP1 hD1 hS1 => ?_)
  rw [h4, ax_set, hX] at hP1 hD1
  exact kk H1 locs1 ls hP1 hD1 hS1 hl
theorem px_of (B : Bx p s m args c cc nL own E A) {H : Heap} {locs : List Loc} (hP : va_P E.1 vwCl W0 H) (hD : va_D A W0) (hS : va_S A s.heap H locs) (U : State) (hU : U.heap = H) (hW : s.WarmedH U.vm) : PX E A W0 U := ⟨by rw [hU]; exact hP, va_K.moved hW.alike B.2.2.2.2.2.1, hD, fun q hq => B.2.2.2.2.2.2.1 q (Nat.le_trans hS.1 (by rw [hU] at hq; exact hq)), B.2.2.2.2.2.2.2.1.to hW hU hS, va_AO.moved hW.alike B.2.2.2.2.2.2.2.2⟩
theorem fin_X {H : Heap} {locs : List Loc} {ls : Array Slot} {a : Array Value} {st0 : List Value} {mc ms : Nat} {Po : va_W → Prop} (hr : va_Run p l e R s m args below meth c H locs cn sn mc ms (F0 m pc ls st0) st (va_Qv Po (fun u t => va_P E.1 vwCl u t.heap ∧ va_D A u) A a) A) (hS : va_S A s.heap H locs) (hl : lv_has ls nL lv) (kk : ∀ W' : va_W, Po W' → WX p l e R s m args below meth c E A nL (cn + mc) (sn + ms) Q W' (pc + 3) lv st) : W p l e R s m args below meth c H locs cn sn Q (F0 m pc ls st0) :=
  va_callv hr hS (fun _ _ h => h) (fun _ h => h) (fun u t H1 locs1 ht _ hp hB _ _ hS1 => kk u hp H1 locs1 ls (by rw [← ht]; exact hB.1) hB.2 hS1 hl)
theorem x_call (B : Bx p s m args c cc nL own E A) {ws X : va_W} {y : MethodName} {bytes : ByteArray} {mL n idx fr lo mc ms q : Nat} {en : va_E} {as st0 : List Value} {Po : va_W → Prop} (hM : XC l E A y bytes mL fr lo mc ms (.ref q :: as) (ws ++ X ++ [(q, en)]) Po) (mw : MXi y bytes mL n) (hl : Cond.methodLink own idx y ∈ TBL) (hR : fr + 1 ≤ R.frames ∧ 8 + (mL + 11) + lo ≤ R.locals) (hn : as.length = n) (hst : st0 = as.reverse ++ .ref q :: st) (hc : (st.map fun v => v.category).sum ≤ 8) (hd : decode cc pc = .ok (.invokespecial idx, 3)) (hf : cn + mc ≤ R.cells ∧ sn + ms ≤ R.slots)
    (kk : ∀ W' : va_W, Po W' → WX p l e R s m args below meth c E A nL (cn + mc) (sn + ms) Q W' (pc + 3) lv st) : WX p l e R s m args below meth c E A nL cn sn Q (ws ++ (X ++ [(q, en)])) pc lv st0 := fun H locs ls hP hD hS hv => by
  rw [← List.append_assoc] at hP hD
  obtain ⟨m1, m2, m3, m4, m5⟩ := mw
  exact fin_X (va_runI (Ts := TBL) (own := own) ⟨B.1, B.2.1, B.2.2.1, B.2.2.2.1, B.2.2.2.2.1⟩ hM ⟨callB_of n B.2.2.2.2.1 (gi_ws m3) rfl rfl rfl (B.2.2.2.2.1 _ m2) (B.2.2.2.2.1 _ hl) m5 hR, m4, B.2.2.2.2.1 _ m1⟩ ⟨PX_blind E A _ _, fun U hU hW => ⟨rfl, px_of B hP hD hS U hU hW⟩⟩ rfl hn hv.1 hst (lv_room hc) hd hf) hS hv kk
theorem x_callN (B : Bx p s m args c cc nL own E A) {ws X : va_W} {y : MethodName} {host : String} {bytes : ByteArray} {mL n idx fr lo mc ms q : Nat} {en : va_E} {as st0 : List Value} {Po : va_W → Prop} (hM : XC l E A y bytes mL fr lo mc ms (.ref q :: as) (ws ++ X ++ [(q, en)]) Po) (mw : MXi y bytes mL n) (hl : (own, idx, y, host) ∈ nestT) (hR : fr + 1 ≤ R.frames ∧ 8 + (mL + 11) + lo ≤ R.locals) (hn : as.length = n) (hst : st0 = as.reverse ++ .ref q :: st) (hc : (st.map fun v => v.category).sum ≤ 8) (hd : decode cc pc = .ok (.invokespecial idx, 3)) (hf : cn + mc ≤ R.cells ∧ sn + ms ≤ R.slots)
    (kk : ∀ W' : va_W, Po W' → WX p l e R s m args below meth c E A nL (cn + mc) (sn + ms) Q W' (pc + 3) lv st) : WX p l e R s m args below meth c E A nL cn sn Q (ws ++ (X ++ [(q, en)])) pc lv st0 := fun H locs ls hP hD hS hv => by
  rw [← List.append_assoc] at hP hD
  obtain ⟨m1, m2, m3, m4, m5⟩ := mw
  exact fin_X (va_runIN (Ts := TBL) (own := own) (host := host) ⟨B.1, B.2.1, B.2.2.1, B.2.2.2.1, B.2.2.2.2.1⟩ hM ⟨va_cnB n B.2.2.2.2.1 (gi_ws m3) rfl rfl rfl (B.2.2.2.2.2.2.2.1.2.2.2.2 _ hl) (B.2.2.2.2.1 _ m2) m5 hR, m4, B.2.2.2.2.1 _ m1⟩ ⟨PX_blind E A _ _, fun U hU hW => ⟨rfl, px_of B hP hD hS U hU hW⟩⟩ rfl hn hv.1 hst (lv_room hc) hd hf) hS hv kk
theorem x_ret (B : Bx p s m args c cc nL own E A) {Po : va_W → Prop} (hr : meth.sig.returnType = none) (hk : meth.locks = false) (v : Po W0) (hd : decode cc pc = .ok (.return_, 1)) : WX p l e R s m args below meth c E A nL cn sn (MQ below (va_Qv Po (fun u t => va_P E.1 vwCl u t.heap ∧ va_D A u) A) args s cn sn A) W0 pc lv [] := fun H locs ls hP hD hS hl =>
  W.vret B.1 B.2.1 hr (fun t ht _ => ⟨⟨W0, rfl, v, by show va_P E.1 vwCl W0 t.heap; rw [ht]; exact hP, hD⟩, hS.F ht⟩) hS.2.2 hd hk
end XR1
theorem mk_x {l : Launch} {E : En} {A : Nat → Prop} {y : MethodName} {cc : ByteArray} {mL fr lo mc ms : Nat} {as : List Value} {W0 : va_W} {Po : va_W → Prop} {own : String} {lv0 : List (Nat × Value)} (hy : plainName y.cls = true) (hown : y.cls = own) (hyn : y.name = "<init>") (hlen : (lg_sl as).length ≤ mL) (h0 : lv_args 0 as = lv0)
    (k : ∀ (p : Program) (e : Env) (s : State) (m : MethodId) (args : Array Value) (below : List Frame) (meth : Method) (c : Code), Bx p s m args c cc mL own E A → meth.name = "<init>" → meth.sig.returnType = none → meth.locks = false → WX p l e { frames := fr, cells := mc, slots := ms, locals := lo } s m args below meth c E A mL 0 0 (MQ below (va_Qv Po (fun u t => va_P E.1 vwCl u t.heap ∧ va_D A u) A) args s mc ms A) W0 0 lv0 []) : XC l E A y cc mL fr lo mc ms as W0 Po := by
  refine Met.ofW (cc := cc) (maxL := mL) (ret := none) hy rfl ?_
  intro p e s m args below meth c s₁ B hml hv
  obtain ⟨rfl, hP, hK, hD, hA, hF, hO⟩ := hv
  have hts := atoms_spec (ws := .code y cc mL none :: TBL) B.pre
  have hown' : s.vm.findClass own = some m.cls := by rw [← hown]; exact findClass_of_methodNamed B.named
  have hmn : meth.name = "<init>" := by rw [← hyn]; exact (name_of_methodNamed B.named B.method).1
  have hB : Bx p s m as.toArray c cc mL own E A := ⟨B.exec, B.bytes, hml, hown', fun w hw => hts w (List.mem_cons_of_mem _ hw), hK, hA, hF, hO⟩
  rw [lg_entry_eq]
  have hl := lv_entry as (n := mL) hlen
  rw [h0] at hl
  exact k p e s m as.toArray below meth c hB hmn B.returns B.notSynchronized s.heap [] _ hP hD va_S.rf hl
