/-! what stands at the law's entry: the Strings, the classes -/
def stk : List (String × Nat) := [("DayRows$Reader", 49), ("DayRows$Reader", 58), ("DayRows$Reader", 63), ("DayRows$Reader", 68), ("DayRows$Reader", 109), ("DayRows$Reader", 115), ("DayRows$Reader", 73), ("DayRows$Reader", 117), ("DayRows$Teller", 25), ("DayRows$Teller", 40), ("DayRows$Teller", 58), ("DayRows$Teller", 64), ("DayRows$Teller", 79), ("DayRows$Teller", 82)]
def tmS (i : Nat) : Term := .string (stk.getD i ("", 0)).1 (stk.getD i ("", 0)).2
def gvL : List Cond := flatC (Jvm.Cond.and given_1 narrow_1)
set_option maxRecDepth 100000 in
theorem st_in1 : ∀ i, i < slen.length → Cond.exactly (tmS i) "java/lang/String" ∈ gvL ∧ Cond.eq (.field (tmS i) "java/lang/String" "coder" "B") (.int 0) ∈ gvL ∧ Cond.arrayOf (.field (tmS i) "java/lang/String" "value" "[B") .byte ∈ gvL ∧ Cond.eq (.length (.field (tmS i) "java/lang/String" "value" "[B")) (.int (Int32.ofNat (slen.getD i 0))) ∈ gvL := by decide +kernel
set_option maxRecDepth 100000 in
theorem st_in2 : ∀ i, i < slen.length → ∀ j, j < slen.getD i 0 → Cond.eq (.elem (.field (tmS i) "java/lang/String" "value" "[B") (.int (Int32.ofNat j))) (.int ((sbyt.getD i []).getD j 0)) ∈ gvL := by decide +kernel
set_option maxRecDepth 100000 in
theorem st_in3 : ∀ q ∈ strT, q.2.2.2 < slen.length ∧ Cond.stringRef q.1 q.2.1 q.2.2.1 ∈ lw_tbl ∧ (tmS q.2.2.2 = .string q.1 q.2.1 ∨ Cond.eq (tmS q.2.2.2) (.string q.1 q.2.1) ∈ gvL) := by decide +kernel
set_option maxRecDepth 100000 in
theorem st_in4 : ∀ q ∈ nestT, Cond.methodLinkNest q.1 q.2.1 q.2.2.1 q.2.2.2 ∈ lw_tbl := by decide +kernel
theorem st_dif : ∀ i, i < slen.length → ∀ j, j < slen.length → slen.getD i 0 = slen.getD j 0 → (∀ q, q < slen.getD i 0 → (sbyt.getD i []).getD q 0 = (sbyt.getD j []).getD q 0) → i = j := by decide +kernel
def stC (args : Array Value) (s : State) (A : Nat → Prop) (i : Nat) (q : Nat × Nat) : Prop := (tmS i).eval args s none [] s = some (.ref q.1) ∧ va_O "java/lang/String" q.1 A s s.heap ∧ va_OF "java/lang/String" "coder" "B" (.int 0) q.1 A s s.heap ∧ va_OF "java/lang/String" "value" "[B" (.ref q.2) q.1 A s s.heap ∧ va_T .byte q.2 (slen.getD i 0) (fun j => .int ((sbyt.getD i []).getD j 0)) A s s.heap
theorem st_one {args : Array Value} {s : State} {A : Nat → Prop} (hgv : ∀ w ∈ gvL, w.before args s = true) (hA : ∀ a : Nat, a < s.heap.size → ¬ A a) (i : Nat) (hi : i < slen.length) : ∃ q : Nat × Nat, stC args s A i q := by
  have h1 := st_in1 i hi
  obtain ⟨k, v, hS, hT⟩ := vk_Sof (args := args) (s := s) (N := 1) (tm := fun _ => tmS i) (len := [slen.getD i 0]) (byt := [sbyt.getD i []]) (A := A)
    (fun n hn => by
      obtain rfl : n = 0 := by omega
      show slen.getD i 0 < _
      have := (str_len i hi).2
      omega)
    (fun _ _ => hgv _ h1.1) (fun _ _ => hgv _ h1.2.1) (fun _ _ => hgv _ h1.2.2.1)
    (fun n hn => by
      obtain rfl : n = 0 := by omega
      exact hgv _ h1.2.2.2)
    (fun n hn j hj => by
      obtain rfl : n = 0 := by omega
      exact hgv _ (st_in2 i hi j hj))
    (fun n j hn hj hne => absurd (show n = j by omega) hne) hA
  have h2 := hS.1 0 (by omega)
  exact ⟨(k 0, v 0), hT 0 (by omega), h2.1, h2.2.1, h2.2.2.1, h2.2.2.2⟩
theorem st_size {n k : Nat} (hn : n < 100) (hk : k < 100) (h : Int32.ofNat n = Int32.ofNat k) : n = k := by
  have h1 := congrArg Int32.toInt h
  rw [Int32.toInt_ofNat_of_lt (by omega), Int32.toInt_ofNat_of_lt (by omega)] at h1
  omega
theorem st_inj {args : Array Value} {s : State} {A : Nat → Prop} {i j : Nat} {q r : Nat × Nat} (hi : i < slen.length) (hj : j < slen.length) (h : stC args s A i q) (k : stC args s A j r) (e : q.1 = r.1) : i = j := by
  obtain ⟨-, -, -, ⟨cf, kf, fi, f, cell, a1, a2, a3, a4, a5, a6⟩, ⟨ca, b1, b2, b3, b4, b5, b6, b7⟩⟩ := h
  obtain ⟨-, -, -, ⟨cf', kf', fi', f', cell', a1', a2', a3', a4', a5', a6'⟩, ⟨ca', b1', b2', b3', b4', b5', b6', b7'⟩⟩ := k
  have e1 := a1.symm.trans a1'
  simp only [Option.some.injEq, Prod.mk.injEq] at e1
  obtain ⟨rfl, rfl, rfl, rfl⟩ := e1
  rw [e] at a3
  have e2 : cell = cell' := Option.some.inj (a3.symm.trans a3')
  subst e2
  have e3 := a5.symm.trans a5'
  simp only [Option.some.injEq, Value.ref.injEq] at e3
  rw [e3] at b1
  have e4 : ca = ca' := Option.some.inj (b1.symm.trans b1')
  subst e4
  have e5 := st_size (str_len i hi).2 (str_len j hj).2 (b5.symm.trans b5')
  refine st_dif i hi j hj e5 (fun n hn => ?_)
  have e6 := (b6 n hn).symm.trans (b6' n (by omega))
  simpa using e6
theorem sf_entry {args : Array Value} {s : State} {A : Nat → Prop} (hts : ∀ w ∈ lw_tbl, w.before args s = true) (hgv : ∀ w ∈ gvL, w.before args s = true) (hA : ∀ a : Nat, a < s.heap.size → ¬ A a) : ∃ adK adV : Nat → Nat, ∀ (D : va_G) (cs : ClassId × ClassId × ClassId × ClassId) (ad : Int → Nat), SF (D, cs, ad, adK, adV) A s := by
  have h0 : ∀ i : Nat, ∃ q : Nat × Nat, i < slen.length → stC args s A i q := by
    intro i
    by_cases hi : i < slen.length
    · obtain ⟨q, hq⟩ := st_one hgv hA i hi
      exact ⟨q, fun _ => hq⟩
    · exact ⟨(0, 0), fun h => absurd h hi⟩
  obtain ⟨ad, had⟩ := Classical.axiomOfChoice h0
  refine ⟨fun i => (ad i).1, fun i => (ad i).2, fun D cs ad' => ⟨⟨fun i hi => (had i hi).2, fun i j hi hj e => st_inj hi hj (had i hi) (had j hj) e⟩, fun q hq => ?_, ?_, ?_, fun q hq => ?_⟩⟩
  · obtain ⟨h1, h2, h3⟩ := st_in3 q hq
    have h4 := (had q.2.2.2 h1).1
    rcases h3 with h3 | h3
    · rw [h3] at h4
      exact vk_R.of (hts _ h2) h4
    · exact vk_R.of (hts _ h2) (va_eqR (hgv _ h3) h4)
  · exact va_Zof (hts _ (List.mem_of_getElem? (i := 447) (by decide +kernel))) (hts (.initialized "java/lang/String") (by decide +kernel)) (va_eqt (hgv _ (by decide +kernel))) hA
  · exact va_Zqof (hts _ (List.mem_of_getElem? (i := 463) (by decide +kernel))) (hts (.initialized "jdk/internal/util/Preconditions") (by decide +kernel)) (hgv _ (by decide +kernel)) hA
  · exact va_Nw.of rfl (hts _ (st_in4 q hq))
theorem ar_entry {args : Array Value} {s : State} {ty : FieldType} (h : (Cond.arrayClass ty).before args s = true) (h0 : ∀ C, ty ≠ .object C) : ∃ cA : ClassId, ArrOfT s cA ty ∧ va_RA s cA ty := by
  obtain ⟨cA, kA, comp, h1, h2, h3⟩ := Cond.arrayClass_spec h
  refine ⟨cA, fun n z => ⟨(fun k h => by cases h), kA, h2, comp, h3⟩, ?_⟩
  cases ty <;> first | exact h1 | exact absurd rfl (h0 _)
theorem aq_entry {args : Array Value} {s : State} {C : String} (h : (Cond.arrayOver (.object C)).before args s = true) : ∃ cA : ClassId, ArrOfT s cA (.object C) ∧ va_RA s cA (.object C) := by
  obtain ⟨comp, cA, kA, h1, h2, h3, h4, h5⟩ := Cond.arrayOver_spec h
  exact ⟨cA, fun n z => ⟨(fun k h => by cases h), kA, h3, comp, h4⟩, kA, comp, h3, h4, h1, h5⟩
theorem k_entry {args : Array Value} {s : State} (hts : ∀ w ∈ lw_tbl, w.before args s = true) : ∃ (D : va_G) (cs : ClassId × ClassId × ClassId × ClassId), ∀ (ad : Int → Nat) (adK adV : Nat → Nat), va_K D vwCl (tyE (D, cs, ad, adK, adV)) s := by
  have ht : ∀ w ∈ TBL, w.before args s = true := fun w hw => hts w (TBL_in hw)
  have hc : ∀ c : Nat, ∃ x : ClassId × (Nat → Nat), ∀ q : vw_C, vwCl[c]? = some q → u_Kn s q.1 q.2.1 q.2.2 x.1 x.2 := by
    intro c
    match c with
    | 0 => obtain ⟨cC, iS, h⟩ := u_known ht win_X0 (ht _ xi_X0); exact ⟨(cC, iS), fun q hq => by cases hq; exact h⟩
    | 1 => obtain ⟨cC, iS, h⟩ := u_known ht win_X1 (ht _ xi_X1); exact ⟨(cC, iS), fun q hq => by cases hq; exact h⟩
    | 2 => obtain ⟨cC, iS, h⟩ := u_known ht win_X2 (ht _ xi_X2); exact ⟨(cC, iS), fun q hq => by cases hq; exact h⟩
    | 3 => obtain ⟨cC, iS, h⟩ := u_known ht win_X3 (ht _ xi_X3); exact ⟨(cC, iS), fun q hq => by cases hq; exact h⟩
    | 4 => obtain ⟨cC, iS, h⟩ := u_known ht win_X4 (ht _ xi_X4); exact ⟨(cC, iS), fun q hq => by cases hq; exact h⟩
    | 5 => obtain ⟨cC, iS, h⟩ := u_known ht win_X5 (ht _ xi_X5); exact ⟨(cC, iS), fun q hq => by cases hq; exact h⟩
    | 6 => obtain ⟨cC, iS, h⟩ := u_known ht win_X6 (ht _ xi_X6); exact ⟨(cC, iS), fun q hq => by cases hq; exact h⟩
    | 7 => obtain ⟨cC, iS, h⟩ := u_known ht win_X7 (ht _ xi_X7); exact ⟨(cC, iS), fun q hq => by cases hq; exact h⟩
    | 8 => obtain ⟨cC, iS, h⟩ := u_known ht win_X8 (ht _ xi_X8); exact ⟨(cC, iS), fun q hq => by cases hq; exact h⟩
    | 9 => obtain ⟨cC, iS, h⟩ := u_known ht win_X9 (ht _ xi_X9); exact ⟨(cC, iS), fun q hq => by cases hq; exact h⟩
    | 10 => obtain ⟨cC, iS, h⟩ := u_known ht win_X10 (ht _ xi_X10); exact ⟨(cC, iS), fun q hq => by cases hq; exact h⟩
    | 11 => obtain ⟨cC, iS, h⟩ := u_known ht win_X11 (ht _ xi_X11); exact ⟨(cC, iS), fun q hq => by cases hq; exact h⟩
    | n + 12 => exact ⟨(0, fun _ => 0), fun q hq => by simp at hq⟩
  obtain ⟨D, hD⟩ := Classical.axiomOfChoice hc
  obtain ⟨cI, hI⟩ := ar_entry (ty := .int) (ht _ xa_int) (fun _ h => by cases h)
  obtain ⟨cB, hB⟩ := ar_entry (ty := .byte) (ht _ xa_byte) (fun _ h => by cases h)
  obtain ⟨cZ, hZ⟩ := ar_entry (ty := .boolean) (ht _ xa_boolean) (fun _ h => by cases h)
  obtain ⟨cQ, hQ⟩ := aq_entry (C := "DayRows$Calendar") (hts _ (List.mem_of_getElem? (i := 346) (by decide +kernel)))
  refine ⟨(fun c => (D c).1, fun c => (D c).2), (cI, cB, cZ, cQ), fun ad adK adV => ⟨fun c q hq => hD c q hq, fun k q hq => ?_⟩⟩
  match k, hq with
  | 0, hq => cases hq; exact hI
  | 1, hq => cases hq; exact hB
  | 2, hq => cases hq; exact hZ
  | 3, hq => cases hq; exact hQ
  | n + 4, hq => simp at hq
