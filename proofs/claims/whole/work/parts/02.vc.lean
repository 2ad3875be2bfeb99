/-! whole numbers as the values of the machine; the memory: a whole number for each cell and place -/
abbrev Mm : Type := Int → Int → Int
abbrev i2 (x : Int) : Int32 := Int32.ofInt x
abbrev l2 (x : Int) : Int64 := Int64.ofInt x
abbrev r32 (x : Int) : Prop := -2147483648 ≤ x ∧ x ≤ 2147483647
abbrev r64 (x : Int) : Prop := -9223372036854775808 ≤ x ∧ x ≤ 9223372036854775807
def rgM (I : Mm) : Prop := ∀ a j : Int, r32 (I a j)
def wrM (I : Mm) (a i v : Int) : Mm := fun b j => if b = a ∧ j = i then v else I b j
def cpM (I : Mm) (a i b j n : Int) : Mm := fun d k => if d = b ∧ j ≤ k ∧ k < j + n then I a (i + (k - j)) else I d k
def bAnd (x y : Int) : Int := (i2 x &&& i2 y).toInt
def bOr (x y : Int) : Int := (i2 x ||| i2 y).toInt
def bShl (x y : Int) : Int := (i2 x <<< (i2 y &&& 31)).toInt
def bShr (x y : Int) : Int := (i2 x >>> (i2 y &&& 31)).toInt
def bUshr (x y : Int) : Int := ((i2 x).toUInt32 >>> ((i2 y).toUInt32 &&& Int32.toUInt32 31)).toInt32.toInt
def bByte (x : Int) : Int := (i2 x).toInt8.toInt32.toInt
theorem r32_toInt (x : Int32) : r32 x.toInt := by
  have h1 := Int32.le_toInt x
  have h2 := Int32.toInt_lt x
  exact ⟨by omega, by omega⟩
theorem i2_toInt (x : Int32) : i2 x.toInt = x := Int32.ofInt_toInt x
theorem toInt_i2 {x : Int} (h : r32 x) : (i2 x).toInt = x := Int32.toInt_ofInt_of_le (by have := h.1; omega) (by have := h.2; omega)
theorem toInt_l2 {x : Int} (h : r64 x) : (l2 x).toInt = x := Int64.toInt_ofInt_of_le (by have := h.1; omega) (by have := h.2; omega)
theorem i2_lt {x y : Int} (hx : r32 x) (hy : r32 y) : i2 x < i2 y ↔ x < y := by rw [Int32.lt_iff_toInt_lt, toInt_i2 hx, toInt_i2 hy]
theorem i2_le {x y : Int} (hx : r32 x) (hy : r32 y) : i2 x ≤ i2 y ↔ x ≤ y := by rw [Int32.le_iff_toInt_le, toInt_i2 hx, toInt_i2 hy]
theorem i2_eq {x y : Int} (hx : r32 x) (hy : r32 y) : i2 x = i2 y ↔ x = y := ⟨fun h => by rw [← toInt_i2 hx, ← toInt_i2 hy, h], fun h => by rw [h]⟩
theorem l2_lt {x y : Int} (hx : r64 x) (hy : r64 y) : l2 x < l2 y ↔ x < y := by rw [Int64.lt_iff_toInt_lt, toInt_l2 hx, toInt_l2 hy]
theorem l2_le {x y : Int} (hx : r64 x) (hy : r64 y) : l2 x ≤ l2 y ↔ x ≤ y := by rw [Int64.le_iff_toInt_le, toInt_l2 hx, toInt_l2 hy]
theorem l2_eq {x y : Int} (hx : r64 x) (hy : r64 y) : l2 x = l2 y ↔ x = y := ⟨fun h => by rw [← toInt_l2 hx, ← toInt_l2 hy, h], fun h => by rw [h]⟩
theorem i2_nat (n : Nat) : i2 (n : Int) = nI n := by first | rfl | exact Int32.ofInt_eq_ofNat | simp [i2, nI]
theorem l2_nat (n : Nat) : l2 (n : Int) = lN n := by first | rfl | exact Int64.ofInt_eq_ofNat | simp [l2, lN]
theorem nat_of {x : Int} (h : 0 ≤ x) : ∃ n : Nat, x = (n : Int) := ⟨x.toNat, by omega⟩
theorem i2_div {x y : Int} (hx : r32 x) (hy : r32 y) (h0 : 0 ≤ x) (h1 : 0 < y) : i2 x / i2 y = i2 (x / y) := by
  obtain ⟨a, rfl⟩ := nat_of h0
  obtain ⟨b, rfl⟩ := nat_of (show 0 ≤ y by omega)
  have h2 := hx.2
  have h3 := hy.2
  rw [i2_nat, i2_nat, pk_div (by omega) (by omega) (by omega), ← i2_nat]
  rfl
theorem i2_rem {x y : Int} (hx : r32 x) (hy : r32 y) (h0 : 0 ≤ x) (h1 : 0 < y) : i2 x - i2 x / i2 y * i2 y = i2 (x % y) := by
  obtain ⟨a, rfl⟩ := nat_of h0
  obtain ⟨b, rfl⟩ := nat_of (show 0 ≤ y by omega)
  have h2 := hx.2
  have h3 := hy.2
  rw [i2_nat, i2_nat, pk_rem (by omega) (by omega) (by omega), ← i2_nat]
  rfl
theorem l2_div {x y : Int} (hx : r64 x) (hy : r64 y) (h0 : 0 ≤ x) (h1 : 0 < y) : l2 x / l2 y = l2 (x / y) := by
  obtain ⟨a, rfl⟩ := nat_of h0
  obtain ⟨b, rfl⟩ := nat_of (show 0 ≤ y by omega)
  have h2 := hx.2
  have h3 := hy.2
  rw [l2_nat, l2_nat, pk_lDiv (by omega) (by omega) (by omega), ← l2_nat]
  rfl
theorem i2_long {x : Int} (h : r32 x) : (i2 x).toInt64 = l2 x := by
  have h1 : Int64.ofInt (i2 x).toInt = (i2 x).toInt64 := Int64.ofInt_int32ToInt _
  rw [← h1, toInt_i2 h]
theorem l2_int (x : Int) : (l2 x).toInt32 = i2 x := Int64.toInt32_ofInt
theorem i2_min {x y : Int} (hx : r32 x) (hy : r32 y) : (if i2 y < i2 x then i2 y else i2 x) = i2 (min x y) := by
  by_cases h : y < x
  · rw [if_pos ((i2_lt hy hx).mpr h), Int.min_eq_right (by omega)]
  · rw [if_neg (fun q => h ((i2_lt hy hx).mp q)), Int.min_eq_left (by omega)]
theorem i2_max {x y : Int} (hx : r32 x) (hy : r32 y) : (if i2 y < i2 x then i2 x else i2 y) = i2 (max x y) := by
  by_cases h : y < x
  · rw [if_pos ((i2_lt hy hx).mpr h), Int.max_eq_left (by omega)]
  · rw [if_neg (fun q => h ((i2_lt hy hx).mp q)), Int.max_eq_right (by omega)]
theorem l2_min {x y : Int} (hx : r64 x) (hy : r64 y) : (if l2 y < l2 x then l2 y else l2 x) = l2 (min x y) := by
  by_cases h : y < x
  · rw [if_pos ((l2_lt hy hx).mpr h), Int.min_eq_right (by omega)]
  · rw [if_neg (fun q => h ((l2_lt hy hx).mp q)), Int.min_eq_left (by omega)]
theorem l2_max {x y : Int} (hx : r64 x) (hy : r64 y) : (if l2 y < l2 x then l2 x else l2 y) = l2 (max x y) := by
  by_cases h : y < x
  · rw [if_pos ((l2_lt hy hx).mpr h), Int.max_eq_left (by omega)]
  · rw [if_neg (fun q => h ((l2_lt hy hx).mp q)), Int.max_eq_right (by omega)]
theorem rg_and (x y : Int) : r32 (bAnd x y) := r32_toInt _
theorem rg_or (x y : Int) : r32 (bOr x y) := r32_toInt _
theorem rg_shl (x y : Int) : r32 (bShl x y) := r32_toInt _
theorem rg_shr (x y : Int) : r32 (bShr x y) := r32_toInt _
theorem rg_ushr (x y : Int) : r32 (bUshr x y) := r32_toInt _
theorem rg_byte (x : Int) : r32 (bByte x) := r32_toInt _
theorem rg_div {x y : Int} (hx : r32 x) (h0 : 0 ≤ x) (h1 : 0 < y) : r32 (x / y) := by
  have h2 := Int.ediv_nonneg h0 (Int.le_of_lt h1)
  have h3 := Int.ediv_le_self y h0
  exact ⟨by omega, by have := hx.2; omega⟩
theorem rg_rem {x y : Int} (hy : r32 y) (h1 : 0 < y) : r32 (x % y) := by
  have h2 := Int.emod_nonneg x (show y ≠ 0 by omega)
  have h3 := Int.emod_lt_of_pos x h1
  exact ⟨by omega, by have := hy.2; omega⟩
theorem rg_min {x y : Int} (hx : r32 x) (hy : r32 y) : r32 (min x y) := by
  obtain ⟨a, b⟩ := hx
  obtain ⟨c, d⟩ := hy
  exact ⟨by omega, by omega⟩
theorem rg_max {x y : Int} (hx : r32 x) (hy : r32 y) : r32 (max x y) := by
  obtain ⟨a, b⟩ := hx
  obtain ⟨c, d⟩ := hy
  exact ⟨by omega, by omega⟩
theorem rg_64 {x : Int} (h : r32 x) : r64 x := by
  obtain ⟨a, b⟩ := h
  exact ⟨by omega, by omega⟩
theorem rg_wr {I : Mm} {a i v : Int} (h : rgM I) (hv : r32 v) : rgM (wrM I a i v) := by
  intro b j
  unfold wrM
  split
  · exact hv
  · exact h b j
theorem rg_cp {I : Mm} {a i b j n : Int} (h : rgM I) : rgM (cpM I a i b j n) := by
  intro d k
  unfold cpM
  split
  · exact h _ _
  · exact h d k
theorem rg_lit {x : Int} (h1 : -2147483648 ≤ x) (h2 : x ≤ 2147483647) : r32 x := ⟨h1, h2⟩
theorem wr_s (I : Mm) (a i v : Int) : wrM I a i v a i = v := by simp [wrM]
theorem wr_n {I : Mm} {a i v b j : Int} (h : ¬ (b = a ∧ j = i)) : wrM I a i v b j = I b j := by simp [wrM, h]
theorem bl01 {x : Int} (h : x = 0 ∨ x = 1) : r32 x := by rcases h with rfl | rfl <;> exact ⟨by omega, by omega⟩
