/-- the cells: kind (0 object, 1 int[], 2 byte[], 3 boolean[], 4 Calendar[]), class or length, the references -/
def shp : List (Nat × Nat × List (Option Int)) := [(0, 10, [some 1, some 17, some 33, some 35, some 36, some 37, some 39, some 201, some 234, some 235, none]),
  (0, 0, [some 2, some 6, some 10, some 14, some 16, none, none, none, none]),
  (0, 3, [none, some 3, some 4, some 5]),
  (1, 16, []),
  (1, 16, []),
  (1, 16, []),
  (0, 8, [none, some 7, some 8, some 9]),
  (1, 200, []),
  (1, 200, []),
  (1, 200, []),
  (0, 5, [none, some 11, some 12, some 13]),
  (1, 12, []),
  (1, 12, []),
  (1, 12, []),
  (0, 2, [none, none, some 15]),
  (1, 200, []),
  (1, 8, []),
  (0, 0, [some 18, some 22, some 26, some 30, some 32, none, none, none, none]),
  (0, 3, [none, some 19, some 20, some 21]),
  (1, 16, []),
  (1, 16, []),
  (1, 16, []),
  (0, 8, [none, some 23, some 24, some 25]),
  (1, 200, []),
  (1, 200, []),
  (1, 200, []),
  (0, 5, [none, some 27, some 28, some 29]),
  (1, 12, []),
  (1, 12, []),
  (1, 12, []),
  (0, 2, [none, none, some 31]),
  (1, 200, []),
  (1, 8, []),
  (0, 6, [none, some 34]),
  (2, 400, []),
  (0, 4, [some 33, some 17, none, none]),
  (0, 7, [none, none, none]),
  (0, 9, [some 38]),
  (1, 16, []),
  (0, 1, [none, none, some 40]),
  (4, 10, [some 41, some 57, some 73, some 89, some 105, some 121, some 137, some 153, some 169, some 185]),
  (0, 0, [some 42, some 46, some 50, some 54, some 56, none, none, none, none]),
  (0, 3, [none, some 43, some 44, some 45]),
  (1, 16, []),
  (1, 16, []),
  (1, 16, []),
  (0, 8, [none, some 47, some 48, some 49]),
  (1, 200, []),
  (1, 200, []),
  (1, 200, []),
  (0, 5, [none, some 51, some 52, some 53]),
  (1, 12, []),
  (1, 12, []),
  (1, 12, []),
  (0, 2, [none, none, some 55]),
  (1, 200, []),
  (1, 8, []),
  (0, 0, [some 58, some 62, some 66, some 70, some 72, none, none, none, none]),
  (0, 3, [none, some 59, some 60, some 61]),
  (1, 16, []),
  (1, 16, []),
  (1, 16, []),
  (0, 8, [none, some 63, some 64, some 65]),
  (1, 200, []),
  (1, 200, []),
  (1, 200, []),
  (0, 5, [none, some 67, some 68, some 69]),
  (1, 12, []),
  (1, 12, []),
  (1, 12, []),
  (0, 2, [none, none, some 71]),
  (1, 200, []),
  (1, 8, []),
  (0, 0, [some 74, some 78, some 82, some 86, some 88, none, none, none, none]),
  (0, 3, [none, some 75, some 76, some 77]),
  (1, 16, []),
  (1, 16, []),
  (1, 16, []),
  (0, 8, [none, some 79, some 80, some 81]),
  (1, 200, []),
  (1, 200, []),
  (1, 200, []),
  (0, 5, [none, some 83, some 84, some 85]),
  (1, 12, []),
  (1, 12, []),
  (1, 12, []),
  (0, 2, [none, none, some 87]),
  (1, 200, []),
  (1, 8, []),
  (0, 0, [some 90, some 94, some 98, some 102, some 104, none, none, none, none]),
  (0, 3, [none, some 91, some 92, some 93]),
  (1, 16, []),
  (1, 16, []),
  (1, 16, []),
  (0, 8, [none, some 95, some 96, some 97]),
  (1, 200, []),
  (1, 200, []),
  (1, 200, []),
  (0, 5, [none, some 99, some 100, some 101]),
  (1, 12, []),
  (1, 12, []),
  (1, 12, []),
  (0, 2, [none, none, some 103]),
  (1, 200, []),
  (1, 8, []),
  (0, 0, [some 106, some 110, some 114, some 118, some 120, none, none, none, none]),
  (0, 3, [none, some 107, some 108, some 109]),
  (1, 16, []),
  (1, 16, []),
  (1, 16, []),
  (0, 8, [none, some 111, some 112, some 113]),
  (1, 200, []),
  (1, 200, []),
  (1, 200, []),
  (0, 5, [none, some 115, some 116, some 117]),
  (1, 12, []),
  (1, 12, []),
  (1, 12, []),
  (0, 2, [none, none, some 119]),
  (1, 200, []),
  (1, 8, []),
  (0, 0, [some 122, some 126, some 130, some 134, some 136, none, none, none, none]),
  (0, 3, [none, some 123, some 124, some 125]),
  (1, 16, []),
  (1, 16, []),
  (1, 16, []),
  (0, 8, [none, some 127, some 128, some 129]),
  (1, 200, []),
  (1, 200, []),
  (1, 200, []),
  (0, 5, [none, some 131, some 132, some 133]),
  (1, 12, []),
  (1, 12, []),
  (1, 12, []),
  (0, 2, [none, none, some 135]),
  (1, 200, []),
  (1, 8, []),
  (0, 0, [some 138, some 142, some 146, some 150, some 152, none, none, none, none]),
  (0, 3, [none, some 139, some 140, some 141]),
  (1, 16, []),
  (1, 16, []),
  (1, 16, []),
  (0, 8, [none, some 143, some 144, some 145]),
  (1, 200, []),
  (1, 200, []),
  (1, 200, []),
  (0, 5, [none, some 147, some 148, some 149]),
  (1, 12, []),
  (1, 12, []),
  (1, 12, []),
  (0, 2, [none, none, some 151]),
  (1, 200, []),
  (1, 8, []),
  (0, 0, [some 154, some 158, some 162, some 166, some 168, none, none, none, none]),
  (0, 3, [none, some 155, some 156, some 157]),
  (1, 16, []),
  (1, 16, []),
  (1, 16, []),
  (0, 8, [none, some 159, some 160, some 161]),
  (1, 200, []),
  (1, 200, []),
  (1, 200, []),
  (0, 5, [none, some 163, some 164, some 165]),
  (1, 12, []),
  (1, 12, []),
  (1, 12, []),
  (0, 2, [none, none, some 167]),
  (1, 200, []),
  (1, 8, []),
  (0, 0, [some 170, some 174, some 178, some 182, some 184, none, none, none, none]),
  (0, 3, [none, some 171, some 172, some 173]),
  (1, 16, []),
  (1, 16, []),
  (1, 16, []),
  (0, 8, [none, some 175, some 176, some 177]),
  (1, 200, []),
  (1, 200, []),
  (1, 200, []),
  (0, 5, [none, some 179, some 180, some 181]),
  (1, 12, []),
  (1, 12, []),
  (1, 12, []),
  (0, 2, [none, none, some 183]),
  (1, 200, []),
  (1, 8, []),
  (0, 0, [some 186, some 190, some 194, some 198, some 200, none, none, none, none]),
  (0, 3, [none, some 187, some 188, some 189]),
  (1, 16, []),
  (1, 16, []),
  (1, 16, []),
  (0, 8, [none, some 191, some 192, some 193]),
  (1, 200, []),
  (1, 200, []),
  (1, 200, []),
  (0, 5, [none, some 195, some 196, some 197]),
  (1, 12, []),
  (1, 12, []),
  (1, 12, []),
  (0, 2, [none, none, some 199]),
  (1, 200, []),
  (1, 8, []),
  (4, 2, [some 202, some 218]),
  (0, 0, [some 203, some 207, some 211, some 215, some 217, none, none, none, none]),
  (0, 3, [none, some 204, some 205, some 206]),
  (1, 16, []),
  (1, 16, []),
  (1, 16, []),
  (0, 8, [none, some 208, some 209, some 210]),
  (1, 200, []),
  (1, 200, []),
  (1, 200, []),
  (0, 5, [none, some 212, some 213, some 214]),
  (1, 12, []),
  (1, 12, []),
  (1, 12, []),
  (0, 2, [none, none, some 216]),
  (1, 200, []),
  (1, 8, []),
  (0, 0, [some 219, some 223, some 227, some 231, some 233, none, none, none, none]),
  (0, 3, [none, some 220, some 221, some 222]),
  (1, 16, []),
  (1, 16, []),
  (1, 16, []),
  (0, 8, [none, some 224, some 225, some 226]),
  (1, 200, []),
  (1, 200, []),
  (1, 200, []),
  (0, 5, [none, some 228, some 229, some 230]),
  (1, 12, []),
  (1, 12, []),
  (1, 12, []),
  (0, 2, [none, none, some 232]),
  (1, 200, []),
  (1, 8, []),
  (1, 64, []),
  (1, 200, []),
  (0, 11, [some 237, some 238, some 239, none, some 240, some 241, none, none, some 242, some 243, some 244, some 245, none, none, none, some 246, none, none, none, none, none, none, some 247, some 248, some 249]),
  (1, 980, []),
  (1, 980, []),
  (1, 9800, []),
  (1, 1960, []),
  (3, 2, []),
  (1, 200, []),
  (1, 200, []),
  (1, 16, []),
  (1, 16, []),
  (2, 400, []),
  (1, 64, []),
  (1, 16, []),
  (1, 16, [])]
abbrev En : Type := va_G × (ClassId × ClassId × ClassId × ClassId) × (Int → Nat) × (Nat → Nat) × (Nat → Nat)
abbrev eA (E : En) (k : Int) : Nat := E.2.2.1 k
abbrev eS (E : En) (i : Nat) : Nat := E.2.2.2.1 i
def flds (E : En) (f : Int → Int) : Int → List (Option Int) → List Value
  | _, [] => []
  | j, none :: r => .int (i2 (f j)) :: flds E f (j + 1) r
  | j, some t :: r => .ref (eA E t) :: flds E f (j + 1) r
def celS (E : En) (f : Int → Int) : Option (Nat × Nat × List (Option Int)) → va_E
  | some (0, ci, fs) => .inr (ci, flds E f 0 fs)
  | some (1, n, _) => .inl (E.2.1.1, n, .inl (fun j : Nat => i2 (f (j : Int))))
  | some (2, n, _) => .inl (E.2.1.2.1, n, .inl (fun j : Nat => i2 (f (j : Int))))
  | some (3, n, _) => .inl (E.2.1.2.2.1, n, .inl (fun j : Nat => i2 (f (j : Int))))
  | some (_ + 4, n, rs) => .inl (E.2.1.2.2.2, n, .inr (.inr (.inr (.inr (fun j : Nat => (rs.getD j none).map (eA E))))))
  | none => .inr (0, [])
def cel (E : En) (f : Int → Int) (k : Int) : va_E := celS E f shp[k.toNat]?
def wo (E : En) (I : Mm) : va_W := (List.range 250).map (fun k : Nat => (eA E (k : Int), cel E (I (k : Int)) (k : Int)))
theorem wo_get (E : En) (I : Mm) {k : Int} (h0 : 0 ≤ k) (h1 : k < 250) : (wo E I)[k.toNat]? = some (eA E k, cel E (I k) k) := by
  obtain ⟨n, rfl⟩ := nat_of h0
  have h2 : n < 250 := by omega
  simp [wo, h2]
theorem wo_set (E : En) (I I' : Mm) {k : Int} (h0 : 0 ≤ k) (h1 : k < 250) (e : va_E) (he : cel E (I' k) k = e) (ho : ∀ j : Int, j ≠ k → I' j = I j) : (wo E I).set k.toNat (eA E k, e) = wo E I' := by
  obtain ⟨n, rfl⟩ := nat_of h0
  have h2 : n < 250 := by omega
  apply List.ext_getElem?
  intro i
  rw [Int.toNat_natCast, List.getElem?_set]
  by_cases hi : n = i
  · subst hi
    rw [if_pos rfl, if_pos (by simp [wo, h2])]
    simp [wo, h2, he]
  · rw [if_neg hi]
    by_cases h3 : i < 250
    · simp [wo, h3, ho (i : Int) (by omega)]
    · simp [wo, h3]
theorem wr_row (I : Mm) (a i v : Int) : wrM I a i v a = fun j => if j = i then v else I a j := by
  funext j
  simp [wrM]
theorem wr_oth (I : Mm) {a i v b : Int} (h : b ≠ a) : wrM I a i v b = I b := by
  funext j
  simp [wrM, h]
theorem flds_get (E : En) (f : Int → Int) : ∀ (fs : List (Option Int)) (b : Int) (j : Nat), fs[j]? = some none → (flds E f b fs)[j]? = some (.int (i2 (f (b + j))))
  | [], _, _, h => by simp at h
  | o :: r, b, 0, h => by
    simp at h
    subst h
    simp [flds]
  | none :: r, b, j + 1, h => by
    have h1 := flds_get E f r (b + 1) j (by simpa using h)
    simp only [flds, List.getElem?_cons_succ]
    rw [h1]
    congr 4
    push_cast
    omega
  | some t :: r, b, j + 1, h => by
    have h1 := flds_get E f r (b + 1) j (by simpa using h)
    simp only [flds, List.getElem?_cons_succ]
    rw [h1]
    congr 4
    push_cast
    omega
theorem flds_ref (E : En) (f : Int → Int) (t : Int) : ∀ (fs : List (Option Int)) (b : Int) (j : Nat), fs[j]? = some (some t) → (flds E f b fs)[j]? = some (.ref (eA E t))
  | [], _, _, h => by simp at h
  | o :: r, b, 0, h => by
    simp at h
    subst h
    simp [flds]
  | none :: r, b, j + 1, h => by
    have h1 := flds_ref E f t r (b + 1) j (by simpa using h)
    simpa only [flds, List.getElem?_cons_succ] using h1
  | some _ :: r, b, j + 1, h => by
    have h1 := flds_ref E f t r (b + 1) j (by simpa using h)
    simpa only [flds, List.getElem?_cons_succ] using h1
theorem flds_len (E : En) (f : Int → Int) : ∀ (fs : List (Option Int)) (b : Int), (flds E f b fs).length = fs.length
  | [], _ => rfl
  | none :: r, b => by simp [flds, flds_len E f r (b + 1)]
  | some t :: r, b => by simp [flds, flds_len E f r (b + 1)]
theorem flds_cong (E : En) (f g : Int → Int) : ∀ (fs : List (Option Int)) (b : Int), (∀ j : Int, b ≤ j → f j = g j) → flds E f b fs = flds E g b fs
  | [], _, _ => rfl
  | none :: r, b, h => by simp [flds, h b (Int.le_refl _), flds_cong E f g r (b + 1) (fun j hj => h j (by omega))]
  | some t :: r, b, h => by simp [flds, flds_cong E f g r (b + 1) (fun j hj => h j (by omega))]
theorem flds_set (E : En) (f : Int → Int) (v : Int) : ∀ (fs : List (Option Int)) (b : Int) (j : Nat), fs[j]? = some none → (flds E f b fs).set j (.int (i2 v)) = flds E (fun i => if i = b + j then v else f i) b fs
  | [], _, _, h => by simp at h
  | o :: r, b, 0, h => by
    simp at h
    subst h
    simp only [flds, List.set_cons_zero]
    rw [flds_cong E f (fun i => if i = b + ((0 : Nat) : Int) then v else f i) r (b + 1) (fun j hj => by rw [if_neg (by simp; omega)])]
    simp
  | none :: r, b, j + 1, h => by
    have h1 := flds_set E f v r (b + 1) j (by simpa using h)
    simp only [flds, List.set_cons_succ]
    rw [h1, if_neg (by push_cast; omega)]
    congr 2
    funext i
    rw [show b + 1 + (j : Int) = b + ((j + 1 : Nat) : Int) by push_cast; omega]
  | some _ :: r, b, j + 1, h => by
    have h1 := flds_set E f v r (b + 1) j (by simpa using h)
    simp only [flds, List.set_cons_succ]
    rw [h1]
    congr 2
    funext i
    rw [show b + 1 + (j : Int) = b + ((j + 1 : Nat) : Int) by push_cast; omega]
def isO (ci : Nat) (fs : List (Option Int)) (k : Int) : Prop := shp[k.toNat]? = some (0, ci, fs) ∧ 0 ≤ k ∧ k < 250
def isA (ty n : Nat) (k : Int) : Prop := shp[k.toNat]? = some (ty, n, []) ∧ 0 ≤ k ∧ k < 250
theorem isO.ce {ci : Nat} {fs : List (Option Int)} {k : Int} (h : isO ci fs k) (E : En) (f : Int → Int) : cel E f k = .inr (ci, flds E f 0 fs) := by
  unfold cel
  rw [h.1]
  rfl
theorem isO.get {ci : Nat} {fs : List (Option Int)} {k : Int} (h : isO ci fs k) (E : En) (I : Mm) : (wo E I)[k.toNat]? = some (eA E k, .inr (ci, flds E (I k) 0 fs)) := by
  rw [wo_get E I h.2.1 h.2.2, h.ce]
theorem isA.get1 {n : Nat} {k : Int} (h : isA 1 n k) (E : En) (I : Mm) : (wo E I)[k.toNat]? = some (eA E k, .inl (E.2.1.1, n, .inl (fun j : Nat => i2 (I k (j : Int))))) := by
  rw [wo_get E I h.2.1 h.2.2]
  unfold cel
  rw [h.1]
  rfl
theorem isA.get2 {n : Nat} {k : Int} (h : isA 2 n k) (E : En) (I : Mm) : (wo E I)[k.toNat]? = some (eA E k, .inl (E.2.1.2.1, n, .inl (fun j : Nat => i2 (I k (j : Int))))) := by
  rw [wo_get E I h.2.1 h.2.2]
  unfold cel
  rw [h.1]
  rfl
theorem isA.get3 {n : Nat} {k : Int} (h : isA 3 n k) (E : En) (I : Mm) : (wo E I)[k.toNat]? = some (eA E k, .inl (E.2.1.2.2.1, n, .inl (fun j : Nat => i2 (I k (j : Int))))) := by
  rw [wo_get E I h.2.1 h.2.2]
  unfold cel
  rw [h.1]
  rfl
theorem ix_cl {x : Int} {n : Nat} (h : 0 ≤ x ∧ x < n) (hn : n < 2 ^ 31) : vp_in (i2 x) n ∧ (((i2 x).toNatClampNeg : Nat) : Int) = x := by
  obtain ⟨a, rfl⟩ := nat_of h.1
  have h2 : a < n := by omega
  rw [i2_nat]
  exact ⟨vp_in_nI h2 hn, by rw [nI_clamp (by omega)]⟩
theorem st_arr (E : En) (I : Mm) {k i v : Int} {n ty : Nat} {cA : ClassId} (h : shp[k.toNat]? = some (ty, n, [])) (h0 : 0 ≤ k) (h1 : k < 250) (hc : ∀ f : Int → Int, celS E f (some (ty, n, [])) = .inl (cA, n, .inl (fun j : Nat => i2 (f (j : Int))))) (hi : (((i2 i).toNatClampNeg : Nat) : Int) = i) :
    (wo E I).set k.toNat (eA E k, .inl (cA, n, .inl (upd (fun j : Nat => i2 (I k (j : Int))) (i2 i).toNatClampNeg (i2 v)))) = wo E (wrM I k i v) := by
  refine wo_set E I _ h0 h1 _ ?_ (fun j hj => wr_oth I hj)
  unfold cel
  rw [h, hc, wr_row]
  congr 4
  funext j
  unfold upd
  by_cases hj : j = (i2 i).toNatClampNeg
  · have h9 : (j : Int) = i := by rw [hj, hi]
    show i2 (if (j : Int) = i then v else I k (j : Int)) = _
    rw [if_pos h9]
    exact (if_pos hj).symm
  · have h9 : ¬ (j : Int) = i := by omega
    show i2 (if (j : Int) = i then v else I k (j : Int)) = _
    rw [if_neg h9]
    exact (if_neg hj).symm

def isNm (c : Int) : Prop := isO 3 [none, some (c + 1), some (c + 2), some (c + 3)] c ∧ isA 1 16 (c + 1) ∧ isA 1 16 (c + 2) ∧ isA 1 16 (c + 3)
def isTh (c : Int) : Prop := isO 8 [none, some (c + 1), some (c + 2), some (c + 3)] c ∧ isA 1 200 (c + 1) ∧ isA 1 200 (c + 2) ∧ isA 1 200 (c + 3)
def isRu (c : Int) : Prop := isO 5 [none, some (c + 1), some (c + 2), some (c + 3)] c ∧ isA 1 12 (c + 1) ∧ isA 1 12 (c + 2) ∧ isA 1 12 (c + 3)
def isLo (c : Int) : Prop := isO 2 [none, none, some (c + 1)] c ∧ isA 1 200 (c + 1)
def isCa (c : Int) : Prop := isO 0 [some (c + 1), some (c + 5), some (c + 9), some (c + 13), some (c + 15), none, none, none, none] c ∧ isNm (c + 1) ∧ isTh (c + 5) ∧ isRu (c + 9) ∧ isLo (c + 13) ∧ isA 1 8 (c + 15)
theorem ca_1 : isCa 1 := ⟨by unfold isO; decide +kernel, ⟨by unfold isO; decide +kernel, by unfold isA; decide +kernel, by unfold isA; decide +kernel, by unfold isA; decide +kernel⟩, ⟨by unfold isO; decide +kernel, by unfold isA; decide +kernel, by unfold isA; decide +kernel, by unfold isA; decide +kernel⟩, ⟨by unfold isO; decide +kernel, by unfold isA; decide +kernel, by unfold isA; decide +kernel, by unfold isA; decide +kernel⟩, ⟨by unfold isO; decide +kernel, by unfold isA; decide +kernel⟩, by unfold isA; decide +kernel⟩
theorem ca_17 : isCa 17 := ⟨by unfold isO; decide +kernel, ⟨by unfold isO; decide +kernel, by unfold isA; decide +kernel, by unfold isA; decide +kernel, by unfold isA; decide +kernel⟩, ⟨by unfold isO; decide +kernel, by unfold isA; decide +kernel, by unfold isA; decide +kernel, by unfold isA; decide +kernel⟩, ⟨by unfold isO; decide +kernel, by unfold isA; decide +kernel, by unfold isA; decide +kernel, by unfold isA; decide +kernel⟩, ⟨by unfold isO; decide +kernel, by unfold isA; decide +kernel⟩, by unfold isA; decide +kernel⟩
theorem ca_41 : isCa 41 := ⟨by unfold isO; decide +kernel, ⟨by unfold isO; decide +kernel, by unfold isA; decide +kernel, by unfold isA; decide +kernel, by unfold isA; decide +kernel⟩, ⟨by unfold isO; decide +kernel, by unfold isA; decide +kernel, by unfold isA; decide +kernel, by unfold isA; decide +kernel⟩, ⟨by unfold isO; decide +kernel, by unfold isA; decide +kernel, by unfold isA; decide +kernel, by unfold isA; decide +kernel⟩, ⟨by unfold isO; decide +kernel, by unfold isA; decide +kernel⟩, by unfold isA; decide +kernel⟩
theorem ca_57 : isCa 57 := ⟨by unfold isO; decide +kernel, ⟨by unfold isO; decide +kernel, by unfold isA; decide +kernel, by unfold isA; decide +kernel, by unfold isA; decide +kernel⟩, ⟨by unfold isO; decide +kernel, by unfold isA; decide +kernel, by unfold isA; decide +kernel, by unfold isA; decide +kernel⟩, ⟨by unfold isO; decide +kernel, by unfold isA; decide +kernel, by unfold isA; decide +kernel, by unfold isA; decide +kernel⟩, ⟨by unfold isO; decide +kernel, by unfold isA; decide +kernel⟩, by unfold isA; decide +kernel⟩
theorem ca_73 : isCa 73 := ⟨by unfold isO; decide +kernel, ⟨by unfold isO; decide +kernel, by unfold isA; decide +kernel, by unfold isA; decide +kernel, by unfold isA; decide +kernel⟩, ⟨by unfold isO; decide +kernel, by unfold isA; decide +kernel, by unfold isA; decide +kernel, by unfold isA; decide +kernel⟩, ⟨by unfold isO; decide +kernel, by unfold isA; decide +kernel, by unfold isA; decide +kernel, by unfold isA; decide +kernel⟩, ⟨by unfold isO; decide +kernel, by unfold isA; decide +kernel⟩, by unfold isA; decide +kernel⟩
theorem ca_89 : isCa 89 := ⟨by unfold isO; decide +kernel, ⟨by unfold isO; decide +kernel, by unfold isA; decide +kernel, by unfold isA; decide +kernel, by unfold isA; decide +kernel⟩, ⟨by unfold isO; decide +kernel, by unfold isA; decide +kernel, by unfold isA; decide +kernel, by unfold isA; decide +kernel⟩, ⟨by unfold isO; decide +kernel, by unfold isA; decide +kernel, by unfold isA; decide +kernel, by unfold isA; decide +kernel⟩, ⟨by unfold isO; decide +kernel, by unfold isA; decide +kernel⟩, by unfold isA; decide +kernel⟩
theorem ca_105 : isCa 105 := ⟨by unfold isO; decide +kernel, ⟨by unfold isO; decide +kernel, by unfold isA; decide +kernel, by unfold isA; decide +kernel, by unfold isA; decide +kernel⟩, ⟨by unfold isO; decide +kernel, by unfold isA; decide +kernel, by unfold isA; decide +kernel, by unfold isA; decide +kernel⟩, ⟨by unfold isO; decide +kernel, by unfold isA; decide +kernel, by unfold isA; decide +kernel, by unfold isA; decide +kernel⟩, ⟨by unfold isO; decide +kernel, by unfold isA; decide +kernel⟩, by unfold isA; decide +kernel⟩
theorem ca_121 : isCa 121 := ⟨by unfold isO; decide +kernel, ⟨by unfold isO; decide +kernel, by unfold isA; decide +kernel, by unfold isA; decide +kernel, by unfold isA; decide +kernel⟩, ⟨by unfold isO; decide +kernel, by unfold isA; decide +kernel, by unfold isA; decide +kernel, by unfold isA; decide +kernel⟩, ⟨by unfold isO; decide +kernel, by unfold isA; decide +kernel, by unfold isA; decide +kernel, by unfold isA; decide +kernel⟩, ⟨by unfold isO; decide +kernel, by unfold isA; decide +kernel⟩, by unfold isA; decide +kernel⟩
theorem ca_137 : isCa 137 := ⟨by unfold isO; decide +kernel, ⟨by unfold isO; decide +kernel, by unfold isA; decide +kernel, by unfold isA; decide +kernel, by unfold isA; decide +kernel⟩, ⟨by unfold isO; decide +kernel, by unfold isA; decide +kernel, by unfold isA; decide +kernel, by unfold isA; decide +kernel⟩, ⟨by unfold isO; decide +kernel, by unfold isA; decide +kernel, by unfold isA; decide +kernel, by unfold isA; decide +kernel⟩, ⟨by unfold isO; decide +kernel, by unfold isA; decide +kernel⟩, by unfold isA; decide +kernel⟩
theorem ca_153 : isCa 153 := ⟨by unfold isO; decide +kernel, ⟨by unfold isO; decide +kernel, by unfold isA; decide +kernel, by unfold isA; decide +kernel, by unfold isA; decide +kernel⟩, ⟨by unfold isO; decide +kernel, by unfold isA; decide +kernel, by unfold isA; decide +kernel, by unfold isA; decide +kernel⟩, ⟨by unfold isO; decide +kernel, by unfold isA; decide +kernel, by unfold isA; decide +kernel, by unfold isA; decide +kernel⟩, ⟨by unfold isO; decide +kernel, by unfold isA; decide +kernel⟩, by unfold isA; decide +kernel⟩
theorem ca_169 : isCa 169 := ⟨by unfold isO; decide +kernel, ⟨by unfold isO; decide +kernel, by unfold isA; decide +kernel, by unfold isA; decide +kernel, by unfold isA; decide +kernel⟩, ⟨by unfold isO; decide +kernel, by unfold isA; decide +kernel, by unfold isA; decide +kernel, by unfold isA; decide +kernel⟩, ⟨by unfold isO; decide +kernel, by unfold isA; decide +kernel, by unfold isA; decide +kernel, by unfold isA; decide +kernel⟩, ⟨by unfold isO; decide +kernel, by unfold isA; decide +kernel⟩, by unfold isA; decide +kernel⟩
theorem ca_185 : isCa 185 := ⟨by unfold isO; decide +kernel, ⟨by unfold isO; decide +kernel, by unfold isA; decide +kernel, by unfold isA; decide +kernel, by unfold isA; decide +kernel⟩, ⟨by unfold isO; decide +kernel, by unfold isA; decide +kernel, by unfold isA; decide +kernel, by unfold isA; decide +kernel⟩, ⟨by unfold isO; decide +kernel, by unfold isA; decide +kernel, by unfold isA; decide +kernel, by unfold isA; decide +kernel⟩, ⟨by unfold isO; decide +kernel, by unfold isA; decide +kernel⟩, by unfold isA; decide +kernel⟩
theorem ca_202 : isCa 202 := ⟨by unfold isO; decide +kernel, ⟨by unfold isO; decide +kernel, by unfold isA; decide +kernel, by unfold isA; decide +kernel, by unfold isA; decide +kernel⟩, ⟨by unfold isO; decide +kernel, by unfold isA; decide +kernel, by unfold isA; decide +kernel, by unfold isA; decide +kernel⟩, ⟨by unfold isO; decide +kernel, by unfold isA; decide +kernel, by unfold isA; decide +kernel, by unfold isA; decide +kernel⟩, ⟨by unfold isO; decide +kernel, by unfold isA; decide +kernel⟩, by unfold isA; decide +kernel⟩
theorem ca_218 : isCa 218 := ⟨by unfold isO; decide +kernel, ⟨by unfold isO; decide +kernel, by unfold isA; decide +kernel, by unfold isA; decide +kernel, by unfold isA; decide +kernel⟩, ⟨by unfold isO; decide +kernel, by unfold isA; decide +kernel, by unfold isA; decide +kernel, by unfold isA; decide +kernel⟩, ⟨by unfold isO; decide +kernel, by unfold isA; decide +kernel, by unfold isA; decide +kernel, by unfold isA; decide +kernel⟩, ⟨by unfold isO; decide +kernel, by unfold isA; decide +kernel⟩, by unfold isA; decide +kernel⟩
theorem ca_hist {j : Int} (h : 0 ≤ j ∧ j < 10) : isCa (41 + 16 * j) := by
  obtain ⟨h1, h2⟩ := h
  rcases (show j = 0 ∨ j = 1 ∨ j = 2 ∨ j = 3 ∨ j = 4 ∨ j = 5 ∨ j = 6 ∨ j = 7 ∨ j = 8 ∨ j = 9 by omega) with rfl | rfl | rfl | rfl | rfl | rfl | rfl | rfl | rfl | rfl
  · exact ca_41
  · exact ca_57
  · exact ca_73
  · exact ca_89
  · exact ca_105
  · exact ca_121
  · exact ca_137
  · exact ca_153
  · exact ca_169
  · exact ca_185
theorem ca_shel {j : Int} (h : 0 ≤ j ∧ j < 2) : isCa (202 + 16 * j) := by
  obtain ⟨h1, h2⟩ := h
  rcases (show j = 0 ∨ j = 1 by omega) with rfl | rfl
  · exact ca_202
  · exact ca_218
theorem o_0 : isO 10 [some 1, some 17, some 33, some 35, some 36, some 37, some 39, some 201, some 234, some 235, none] 0 := by unfold isO; decide +kernel
theorem o_33 : isO 6 [none, some 34] 33 := by unfold isO; decide +kernel
theorem a_34 : isA 2 400 34 := by unfold isA; decide +kernel
theorem o_35 : isO 4 [some 33, some 17, none, none] 35 := by unfold isO; decide +kernel
theorem o_36 : isO 7 [none, none, none] 36 := by unfold isO; decide +kernel
theorem o_37 : isO 9 [some 38] 37 := by unfold isO; decide +kernel
theorem a_38 : isA 1 16 38 := by unfold isA; decide +kernel
theorem o_39 : isO 1 [none, none, some 40] 39 := by unfold isO; decide +kernel
theorem a_234 : isA 1 64 234 := by unfold isA; decide +kernel
theorem a_235 : isA 1 200 235 := by unfold isA; decide +kernel
theorem o_236 : isO 11 [some 237, some 238, some 239, none, some 240, some 241, none, none, some 242, some 243, some 244, some 245, none, none, none, some 246, none, none, none, none, none, none, some 247, some 248, some 249] 236 := by unfold isO; decide +kernel
theorem a_237 : isA 1 980 237 := by unfold isA; decide +kernel
theorem a_238 : isA 1 980 238 := by unfold isA; decide +kernel
theorem a_239 : isA 1 9800 239 := by unfold isA; decide +kernel
theorem a_240 : isA 1 1960 240 := by unfold isA; decide +kernel
theorem a_241 : isA 3 2 241 := by unfold isA; decide +kernel
theorem a_242 : isA 1 200 242 := by unfold isA; decide +kernel
theorem a_243 : isA 1 200 243 := by unfold isA; decide +kernel
theorem a_244 : isA 1 16 244 := by unfold isA; decide +kernel
theorem a_245 : isA 1 16 245 := by unfold isA; decide +kernel
theorem a_246 : isA 2 400 246 := by unfold isA; decide +kernel
theorem a_247 : isA 1 64 247 := by unfold isA; decide +kernel
theorem a_248 : isA 1 16 248 := by unfold isA; decide +kernel
theorem a_249 : isA 1 16 249 := by unfold isA; decide +kernel
def slen : List Nat := [4, 4, 2, 5, 4, 5, 5, 2, 5, 6, 4, 1, 7, 4]
def sbyt : List (List Int32) := [[114, 111, 119, 115], [119, 105, 100, 101], [97, 116], [101, 118, 101, 114, 121], [102, 114, 111, 109], [116, 105, 109, 101, 115], [97, 102, 116, 101, 114], [105, 110], [114, 111, 119, 115, 32], [59, 119, 105, 100, 101, 32], [59, 97, 116, 32], [32], [59, 97, 102, 116, 101, 114, 32], [32, 105, 110, 32]]
def strT : List (String × Nat × String × Nat) := [("DayRows$Reader", 49, "rows", 0), ("DayRows$Reader", 58, "wide", 1), ("DayRows$Reader", 63, "at", 2), ("DayRows$Reader", 68, "every", 3), ("DayRows$Reader", 109, "from", 4), ("DayRows$Reader", 115, "times", 5), ("DayRows$Reader", 73, "after", 6), ("DayRows$Reader", 117, "in", 7), ("DayRows$Teller", 25, "rows ", 8), ("DayRows$Teller", 40, ";wide ", 9), ("DayRows$Teller", 58, ";at ", 10), ("DayRows$Teller", 64, " ", 11), ("DayRows$Teller", 79, ";after ", 12), ("DayRows$Teller", 82, " in ", 13), ("DayRowsModel", 250, "rows ", 8), ("DayRowsModel", 256, ";wide ", 9), ("DayRowsModel", 258, ";at ", 10), ("DayRowsModel", 263, ";after ", 12), ("DayRowsModel", 265, " in ", 13), ("DayRowsModel", 347, "rows", 0), ("DayRowsModel", 352, "wide", 1), ("DayRowsModel", 357, "at", 2), ("DayRowsModel", 362, "every", 3), ("DayRowsModel", 339, "from", 4), ("DayRowsModel", 344, "times", 5), ("DayRowsModel", 367, "after", 6), ("DayRowsModel", 346, "in", 7)]
def nestT : List (String × Nat × MethodName × String) := [(RX0, 11, yX3_init, "DayRows"), (RX0, 20, yX8_init, "DayRows"), (RX0, 27, yX5_init, "DayRows"), (RX0, 34, yX2_init, "DayRows"), (RX10, 21, yX6_init, "DayRows"), (RX10, 37, yX7_init, "DayRows"), (RX10, 44, yX9_init, "DayRows"), (RX4, 145, yX10_isLetter, "DayRows"), (RX4, 136, yX10_isDigit, "DayRows"), (RX4, 82, yX10_isRows, "DayRows"), (RX4, 148, yX10_withLetter, "DayRows"), (RX6, 23, yX10_isLetter, "DayRows"), (RX6, 27, yX10_withLetter, "DayRows"), (RX0, 129, yX10_looksFrom, "DayRows"), (RX0, 142, yX10_rowOf, "DayRows"), (RX7, 112, yX10_lettersIn, "DayRows"), (RX7, 116, yX10_letterAt, "DayRows")]
def TBL : List Cond := lw_tbl.filter goodWord
theorem tmem {w : Cond} (i : Nat) (h : lw_tbl[i]? = some w) (hg : goodWord w = true) : w ∈ TBL := List.mem_filter.mpr ⟨List.mem_of_getElem? h, hg⟩
theorem TBL_in {w : Cond} (h : w ∈ TBL) : w ∈ lw_tbl := (List.mem_filter.mp h).1
theorem TBL_good {w : Cond} (h : w ∈ TBL) : goodWord w = true := (List.mem_filter.mp h).2
abbrev tyE (E : En) : List (ClassId × FieldType) := [(E.2.1.1, .int), (E.2.1.2.1, .byte), (E.2.1.2.2.1, .boolean), (E.2.1.2.2.2, .object "DayRows$Calendar")]
def adO (E : En) (A : Nat → Prop) : Prop := (∀ i j : Int, 0 ≤ i → i < 250 → 0 ≤ j → j < 250 → eA E i = eA E j → i = j) ∧ ∀ i : Int, 0 ≤ i → i < 250 → A (eA E i)
theorem adO.D {E : En} {A : Nat → Prop} (h : adO E A) (I : Mm) : va_D A (wo E I) := by
  have hg : ∀ (i : Nat) (p : Nat × va_E), (wo E I)[i]? = some p → i < 250 ∧ p.1 = eA E (i : Int) := by
    intro i p hp
    by_cases hi : i < 250
    · simp [wo, hi] at hp
      rw [← hp]
      exact ⟨hi, rfl⟩
    · simp [wo, hi] at hp
  refine ⟨fun i j p q hp hq e => ?_, fun k q hk => ?_⟩
  · obtain ⟨h1, h2⟩ := hg i p hp
    obtain ⟨h3, h4⟩ := hg j q hq
    have h5 := h.1 (i : Int) (j : Int) (by omega) (by omega) (by omega) (by omega) (by rw [← h2, ← h4, e])
    omega
  · obtain ⟨h1, h2⟩ := hg k q hk
    rw [h2]
    exact h.2 _ (by omega) (by omega)
def SF (E : En) (A : Nat → Prop) (s : State) : Prop := vk_S slen.length slen sbyt E.2.2.2.1 E.2.2.2.2 A s s.heap ∧ (∀ q ∈ strT, vk_R q.1 q.2.1 q.2.2.1 (eS E q.2.2.2) s) ∧ va_Z "java/lang/String" "COMPACT_STRINGS" "Z" (.int 1) A s s.heap ∧ va_Zq "jdk/internal/util/Preconditions" "SIOOBE_FORMATTER" "Ljava/util/function/BiFunction;" A s s.heap ∧ ∀ q ∈ nestT, va_Nw (.methodLinkNest q.1 q.2.1 q.2.2.1 q.2.2.2) s
theorem SF.to {E : En} {A : Nat → Prop} {s U : State} {H : Heap} {locs : List Loc} (h : SF E A s) (hW : s.WarmedH U.vm) (hU : U.heap = H) (hS : va_S A s.heap H locs) : SF E A U := by
  subst hU
  obtain ⟨h1, h2, h3, h4, h5⟩ := h
  exact ⟨vk_S.moved hW.alike (vk_S.kept h1 hS.2.1), fun q hq => (h2 q hq).warm hW, va_Z.moved hW.alike (va_Z.kept h3 hS.2.1), va_Zq.moved hW.alike (va_Zq.kept h4 hS.2.1), fun q hq => va_Nw.warmM hW (h5 q hq)⟩
theorem SF.calling {E : En} {A : Nat → Prop} {U : State} (h : SF E A U) (g : JFrame) (mk : MethodId) (a : Array Value) : SF E A (U.calling g mk a) := by
  obtain ⟨h1, h2, h3, h4, h5⟩ := h
  exact ⟨vk_S.moved (u := U) (U := U.calling g mk a) (Vm.Alike.refl U.vm) h1, fun q hq => vk_R.same (u := U) (U := U.calling g mk a) rfl (h2 q hq), va_Z.moved (u := U) (U := U.calling g mk a) (Vm.Alike.refl U.vm) h3, va_Zq.moved (u := U) (U := U.calling g mk a) (Vm.Alike.refl U.vm) h4, fun q hq => va_Nw.same (u := U) (U := U.calling g mk a) rfl rfl (h5 q hq)⟩
/-- what a method may take of the state it begins in -/
def PS (E : En) (A : Nat → Prop) (I : Mm) (U : State) : Prop := va_P E.1 vwCl (wo E I) U.heap ∧ va_K E.1 vwCl (tyE E) U ∧ adO E A ∧ SF E A U
theorem PS_blind (E : En) (A : Nat → Prop) (I : Mm) (as : List Value) : FrameBlind (va_Pc as (PS E A I)) := by
  intro a U g mk h
  obtain ⟨h0, h1, h2, h3, h4⟩ := h
  exact ⟨h0, h1, va_K.moved (u := U) (U := U.calling g mk a) (Vm.Alike.refl U.vm) h2, h3, h4.calling g mk a⟩
def Bd (p : Program) (R : Room) (s : State) (m : MethodId) (args : Array Value) (c : Code) (cc : ByteArray) (nL : Nat) (own : String) (E : En) (A : Nat → Prop) (cn sn : Nat) : Prop :=
  p.tables.exec = Jvm.exec ∧ c.code = cc ∧ c.maxLocals = nL ∧ s.vm.findClass own = some m.cls ∧ (∀ w ∈ TBL, w.before args s = true) ∧ va_K E.1 vwCl (tyE E) s ∧ adO E A ∧ SF E A s ∧ cn ≤ R.cells ∧ sn ≤ R.slots
def WI (p : Program) (l : Launch) (e : Env) (R : Room) (s : State) (m : MethodId) (args : Array Value) (below : List Frame) (meth : Method) (c : Code) (E : En) (A : Nat → Prop) (nL cn sn : Nat) (Q : State → Prop) (I : Mm) (pc : Nat) (lv : List (Nat × Value)) (st : List Value) : Prop :=
  ∀ (H : Heap) (locs : List Loc) (ls : Array Slot), va_P E.1 vwCl (wo E I) H → va_S A s.heap H locs → lv_has ls nL lv → W p l e R s m args below meth c H locs cn sn Q (F0 m pc ls st)
def lvg : List (Nat × Value) → Nat → Option Value
  | [], _ => none
  | (j, v) :: r, i => if j = i then some v else lvg r i
theorem lvg_in : ∀ {lv : List (Nat × Value)} {i : Nat} {v : Value}, lvg lv i = some v → (i, v) ∈ lv
  | [], _, _, h => by simp [lvg] at h
  | (j, w) :: r, i, v, h => by
    unfold lvg at h
    split at h
    · rename_i e
      subst e
      cases h
      exact List.mem_cons_self
    · exact List.mem_cons_of_mem _ (lvg_in h)
theorem lvg_at {ls : Array Slot} {nL : Nat} {lv : List (Nat × Value)} {i : Nat} {v : Value} (h : lv_has ls nL lv) (hg : lvg lv i = some v) : ls[i]? = some (.val v) := h.2.2 (i, v) (lvg_in hg)
section RW1
variable {p : Program} {l : Launch} {e : Env} {R : Room} {s : State} {m : MethodId} {args : Array Value} {below : List Frame} {meth : Method} {c : Code} {E : En} {A : Nat → Prop} {nL cn sn : Nat} {Q : State → Prop} {I : Mm} {pc : Nat} {lv lv' : List (Nat × Value)} {st : List Value} {cc : ByteArray} {own : String}
theorem r_sub (ks : List Nat) (h : lv_pick lv ks = lv') (k : WI p l e R s m args below meth c E A nL cn sn Q I pc lv' st) : WI p l e R s m args below meth c E A nL cn sn Q I pc lv st := fun H locs ls hP hS hl => k H locs ls hP hS (lv_sub hl ks h)
theorem r_iconst (B : Bd p R s m args c cc nL own E A cn sn) {n : Int} (hd : decode cc pc = .ok (.iconst n, 1)) (k : WI p l e R s m args below meth c E A nL cn sn Q I (pc + 1) lv (.int (i2 n) :: st)) : WI p l e R s m args below meth c E A nL cn sn Q I pc lv st := fun H locs ls hP hS hl => lv_iconst B.1 B.2.1 hd rfl (k H locs ls hP hS hl)
theorem r_bipush (B : Bd p R s m args c cc nL own E A cn sn) {n : Int} (hd : decode cc pc = .ok (.bipush n, 2)) (hv : (Int8.ofInt n).toInt32 = i2 n) (k : WI p l e R s m args below meth c E A nL cn sn Q I (pc + 2) lv (.int (i2 n) :: st)) : WI p l e R s m args below meth c E A nL cn sn Q I pc lv st := fun H locs ls hP hS hl => lv_bipush B.1 B.2.1 hd hv (k H locs ls hP hS hl)
theorem r_sipush (B : Bd p R s m args c cc nL own E A cn sn) {n : Int} (hd : decode cc pc = .ok (.sipush n, 3)) (hv : (Int16.ofInt n).toInt32 = i2 n) (k : WI p l e R s m args below meth c E A nL cn sn Q I (pc + 3) lv (.int (i2 n) :: st)) : WI p l e R s m args below meth c E A nL cn sn Q I pc lv st := fun H locs ls hP hS hl => lv_sipush B.1 B.2.1 hd hv (k H locs ls hP hS hl)
theorem r_ldc (B : Bd p R s m args c cc nL own E A cn sn) {idx : Nat} {v : Int32} (n : Int) (hd : decode cc pc = .ok (.ldc idx, 2)) (hw : Cond.constant own idx v ∈ TBL) (hv : v = i2 n) (k : WI p l e R s m args below meth c E A nL cn sn Q I (pc + 2) lv (.int (i2 n) :: st)) : WI p l e R s m args below meth c E A nL cn sn Q I pc lv st := fun H locs ls hP hS hl => lv_ldc B.1 B.2.1 B.2.2.2.1 (B.2.2.2.2.1 _ hw) hd (by rw [hv]; exact k H locs ls hP hS hl)
theorem r_ldcw (B : Bd p R s m args c cc nL own E A cn sn) {idx : Nat} {v : Int32} (n : Int) (hd : decode cc pc = .ok (.ldc_w idx, 3)) (hw : Cond.constant own idx v ∈ TBL) (hv : v = i2 n) (k : WI p l e R s m args below meth c E A nL cn sn Q I (pc + 3) lv (.int (i2 n) :: st)) : WI p l e R s m args below meth c E A nL cn sn Q I pc lv st := fun H locs ls hP hS hl => lv_ldcw B.1 B.2.1 B.2.2.2.1 (B.2.2.2.2.1 _ hw) hd (by rw [hv]; exact k H locs ls hP hS hl)
theorem r_lconst (B : Bd p R s m args c cc nL own E A cn sn) {n : Fin 2} (x : Int) (hd : decode cc pc = .ok (.lconst n, 1)) (hv : Int64.ofNat (n : Nat) = l2 x) (k : WI p l e R s m args below meth c E A nL cn sn Q I (pc + 1) lv (.long (l2 x) :: st)) : WI p l e R s m args below meth c E A nL cn sn Q I pc lv st := fun H locs ls hP hS hl => lv_lconst B.1 B.2.1 hd hv (k H locs ls hP hS hl)
theorem r_ldc2 (B : Bd p R s m args c cc nL own E A cn sn) {idx : Nat} {v : Int64} (n : Int) (hd : decode cc pc = .ok (.ldc2_w idx, 3)) (hw : Cond.constantLong own idx v ∈ TBL) (hv : v = l2 n) (k : WI p l e R s m args below meth c E A nL cn sn Q I (pc + 3) lv (.long (l2 n) :: st)) : WI p l e R s m args below meth c E A nL cn sn Q I pc lv st := fun H locs ls hP hS hl => lv_ldc2 B.1 B.2.1 B.2.2.2.1 (B.2.2.2.2.1 _ hw) hd (by rw [hv]; exact k H locs ls hP hS hl)
theorem r_iload_n (B : Bd p R s m args c cc nL own E A cn sn) {q : Fin 4} {i : Nat} {x : Int32} (hd : decode cc pc = .ok (.iload_n q, 1)) (hi : (q : Nat) = i) (hg : lvg lv i = some (.int x)) (k : WI p l e R s m args below meth c E A nL cn sn Q I (pc + 1) lv (.int x :: st)) : WI p l e R s m args below meth c E A nL cn sn Q I pc lv st := fun H locs ls hP hS hl => lv_iload_n B.1 B.2.1 hd hi (lvg_at hl hg) (k H locs ls hP hS hl)
theorem r_iload (B : Bd p R s m args c cc nL own E A cn sn) {i : Nat} {x : Int32} (hd : decode cc pc = .ok (.iload i, 2)) (hg : lvg lv i = some (.int x)) (k : WI p l e R s m args below meth c E A nL cn sn Q I (pc + 2) lv (.int x :: st)) : WI p l e R s m args below meth c E A nL cn sn Q I pc lv st := fun H locs ls hP hS hl => lv_iload B.1 B.2.1 hd (lvg_at hl hg) (k H locs ls hP hS hl)
theorem r_lload_n (B : Bd p R s m args c cc nL own E A cn sn) {q : Fin 4} {i : Nat} {x : Int64} (hd : decode cc pc = .ok (.lload_n q, 1)) (hi : (q : Nat) = i) (hg : lvg lv i = some (.long x)) (k : WI p l e R s m args below meth c E A nL cn sn Q I (pc + 1) lv (.long x :: st)) : WI p l e R s m args below meth c E A nL cn sn Q I pc lv st := fun H locs ls hP hS hl => lv_lload_n B.1 B.2.1 hd hi (lvg_at hl hg) (k H locs ls hP hS hl)
theorem r_lload (B : Bd p R s m args c cc nL own E A cn sn) {i : Nat} {x : Int64} (hd : decode cc pc = .ok (.lload i, 2)) (hg : lvg lv i = some (.long x)) (k : WI p l e R s m args below meth c E A nL cn sn Q I (pc + 2) lv (.long x :: st)) : WI p l e R s m args below meth c E A nL cn sn Q I pc lv st := fun H locs ls hP hS hl => lv_lload B.1 B.2.1 hd (lvg_at hl hg) (k H locs ls hP hS hl)
theorem r_aload_n (B : Bd p R s m args c cc nL own E A cn sn) {q : Fin 4} {i : Nat} {x : Nat} (hd : decode cc pc = .ok (.aload_n q, 1)) (hi : (q : Nat) = i) (hg : lvg lv i = some (.ref x)) (k : WI p l e R s m args below meth c E A nL cn sn Q I (pc + 1) lv (.ref x :: st)) : WI p l e R s m args below meth c E A nL cn sn Q I pc lv st := fun H locs ls hP hS hl => lv_aload_n B.1 B.2.1 hd hi (lvg_at hl hg) (k H locs ls hP hS hl)
theorem r_aload (B : Bd p R s m args c cc nL own E A cn sn) {i : Nat} {x : Nat} (hd : decode cc pc = .ok (.aload i, 2)) (hg : lvg lv i = some (.ref x)) (k : WI p l e R s m args below meth c E A nL cn sn Q I (pc + 2) lv (.ref x :: st)) : WI p l e R s m args below meth c E A nL cn sn Q I pc lv st := fun H locs ls hP hS hl => lv_aload B.1 B.2.1 hd (lvg_at hl hg) (k H locs ls hP hS hl)
def lvs (lv : List (Nat × Value)) (i : Nat) (v : Value) : List (Nat × Value) := (i, v) :: lv.filter (fun q => !(q.1 == i) && !(q.1 + 1 == i && q.2.category == 2))
def lvs2 (lv : List (Nat × Value)) (i : Nat) (v : Value) : List (Nat × Value) := (i, v) :: lv.filter (fun q => !(q.1 == i) && (!(q.1 == i + 1) && !(q.1 + 1 == i && q.2.category == 2)))
theorem r_istore_n (B : Bd p R s m args c cc nL own E A cn sn) {q : Fin 4} {i : Nat} {x : Int32} (hd : decode cc pc = .ok (.istore_n q, 1)) (hi : (q : Nat) = i) (hn : i < nL) (h : lvs lv i (.int x) = lv') (k : WI p l e R s m args below meth c E A nL cn sn Q I (pc + 1) lv' st) : WI p l e R s m args below meth c E A nL cn sn Q I pc lv (.int x :: st) := fun H locs ls hP hS hl => lv_istore_n B.1 B.2.1 hd hi hl hn h (fun ls hl => k H locs ls hP hS hl)
theorem r_istore (B : Bd p R s m args c cc nL own E A cn sn) {i : Nat} {x : Int32} (hd : decode cc pc = .ok (.istore i, 2)) (hn : i < nL) (h : lvs lv i (.int x) = lv') (k : WI p l e R s m args below meth c E A nL cn sn Q I (pc + 2) lv' st) : WI p l e R s m args below meth c E A nL cn sn Q I pc lv (.int x :: st) := fun H locs ls hP hS hl => lv_istore B.1 B.2.1 hd hl hn h (fun ls hl => k H locs ls hP hS hl)
theorem r_lstore_n (B : Bd p R s m args c cc nL own E A cn sn) {q : Fin 4} {i : Nat} {x : Int64} (hd : decode cc pc = .ok (.lstore_n q, 1)) (hi : (q : Nat) = i) (hn : i + 1 < nL) (h : lvs2 lv i (.long x) = lv') (k : WI p l e R s m args below meth c E A nL cn sn Q I (pc + 1) lv' st) : WI p l e R s m args below meth c E A nL cn sn Q I pc lv (.long x :: st) := fun H locs ls hP hS hl => lv_lstore_n B.1 B.2.1 hd hi hl hn h (fun ls hl => k H locs ls hP hS hl)
theorem r_lstore (B : Bd p R s m args c cc nL own E A cn sn) {i : Nat} {x : Int64} (hd : decode cc pc = .ok (.lstore i, 2)) (hn : i + 1 < nL) (h : lvs2 lv i (.long x) = lv') (k : WI p l e R s m args below meth c E A nL cn sn Q I (pc + 2) lv' st) : WI p l e R s m args below meth c E A nL cn sn Q I pc lv (.long x :: st) := fun H locs ls hP hS hl => lv_lstore B.1 B.2.1 hd hl hn h (fun ls hl => k H locs ls hP hS hl)
theorem r_astore_n (B : Bd p R s m args c cc nL own E A cn sn) {q : Fin 4} {i : Nat} {x : Nat} (hd : decode cc pc = .ok (.astore_n q, 1)) (hi : (q : Nat) = i) (hn : i < nL) (h : lvs lv i (.ref x) = lv') (k : WI p l e R s m args below meth c E A nL cn sn Q I (pc + 1) lv' st) : WI p l e R s m args below meth c E A nL cn sn Q I pc lv (.ref x :: st) := fun H locs ls hP hS hl => lv_astore_n B.1 B.2.1 hd hi hl hn h (fun ls hl => k H locs ls hP hS hl)
theorem r_astore (B : Bd p R s m args c cc nL own E A cn sn) {i : Nat} {x : Nat} (hd : decode cc pc = .ok (.astore i, 2)) (hn : i < nL) (h : lvs lv i (.ref x) = lv') (k : WI p l e R s m args below meth c E A nL cn sn Q I (pc + 2) lv' st) : WI p l e R s m args below meth c E A nL cn sn Q I pc lv (.ref x :: st) := fun H locs ls hP hS hl => lv_astore B.1 B.2.1 hd hl hn h (fun ls hl => k H locs ls hP hS hl)
theorem r_iinc (B : Bd p R s m args c cc nL own E A cn sn) {i q : Nat} {n x : Int} (hd : decode cc pc = .ok (.iinc i n, 3)) (hn : i < nL) (hk : lv[q]? = some (i, .int (i2 x))) (h : lvs lv i (.int (i2 (x + n))) = lv') (k : WI p l e R s m args below meth c E A nL cn sn Q I (pc + 3) lv' st) : WI p l e R s m args below meth c E A nL cn sn Q I pc lv st := fun H locs ls hP hS hl => lv_iinc B.1 B.2.1 hd hl hk (Int32.ofInt_add x n).symm hn h (fun ls hl => k H locs ls hP hS hl)
theorem r_iadd (B : Bd p R s m args c cc nL own E A cn sn) {x y : Int} (hd : decode cc pc = .ok (.iadd, 1)) (k : WI p l e R s m args below meth c E A nL cn sn Q I (pc + 1) lv (.int (i2 (x + y)) :: st)) : WI p l e R s m args below meth c E A nL cn sn Q I pc lv (.int (i2 y) :: .int (i2 x) :: st) := fun H locs ls hP hS hl => lv_iadd B.1 B.2.1 hd (by rw [show i2 x + i2 y = i2 (x + y) from (Int32.ofInt_add x y).symm]; exact k H locs ls hP hS hl)
theorem r_isub (B : Bd p R s m args c cc nL own E A cn sn) {x y : Int} (hd : decode cc pc = .ok (.isub, 1)) (k : WI p l e R s m args below meth c E A nL cn sn Q I (pc + 1) lv (.int (i2 (x - y)) :: st)) : WI p l e R s m args below meth c E A nL cn sn Q I pc lv (.int (i2 y) :: .int (i2 x) :: st) := fun H locs ls hP hS hl => lv_isub B.1 B.2.1 hd (by rw [show i2 x - i2 y = i2 (x - y) from (Int32.ofInt_sub x y).symm]; exact k H locs ls hP hS hl)
theorem r_imul (B : Bd p R s m args c cc nL own E A cn sn) {x y : Int} (hd : decode cc pc = .ok (.imul, 1)) (k : WI p l e R s m args below meth c E A nL cn sn Q I (pc + 1) lv (.int (i2 (x * y)) :: st)) : WI p l e R s m args below meth c E A nL cn sn Q I pc lv (.int (i2 y) :: .int (i2 x) :: st) := fun H locs ls hP hS hl => lv_imul B.1 B.2.1 hd (by rw [show i2 x * i2 y = i2 (x * y) from (Int32.ofInt_mul x y).symm]; exact k H locs ls hP hS hl)
theorem r_iand (B : Bd p R s m args c cc nL own E A cn sn) {x y : Int} (hd : decode cc pc = .ok (.iand, 1)) (k : WI p l e R s m args below meth c E A nL cn sn Q I (pc + 1) lv (.int (i2 (bAnd x y)) :: st)) : WI p l e R s m args below meth c E A nL cn sn Q I pc lv (.int (i2 y) :: .int (i2 x) :: st) := fun H locs ls hP hS hl => lv_iand B.1 B.2.1 hd (by rw [← i2_toInt (i2 x &&& i2 y)]; exact k H locs ls hP hS hl)
theorem r_ior (B : Bd p R s m args c cc nL own E A cn sn) {x y : Int} (hd : decode cc pc = .ok (.ior, 1)) (k : WI p l e R s m args below meth c E A nL cn sn Q I (pc + 1) lv (.int (i2 (bOr x y)) :: st)) : WI p l e R s m args below meth c E A nL cn sn Q I pc lv (.int (i2 y) :: .int (i2 x) :: st) := fun H locs ls hP hS hl => lv_ior B.1 B.2.1 hd (by rw [← i2_toInt (i2 x ||| i2 y)]; exact k H locs ls hP hS hl)
theorem r_ishl (B : Bd p R s m args c cc nL own E A cn sn) {x y : Int} (hd : decode cc pc = .ok (.ishl, 1)) (k : WI p l e R s m args below meth c E A nL cn sn Q I (pc + 1) lv (.int (i2 (bShl x y)) :: st)) : WI p l e R s m args below meth c E A nL cn sn Q I pc lv (.int (i2 y) :: .int (i2 x) :: st) := fun H locs ls hP hS hl => lv_ishl B.1 B.2.1 hd (by rw [← i2_toInt (i2 x <<< (i2 y &&& 31))]; exact k H locs ls hP hS hl)
theorem r_ishr (B : Bd p R s m args c cc nL own E A cn sn) {x y : Int} (hd : decode cc pc = .ok (.ishr, 1)) (k : WI p l e R s m args below meth c E A nL cn sn Q I (pc + 1) lv (.int (i2 (bShr x y)) :: st)) : WI p l e R s m args below meth c E A nL cn sn Q I pc lv (.int (i2 y) :: .int (i2 x) :: st) := fun H locs ls hP hS hl => lv_ishr B.1 B.2.1 hd (by rw [← i2_toInt (i2 x >>> (i2 y &&& 31))]; exact k H locs ls hP hS hl)
theorem r_iushr (B : Bd p R s m args c cc nL own E A cn sn) {x y : Int} (hd : decode cc pc = .ok (.iushr, 1)) (k : WI p l e R s m args below meth c E A nL cn sn Q I (pc + 1) lv (.int (i2 (bUshr x y)) :: st)) : WI p l e R s m args below meth c E A nL cn sn Q I pc lv (.int (i2 y) :: .int (i2 x) :: st) := fun H locs ls hP hS hl => lv_iushr B.1 B.2.1 hd (i2_toInt _).symm (k H locs ls hP hS hl)
theorem r_i2b (B : Bd p R s m args c cc nL own E A cn sn) {x : Int} (hd : decode cc pc = .ok (.i2b, 1)) (k : WI p l e R s m args below meth c E A nL cn sn Q I (pc + 1) lv (.int (i2 (bByte x)) :: st)) : WI p l e R s m args below meth c E A nL cn sn Q I pc lv (.int (i2 x) :: st) := fun H locs ls hP hS hl => lv_i2b B.1 B.2.1 hd (i2_toInt _).symm (k H locs ls hP hS hl)
theorem r_idiv (B : Bd p R s m args c cc nL own E A cn sn) {x y : Int} (hd : decode cc pc = .ok (.idiv, 1)) (hx : r32 x) (hy : r32 y) (h : 0 ≤ x ∧ 0 < y) (k : WI p l e R s m args below meth c E A nL cn sn Q I (pc + 1) lv (.int (i2 (x / y)) :: st)) : WI p l e R s m args below meth c E A nL cn sn Q I pc lv (.int (i2 y) :: .int (i2 x) :: st) := fun H locs ls hP hS hl => lv_idiv B.1 B.2.1 hd (fun q => by have := (i2_eq hy (show r32 0 by exact ⟨by omega, by omega⟩)).mp q; omega) (by rw [i2_div hx hy h.1 h.2]; exact k H locs ls hP hS hl)
theorem r_irem (B : Bd p R s m args c cc nL own E A cn sn) {x y : Int} (hd : decode cc pc = .ok (.irem, 1)) (hx : r32 x) (hy : r32 y) (h : 0 ≤ x ∧ 0 < y) (k : WI p l e R s m args below meth c E A nL cn sn Q I (pc + 1) lv (.int (i2 (x % y)) :: st)) : WI p l e R s m args below meth c E A nL cn sn Q I pc lv (.int (i2 y) :: .int (i2 x) :: st) := fun H locs ls hP hS hl => lv_irem B.1 B.2.1 hd (fun q => by have := (i2_eq hy (show r32 0 by exact ⟨by omega, by omega⟩)).mp q; omega) (by rw [i2_rem hx hy h.1 h.2]; exact k H locs ls hP hS hl)
theorem r_ladd (B : Bd p R s m args c cc nL own E A cn sn) {x y : Int} (hd : decode cc pc = .ok (.ladd, 1)) (k : WI p l e R s m args below meth c E A nL cn sn Q I (pc + 1) lv (.long (l2 (x + y)) :: st)) : WI p l e R s m args below meth c E A nL cn sn Q I pc lv (.long (l2 y) :: .long (l2 x) :: st) := fun H locs ls hP hS hl => lv_ladd B.1 B.2.1 hd (by rw [show l2 x + l2 y = l2 (x + y) from (Int64.ofInt_add x y).symm]; exact k H locs ls hP hS hl)
theorem r_lsub (B : Bd p R s m args c cc nL own E A cn sn) {x y : Int} (hd : decode cc pc = .ok (.lsub, 1)) (k : WI p l e R s m args below meth c E A nL cn sn Q I (pc + 1) lv (.long (l2 (x - y)) :: st)) : WI p l e R s m args below meth c E A nL cn sn Q I pc lv (.long (l2 y) :: .long (l2 x) :: st) := fun H locs ls hP hS hl => lv_lsub B.1 B.2.1 hd (by rw [show l2 x - l2 y = l2 (x - y) from (Int64.ofInt_sub x y).symm]; exact k H locs ls hP hS hl)
theorem r_lmul (B : Bd p R s m args c cc nL own E A cn sn) {x y : Int} (hd : decode cc pc = .ok (.lmul, 1)) (k : WI p l e R s m args below meth c E A nL cn sn Q I (pc + 1) lv (.long (l2 (x * y)) :: st)) : WI p l e R s m args below meth c E A nL cn sn Q I pc lv (.long (l2 y) :: .long (l2 x) :: st) := fun H locs ls hP hS hl => lv_lmul B.1 B.2.1 hd (by rw [show l2 x * l2 y = l2 (x * y) from (Int64.ofInt_mul x y).symm]; exact k H locs ls hP hS hl)
theorem r_ldiv (B : Bd p R s m args c cc nL own E A cn sn) {x y : Int} (hd : decode cc pc = .ok (.ldiv, 1)) (h : r64 x ∧ r64 y ∧ 0 ≤ x ∧ 0 < y) (k : WI p l e R s m args below meth c E A nL cn sn Q I (pc + 1) lv (.long (l2 (x / y)) :: st)) : WI p l e R s m args below meth c E A nL cn sn Q I pc lv (.long (l2 y) :: .long (l2 x) :: st) := fun H locs ls hP hS hl => lv_ldiv B.1 B.2.1 hd (fun q => by have := (l2_eq h.2.1 (show r64 0 by exact ⟨by omega, by omega⟩)).mp q; have := h.2.2.2; omega) (by rw [l2_div h.1 h.2.1 h.2.2.1 h.2.2.2]; exact k H locs ls hP hS hl)
theorem r_i2l (B : Bd p R s m args c cc nL own E A cn sn) {x : Int} (hd : decode cc pc = .ok (.i2l, 1)) (hx : r32 x) (k : WI p l e R s m args below meth c E A nL cn sn Q I (pc + 1) lv (.long (l2 x) :: st)) : WI p l e R s m args below meth c E A nL cn sn Q I pc lv (.int (i2 x) :: st) := fun H locs ls hP hS hl => lv_i2l B.1 B.2.1 hd (i2_long hx) (k H locs ls hP hS hl)
theorem r_l2i (B : Bd p R s m args c cc nL own E A cn sn) {x : Int} (hd : decode cc pc = .ok (.l2i, 1)) (k : WI p l e R s m args below meth c E A nL cn sn Q I (pc + 1) lv (.int (i2 x) :: st)) : WI p l e R s m args below meth c E A nL cn sn Q I pc lv (.long (l2 x) :: st) := fun H locs ls hP hS hl => lv_l2i B.1 B.2.1 hd (l2_int x) (k H locs ls hP hS hl)
theorem r_dup (B : Bd p R s m args c cc nL own E A cn sn) {v : Value} (hd : decode cc pc = .ok (.dup, 1)) (hv : v.category = 1) (k : WI p l e R s m args below meth c E A nL cn sn Q I (pc + 1) lv (v :: v :: st)) : WI p l e R s m args below meth c E A nL cn sn Q I pc lv (v :: st) := fun H locs ls hP hS hl => lv_dup B.1 B.2.1 hd hv (k H locs ls hP hS hl)
theorem r_dup2 (B : Bd p R s m args c cc nL own E A cn sn) {v w : Value} (hd : decode cc pc = .ok (.dup2, 1)) (hv : v.category = 1) (hw : w.category = 1) (k : WI p l e R s m args below meth c E A nL cn sn Q I (pc + 1) lv (v :: w :: v :: w :: st)) : WI p l e R s m args below meth c E A nL cn sn Q I pc lv (v :: w :: st) := fun H locs ls hP hS hl => lv_dup2_11 B.1 B.2.1 hd hv hw (k H locs ls hP hS hl)
theorem r_pop (B : Bd p R s m args c cc nL own E A cn sn) {v : Value} (hd : decode cc pc = .ok (.pop, 1)) (hv : v.category = 1) (k : WI p l e R s m args below meth c E A nL cn sn Q I (pc + 1) lv st) : WI p l e R s m args below meth c E A nL cn sn Q I pc lv (v :: st) := fun H locs ls hP hS hl => lv_pop B.1 B.2.1 hd hv (k H locs ls hP hS hl)
theorem r_goto (B : Bd p R s m args c cc nL own E A cn sn) {off : Int} {tgt : Nat} (hd : decode cc pc = .ok (.goto off, 3)) (ht : (pc : Int) + off = (tgt : Int)) (k : WI p l e R s m args below meth c E A nL cn sn Q I tgt lv st) : WI p l e R s m args below meth c E A nL cn sn Q I pc lv st := fun H locs ls hP hS hl => lv_goto B.1 B.2.1 hd ht (k H locs ls hP hS hl)
theorem r_name {x : Int} (k : ∀ y : Int, y = x → WI p l e R s m args below meth c E A nL cn sn Q I pc lv (.int (i2 y) :: st)) : WI p l e R s m args below meth c E A nL cn sn Q I pc lv (.int (i2 x) :: st) := k x rfl
theorem r_nameL {x : Int} (k : ∀ y : Int, y = x → WI p l e R s m args below meth c E A nL cn sn Q I pc lv (.long (l2 y) :: st)) : WI p l e R s m args below meth c E A nL cn sn Q I pc lv (.long (l2 x) :: st) := k x rfl
theorem r_icmp_eq (B : Bd p R s m args c cc nL own E A cn sn) {x y : Int} {off : Int} {tgt : Nat} (hd : decode cc pc = .ok (.if_icmp .eq off, 3)) (ht : (pc : Int) + off = (tgt : Int)) (hx : r32 x) (hy : r32 y) (kt : x = y → WI p l e R s m args below meth c E A nL cn sn Q I tgt lv st) (kf : ¬ x = y → WI p l e R s m args below meth c E A nL cn sn Q I (pc + 3) lv st) : WI p l e R s m args below meth c E A nL cn sn Q I pc lv (.int (i2 y) :: .int (i2 x) :: st) := fun H locs ls hP hS hl => lv_icmp_eq B.1 B.2.1 hd ht (fun q => kt (by exact (i2_eq hx hy).mp q) H locs ls hP hS hl) (fun q => kf (by exact fun h9 => q ((i2_eq hx hy).mpr h9)) H locs ls hP hS hl)
theorem r_icmp_ne (B : Bd p R s m args c cc nL own E A cn sn) {x y : Int} {off : Int} {tgt : Nat} (hd : decode cc pc = .ok (.if_icmp .ne off, 3)) (ht : (pc : Int) + off = (tgt : Int)) (hx : r32 x) (hy : r32 y) (kt : ¬ x = y → WI p l e R s m args below meth c E A nL cn sn Q I tgt lv st) (kf : x = y → WI p l e R s m args below meth c E A nL cn sn Q I (pc + 3) lv st) : WI p l e R s m args below meth c E A nL cn sn Q I pc lv (.int (i2 y) :: .int (i2 x) :: st) := fun H locs ls hP hS hl => lv_icmp_ne B.1 B.2.1 hd ht (fun q => kt (by exact fun h9 => q ((i2_eq hx hy).mpr h9)) H locs ls hP hS hl) (fun q => kf (by exact (i2_eq hx hy).mp q) H locs ls hP hS hl)
theorem r_icmp_lt (B : Bd p R s m args c cc nL own E A cn sn) {x y : Int} {off : Int} {tgt : Nat} (hd : decode cc pc = .ok (.if_icmp .lt off, 3)) (ht : (pc : Int) + off = (tgt : Int)) (hx : r32 x) (hy : r32 y) (kt : x < y → WI p l e R s m args below meth c E A nL cn sn Q I tgt lv st) (kf : y ≤ x → WI p l e R s m args below meth c E A nL cn sn Q I (pc + 3) lv st) : WI p l e R s m args below meth c E A nL cn sn Q I pc lv (.int (i2 y) :: .int (i2 x) :: st) := fun H locs ls hP hS hl => lv_icmp_lt B.1 B.2.1 hd ht (fun q => kt (by exact (i2_lt hx hy).mp q) H locs ls hP hS hl) (fun q => kf (by exact Int.not_lt.mp (fun h9 => q ((i2_lt hx hy).mpr h9))) H locs ls hP hS hl)
theorem r_icmp_ge (B : Bd p R s m args c cc nL own E A cn sn) {x y : Int} {off : Int} {tgt : Nat} (hd : decode cc pc = .ok (.if_icmp .ge off, 3)) (ht : (pc : Int) + off = (tgt : Int)) (hx : r32 x) (hy : r32 y) (kt : y ≤ x → WI p l e R s m args below meth c E A nL cn sn Q I tgt lv st) (kf : x < y → WI p l e R s m args below meth c E A nL cn sn Q I (pc + 3) lv st) : WI p l e R s m args below meth c E A nL cn sn Q I pc lv (.int (i2 y) :: .int (i2 x) :: st) := fun H locs ls hP hS hl => lv_icmp_ge B.1 B.2.1 hd ht (fun q => kt (by exact (i2_le hy hx).mp q) H locs ls hP hS hl) (fun q => kf (by exact Int.not_le.mp (fun h9 => q ((i2_le hy hx).mpr h9))) H locs ls hP hS hl)
theorem r_icmp_gt (B : Bd p R s m args c cc nL own E A cn sn) {x y : Int} {off : Int} {tgt : Nat} (hd : decode cc pc = .ok (.if_icmp .gt off, 3)) (ht : (pc : Int) + off = (tgt : Int)) (hx : r32 x) (hy : r32 y) (kt : y < x → WI p l e R s m args below meth c E A nL cn sn Q I tgt lv st) (kf : x ≤ y → WI p l e R s m args below meth c E A nL cn sn Q I (pc + 3) lv st) : WI p l e R s m args below meth c E A nL cn sn Q I pc lv (.int (i2 y) :: .int (i2 x) :: st) := fun H locs ls hP hS hl => lv_icmp_gt B.1 B.2.1 hd ht (fun q => kt (by exact (i2_lt hy hx).mp q) H locs ls hP hS hl) (fun q => kf (by exact Int.not_lt.mp (fun h9 => q ((i2_lt hy hx).mpr h9))) H locs ls hP hS hl)
theorem r_icmp_le (B : Bd p R s m args c cc nL own E A cn sn) {x y : Int} {off : Int} {tgt : Nat} (hd : decode cc pc = .ok (.if_icmp .le off, 3)) (ht : (pc : Int) + off = (tgt : Int)) (hx : r32 x) (hy : r32 y) (kt : x ≤ y → WI p l e R s m args below meth c E A nL cn sn Q I tgt lv st) (kf : y < x → WI p l e R s m args below meth c E A nL cn sn Q I (pc + 3) lv st) : WI p l e R s m args below meth c E A nL cn sn Q I pc lv (.int (i2 y) :: .int (i2 x) :: st) := fun H locs ls hP hS hl => lv_icmp_le B.1 B.2.1 hd ht (fun q => kt (by exact (i2_le hx hy).mp q) H locs ls hP hS hl) (fun q => kf (by exact Int.not_le.mp (fun h9 => q ((i2_le hx hy).mpr h9))) H locs ls hP hS hl)
theorem rz : r32 0 := ⟨by omega, by omega⟩
theorem r_if_eq (B : Bd p R s m args c cc nL own E A cn sn) {x : Int} {off : Int} {tgt : Nat} (hd : decode cc pc = .ok (.ifCond .eq off, 3)) (ht : (pc : Int) + off = (tgt : Int)) (hx : r32 x) (kt : x = 0 → WI p l e R s m args below meth c E A nL cn sn Q I tgt lv st) (kf : ¬ x = 0 → WI p l e R s m args below meth c E A nL cn sn Q I (pc + 3) lv st) : WI p l e R s m args below meth c E A nL cn sn Q I pc lv (.int (i2 x) :: st) := fun H locs ls hP hS hl => lv_if_eq B.1 B.2.1 hd ht (fun q => kt (by exact (i2_eq hx rz).mp q) H locs ls hP hS hl) (fun q => kf (by exact fun h9 => q ((i2_eq hx rz).mpr h9)) H locs ls hP hS hl)
theorem r_if_ne (B : Bd p R s m args c cc nL own E A cn sn) {x : Int} {off : Int} {tgt : Nat} (hd : decode cc pc = .ok (.ifCond .ne off, 3)) (ht : (pc : Int) + off = (tgt : Int)) (hx : r32 x) (kt : ¬ x = 0 → WI p l e R s m args below meth c E A nL cn sn Q I tgt lv st) (kf : x = 0 → WI p l e R s m args below meth c E A nL cn sn Q I (pc + 3) lv st) : WI p l e R s m args below meth c E A nL cn sn Q I pc lv (.int (i2 x) :: st) := fun H locs ls hP hS hl => lv_if_ne B.1 B.2.1 hd ht (fun q => kt (by exact fun h9 => q ((i2_eq hx rz).mpr h9)) H locs ls hP hS hl) (fun q => kf (by exact (i2_eq hx rz).mp q) H locs ls hP hS hl)
theorem r_if_lt (B : Bd p R s m args c cc nL own E A cn sn) {x : Int} {off : Int} {tgt : Nat} (hd : decode cc pc = .ok (.ifCond .lt off, 3)) (ht : (pc : Int) + off = (tgt : Int)) (hx : r32 x) (kt : x < 0 → WI p l e R s m args below meth c E A nL cn sn Q I tgt lv st) (kf : 0 ≤ x → WI p l e R s m args below meth c E A nL cn sn Q I (pc + 3) lv st) : WI p l e R s m args below meth c E A nL cn sn Q I pc lv (.int (i2 x) :: st) := fun H locs ls hP hS hl => lv_if_lt B.1 B.2.1 hd ht (fun q => kt (by exact (i2_lt hx rz).mp q) H locs ls hP hS hl) (fun q => kf (by exact Int.not_lt.mp (fun h9 => q ((i2_lt hx rz).mpr h9))) H locs ls hP hS hl)
theorem r_if_ge (B : Bd p R s m args c cc nL own E A cn sn) {x : Int} {off : Int} {tgt : Nat} (hd : decode cc pc = .ok (.ifCond .ge off, 3)) (ht : (pc : Int) + off = (tgt : Int)) (hx : r32 x) (kt : 0 ≤ x → WI p l e R s m args below meth c E A nL cn sn Q I tgt lv st) (kf : x < 0 → WI p l e R s m args below meth c E A nL cn sn Q I (pc + 3) lv st) : WI p l e R s m args below meth c E A nL cn sn Q I pc lv (.int (i2 x) :: st) := fun H locs ls hP hS hl => lv_if_ge B.1 B.2.1 hd ht (fun q => kt (by exact (i2_le rz hx).mp q) H locs ls hP hS hl) (fun q => kf (by exact Int.not_le.mp (fun h9 => q ((i2_le rz hx).mpr h9))) H locs ls hP hS hl)
theorem r_if_gt (B : Bd p R s m args c cc nL own E A cn sn) {x : Int} {off : Int} {tgt : Nat} (hd : decode cc pc = .ok (.ifCond .gt off, 3)) (ht : (pc : Int) + off = (tgt : Int)) (hx : r32 x) (kt : 0 < x → WI p l e R s m args below meth c E A nL cn sn Q I tgt lv st) (kf : x ≤ 0 → WI p l e R s m args below meth c E A nL cn sn Q I (pc + 3) lv st) : WI p l e R s m args below meth c E A nL cn sn Q I pc lv (.int (i2 x) :: st) := fun H locs ls hP hS hl => lv_if_gt B.1 B.2.1 hd ht (fun q => kt (by exact (i2_lt rz hx).mp q) H locs ls hP hS hl) (fun q => kf (by exact Int.not_lt.mp (fun h9 => q ((i2_lt rz hx).mpr h9))) H locs ls hP hS hl)
theorem r_if_le (B : Bd p R s m args c cc nL own E A cn sn) {x : Int} {off : Int} {tgt : Nat} (hd : decode cc pc = .ok (.ifCond .le off, 3)) (ht : (pc : Int) + off = (tgt : Int)) (hx : r32 x) (kt : x ≤ 0 → WI p l e R s m args below meth c E A nL cn sn Q I tgt lv st) (kf : 0 < x → WI p l e R s m args below meth c E A nL cn sn Q I (pc + 3) lv st) : WI p l e R s m args below meth c E A nL cn sn Q I pc lv (.int (i2 x) :: st) := fun H locs ls hP hS hl => lv_if_le B.1 B.2.1 hd ht (fun q => kt (by exact (i2_le hx rz).mp q) H locs ls hP hS hl) (fun q => kf (by exact Int.not_le.mp (fun h9 => q ((i2_le hx rz).mpr h9))) H locs ls hP hS hl)
theorem lg_cmp_eq0 (x y : Int64) : (lg_cmp x y = 0) ↔ x = y := by
  unfold lg_cmp
  by_cases h : x > y
  · rw [if_pos h]
    exact ⟨fun q => absurd q (by decide), fun q => absurd h (by rw [q]; exact fun h7 => Int64.lt_irrefl h7)⟩
  · rw [if_neg h]
    by_cases h2 : x = y
    · rw [if_pos h2]
      exact ⟨fun _ => h2, fun _ => rfl⟩
    · rw [if_neg h2]
      exact ⟨fun q => absurd q (by decide), fun q => absurd q h2⟩
theorem r_lcmp_lt (B : Bd p R s m args c cc nL own E A cn sn) {x y : Int} {off : Int} {tgt : Nat} (hd : decode cc pc = .ok (.lcmp, 1)) (hd2 : decode cc (pc + 1) = .ok (.ifCond .lt off, 3)) (ht : ((pc + 1 : Nat) : Int) + off = (tgt : Int)) (hx : r64 x) (hy : r64 y) (kt : x < y → WI p l e R s m args below meth c E A nL cn sn Q I tgt lv st) (kf : y ≤ x → WI p l e R s m args below meth c E A nL cn sn Q I (pc + 4) lv st) : WI p l e R s m args below meth c E A nL cn sn Q I pc lv (.long (l2 y) :: .long (l2 x) :: st) := fun H locs ls hP hS hl => W.lcmp B.1 B.2.1 hd (lv_if_lt B.1 B.2.1 hd2 ht (fun q => kt (by exact (l2_lt hx hy).mp ((lg_cmp_lt _ _).mp q)) H locs ls hP hS hl) (fun q => kf (by exact Int.not_lt.mp (fun h9 => q ((lg_cmp_lt _ _).mpr ((l2_lt hx hy).mpr h9)))) H locs ls hP hS hl))
theorem r_lcmp_ge (B : Bd p R s m args c cc nL own E A cn sn) {x y : Int} {off : Int} {tgt : Nat} (hd : decode cc pc = .ok (.lcmp, 1)) (hd2 : decode cc (pc + 1) = .ok (.ifCond .ge off, 3)) (ht : ((pc + 1 : Nat) : Int) + off = (tgt : Int)) (hx : r64 x) (hy : r64 y) (kt : y ≤ x → WI p l e R s m args below meth c E A nL cn sn Q I tgt lv st) (kf : x < y → WI p l e R s m args below meth c E A nL cn sn Q I (pc + 4) lv st) : WI p l e R s m args below meth c E A nL cn sn Q I pc lv (.long (l2 y) :: .long (l2 x) :: st) := fun H locs ls hP hS hl => W.lcmp B.1 B.2.1 hd (lv_if_ge B.1 B.2.1 hd2 ht (fun q => kt (by exact (l2_le hy hx).mp ((lg_cmp_ge _ _).mp q)) H locs ls hP hS hl) (fun q => kf (by exact Int.not_le.mp (fun h9 => q ((lg_cmp_ge _ _).mpr ((l2_le hy hx).mpr h9)))) H locs ls hP hS hl))
theorem r_lcmp_gt (B : Bd p R s m args c cc nL own E A cn sn) {x y : Int} {off : Int} {tgt : Nat} (hd : decode cc pc = .ok (.lcmp, 1)) (hd2 : decode cc (pc + 1) = .ok (.ifCond .gt off, 3)) (ht : ((pc + 1 : Nat) : Int) + off = (tgt : Int)) (hx : r64 x) (hy : r64 y) (kt : y < x → WI p l e R s m args below meth c E A nL cn sn Q I tgt lv st) (kf : x ≤ y → WI p l e R s m args below meth c E A nL cn sn Q I (pc + 4) lv st) : WI p l e R s m args below meth c E A nL cn sn Q I pc lv (.long (l2 y) :: .long (l2 x) :: st) := fun H locs ls hP hS hl => W.lcmp B.1 B.2.1 hd (lv_if_gt B.1 B.2.1 hd2 ht (fun q => kt (by exact (l2_lt hy hx).mp ((lg_cmp_gt _ _).mp q)) H locs ls hP hS hl) (fun q => kf (by exact Int.not_lt.mp (fun h9 => q ((lg_cmp_gt _ _).mpr ((l2_lt hy hx).mpr h9)))) H locs ls hP hS hl))
theorem r_lcmp_le (B : Bd p R s m args c cc nL own E A cn sn) {x y : Int} {off : Int} {tgt : Nat} (hd : decode cc pc = .ok (.lcmp, 1)) (hd2 : decode cc (pc + 1) = .ok (.ifCond .le off, 3)) (ht : ((pc + 1 : Nat) : Int) + off = (tgt : Int)) (hx : r64 x) (hy : r64 y) (kt : x ≤ y → WI p l e R s m args below meth c E A nL cn sn Q I tgt lv st) (kf : y < x → WI p l e R s m args below meth c E A nL cn sn Q I (pc + 4) lv st) : WI p l e R s m args below meth c E A nL cn sn Q I pc lv (.long (l2 y) :: .long (l2 x) :: st) := fun H locs ls hP hS hl => W.lcmp B.1 B.2.1 hd (lv_if_le B.1 B.2.1 hd2 ht (fun q => kt (by exact (l2_le hx hy).mp ((lg_cmp_le _ _).mp q)) H locs ls hP hS hl) (fun q => kf (by exact Int.not_le.mp (fun h9 => q ((lg_cmp_le _ _).mpr ((l2_le hx hy).mpr h9)))) H locs ls hP hS hl))
end RW1

section RW2
variable {p : Program} {l : Launch} {e : Env} {R : Room} {s : State} {m : MethodId} {args : Array Value} {below : List Frame} {meth : Method} {c : Code} {E : En} {A : Nat → Prop} {nL cn sn : Nat} {Q : State → Prop} {I : Mm} {pc : Nat} {lv lv' : List (Nat × Value)} {st : List Value} {cc : ByteArray} {own : String}
/-- getfield of a number; of a reference -/
theorem r_getI (B : Bd p R s m args c cc nL own E A cn sn) {k : Int} {ci N idx : Nat} {fs : List (Option Int)} {C : String} {T : u_T} (hk : isO ci fs k) (j : Nat) (hc : vwCl[ci]? = some (C, T, N)) (hin : ∀ w ∈ u_ws C T N, w ∈ TBL) (hj : j < N) (hf : fs[j]? = some none) (hw : Cond.fieldLink own idx (T j).1 (T j).2.1 (T j).2.2.1 ∈ TBL) (hd : decode cc pc = .ok (.getfield idx, 3)) {jj : Int} (hjj : (j : Int) = jj) (kk : WI p l e R s m args below meth c E A nL cn sn Q I (pc + 3) lv (.int (i2 (I k jj)) :: st)) : WI p l e R s m args below meth c E A nL cn sn Q I pc lv (.ref (eA E k) :: st) := fun H locs ls hP hS hl =>
  va_get (D := E.1) (tys := tyE E) B.1 B.2.1 B.2.2.2.2.1 hin B.2.2.2.1 B.2.2.2.2.2.1 hP k.toNat (hk.get E I) hc j hj (B.2.2.2.2.1 _ hw) (fun _ h => h) (by rw [flds_get E _ fs 0 j hf]) hd (by rw [show (0 : Int) + (j : Int) = jj by omega]; exact kk H locs ls hP hS hl)
theorem r_getR (B : Bd p R s m args c cc nL own E A cn sn) {k r : Int} {ci N idx : Nat} {fs : List (Option Int)} {C : String} {T : u_T} (hk : isO ci fs k) (j : Nat) (hc : vwCl[ci]? = some (C, T, N)) (hin : ∀ w ∈ u_ws C T N, w ∈ TBL) (hj : j < N) (hf : fs[j]? = some (some r)) (hw : Cond.fieldLink own idx (T j).1 (T j).2.1 (T j).2.2.1 ∈ TBL) (hd : decode cc pc = .ok (.getfield idx, 3)) (kk : WI p l e R s m args below meth c E A nL cn sn Q I (pc + 3) lv (.ref (eA E r) :: st)) : WI p l e R s m args below meth c E A nL cn sn Q I pc lv (.ref (eA E k) :: st) := fun H locs ls hP hS hl =>
  va_get (D := E.1) (tys := tyE E) B.1 B.2.1 B.2.2.2.2.1 hin B.2.2.2.1 B.2.2.2.2.2.1 hP k.toNat (hk.get E I) hc j hj (B.2.2.2.2.1 _ hw) (fun _ h => h) (flds_ref E _ r fs 0 j hf) hd (kk H locs ls hP hS hl)
theorem r_putI (B : Bd p R s m args c cc nL own E A cn sn) {k v : Int} {ci N idx : Nat} {fs : List (Option Int)} {C : String} {T : u_T} (hk : isO ci fs k) (j : Nat) (hc : vwCl[ci]? = some (C, T, N)) (hin : ∀ w ∈ u_ws C T N, w ∈ TBL) (ty0 : Nat → FieldType) (hty : ∀ k, k < N → parseFieldDescriptor (T k).2.2.1 = some (ty0 k)) (hnm : ∀ a, a < N → ∀ b, b < N → a ≠ b → (T a).2.1 ≠ (T b).2.1) (hj : j < N) (hf : fs[j]? = some none) (hfin : (T j).2.2.2 = false) (hI : parseFieldDescriptor (T j).2.2.1 = some .int) (hw : Cond.fieldLink own idx (T j).1 (T j).2.1 (T j).2.2.1 ∈ TBL) (hd : decode cc pc = .ok (.putfield idx, 3)) {jj : Int} (hjj : (j : Int) = jj) (kk : WI p l e R s m args below meth c E A nL cn sn Q (wrM I k jj v) (pc + 3) lv st) : WI p l e R s m args below meth c E A nL cn sn Q I pc lv (.int (i2 v) :: .ref (eA E k) :: st) := fun H locs ls hP hS hl =>
  va_put (D := E.1) (tys := tyE E) B.1 B.2.1 B.2.2.2.2.1 hin ty0 hty hnm B.2.2.2.1 B.2.2.2.2.2.1 hP (B.2.2.2.2.2.2.1.D I) hS k.toNat (hk.get E I) hc j hj (B.2.2.2.2.1 _ hw) (fun _ h => h) hfin hI rfl rfl (by rw [flds_len]; exact (List.getElem?_eq_some_iff.mp hf).1) hd (fun H1 locs1 hP1 _ hS1 => by
    rw [flds_set E _ v fs 0 j hf, show (0 : Int) + (j : Int) = jj by omega, wo_set E I (wrM I k jj v) hk.2.1 hk.2.2 _ (by rw [hk.ce, wr_row]) (fun b hb => wr_oth I hb)] at hP1
    exact kk H1 locs1 ls hP1 hS1 hl)
theorem r_ald (B : Bd p R s m args c cc nL own E A cn sn) {k i : Int} {n : Nat} (hk : isA 1 n k) (hn : n < 2 ^ 31) (hi : 0 ≤ i ∧ i < n) (hd : decode cc pc = .ok (.iaload, 1)) (kk : WI p l e R s m args below meth c E A nL cn sn Q I (pc + 1) lv (.int (i2 (I k i)) :: st)) : WI p l e R s m args below meth c E A nL cn sn Q I pc lv (.int (i2 i) :: .ref (eA E k) :: st) := fun H locs ls hP hS hl =>
  va_iald (D := E.1) (tys := tyE E) B.1 B.2.1 B.2.2.2.2.2.1 hP k.toNat 0 (hk.get1 E I) rfl (ix_cl hi hn).1 hd (by rw [(ix_cl hi hn).2]; exact kk H locs ls hP hS hl)
theorem r_bld (B : Bd p R s m args c cc nL own E A cn sn) {k i : Int} {n : Nat} (hk : isA 2 n k) (hn : n < 2 ^ 31) (hi : 0 ≤ i ∧ i < n) (hd : decode cc pc = .ok (.baload, 1)) (kk : WI p l e R s m args below meth c E A nL cn sn Q I (pc + 1) lv (.int (i2 (I k i)) :: st)) : WI p l e R s m args below meth c E A nL cn sn Q I pc lv (.int (i2 i) :: .ref (eA E k) :: st) := fun H locs ls hP hS hl =>
  va_bald (D := E.1) (tys := tyE E) B.1 B.2.1 B.2.2.2.2.2.1 hP k.toNat 1 (hk.get2 E I) rfl (ix_cl hi hn).1 hd (by rw [(ix_cl hi hn).2]; exact kk H locs ls hP hS hl)
theorem r_zld (B : Bd p R s m args c cc nL own E A cn sn) {k i : Int} {n : Nat} (hk : isA 3 n k) (hn : n < 2 ^ 31) (hi : 0 ≤ i ∧ i < n) (hd : decode cc pc = .ok (.baload, 1)) (kk : WI p l e R s m args below meth c E A nL cn sn Q I (pc + 1) lv (.int (i2 (I k i)) :: st)) : WI p l e R s m args below meth c E A nL cn sn Q I pc lv (.int (i2 i) :: .ref (eA E k) :: st) := fun H locs ls hP hS hl =>
  va_zald (D := E.1) (tys := tyE E) B.1 B.2.1 B.2.2.2.2.2.1 hP k.toNat 2 (hk.get3 E I) rfl (ix_cl hi hn).1 hd (by rw [(ix_cl hi hn).2]; exact kk H locs ls hP hS hl)
theorem r_ast (B : Bd p R s m args c cc nL own E A cn sn) {k i v : Int} {n : Nat} (hk : isA 1 n k) (hn : n < 2 ^ 31) (hi : 0 ≤ i ∧ i < n) (hd : decode cc pc = .ok (.iastore, 1)) (kk : WI p l e R s m args below meth c E A nL cn sn Q (wrM I k i v) (pc + 1) lv st) : WI p l e R s m args below meth c E A nL cn sn Q I pc lv (.int (i2 v) :: .int (i2 i) :: .ref (eA E k) :: st) := fun H locs ls hP hS hl =>
  va_iast (D := E.1) (tys := tyE E) B.1 B.2.1 B.2.2.2.2.2.1 hP (B.2.2.2.2.2.2.1.D I) hS k.toNat 0 (hk.get1 E I) rfl (ix_cl hi hn).1 hd (fun H1 locs1 hP1 _ hS1 => by
    rw [st_arr E I hk.1 hk.2.1 hk.2.2 (fun f => rfl) (ix_cl hi hn).2] at hP1
    exact kk H1 locs1 ls hP1 hS1 hl)
theorem r_bst (B : Bd p R s m args c cc nL own E A cn sn) {k i v : Int} {n : Nat} (hk : isA 2 n k) (hn : n < 2 ^ 31) (hi : 0 ≤ i ∧ i < n) (hd : decode cc pc = .ok (.bastore, 1)) (kk : WI p l e R s m args below meth c E A nL cn sn Q (wrM I k i (bByte v)) (pc + 1) lv st) : WI p l e R s m args below meth c E A nL cn sn Q I pc lv (.int (i2 (bByte v)) :: .int (i2 i) :: .ref (eA E k) :: st) := fun H locs ls hP hS hl =>
  va_bast (D := E.1) (tys := tyE E) B.1 B.2.1 B.2.2.2.2.2.1 hP (B.2.2.2.2.2.2.1.D I) hS k.toNat 1 (hk.get2 E I) rfl (ix_cl hi hn).1 hd (fun H1 locs1 hP1 _ hS1 => by
    rw [show vp_nar .byte (i2 (bByte v)) = i2 (bByte v) by rw [show i2 (bByte v) = (i2 v).toInt8.toInt32 from i2_toInt _]; exact pk_vb _, st_arr E I hk.1 hk.2.1 hk.2.2 (fun f => rfl) (ix_cl hi hn).2] at hP1
    exact kk H1 locs1 ls hP1 hS1 hl)
theorem r_zst (B : Bd p R s m args c cc nL own E A cn sn) {k i v : Int} {n : Nat} (hk : isA 3 n k) (hn : n < 2 ^ 31) (hi : 0 ≤ i ∧ i < n) (hv : vp_nar .boolean (i2 v) = i2 v) (hd : decode cc pc = .ok (.bastore, 1)) (kk : WI p l e R s m args below meth c E A nL cn sn Q (wrM I k i v) (pc + 1) lv st) : WI p l e R s m args below meth c E A nL cn sn Q I pc lv (.int (i2 v) :: .int (i2 i) :: .ref (eA E k) :: st) := fun H locs ls hP hS hl =>
  va_zast (D := E.1) (tys := tyE E) B.1 B.2.1 B.2.2.2.2.2.1 hP (B.2.2.2.2.2.2.1.D I) hS k.toNat 2 (hk.get3 E I) rfl (ix_cl hi hn).1 hd (fun H1 locs1 hP1 _ hS1 => by
    rw [hv, st_arr E I hk.1 hk.2.1 hk.2.2 (fun f => rfl) (ix_cl hi hn).2] at hP1
    exact kk H1 locs1 ls hP1 hS1 hl)
theorem r_len (B : Bd p R s m args c cc nL own E A cn sn) {k : Int} {n : Nat} (hk : isA 1 n k) (hd : decode cc pc = .ok (.arraylength, 1)) (kk : WI p l e R s m args below meth c E A nL cn sn Q I (pc + 1) lv (.int (i2 (n : Int)) :: st)) : WI p l e R s m args below meth c E A nL cn sn Q I pc lv (.ref (eA E k) :: st) := fun H locs ls hP hS hl =>
  va_alen (D := E.1) (tys := tyE E) B.1 B.2.1 B.2.2.2.2.2.1 hP k.toNat 0 (hk.get1 E I) rfl (i2_nat n).symm hd (kk H locs ls hP hS hl)
/-- aaload out of an array of Calendars: the cells are b, b + 16 .. -/
theorem r_aald (B : Bd p R s m args c cc nL own E A cn sn) {k i b : Int} {n : Nat} {rs : List (Option Int)} (hk : shp[k.toNat]? = some (4, n, rs)) (h0 : 0 ≤ k ∧ k < 250) (hn : n < 2 ^ 31) (hr : ∀ j : Nat, j < n → rs.getD j none = some (b + 16 * (j : Int))) (hi : 0 ≤ i ∧ i < n) (hd : decode cc pc = .ok (.aaload, 1)) (kk : WI p l e R s m args below meth c E A nL cn sn Q I (pc + 1) lv (.ref (eA E (b + 16 * i)) :: st)) : WI p l e R s m args below meth c E A nL cn sn Q I pc lv (.int (i2 i) :: .ref (eA E k) :: st) := fun H locs ls hP hS hl => by
  have hg : (wo E I)[k.toNat]? = some (eA E k, .inl (E.2.1.2.2.2, n, .inr (.inr (.inr (.inr (fun j : Nat => (rs.getD j none).map (eA E))))))) := by
    rw [wo_get E I h0.1 h0.2]
    unfold cel
    rw [hk]
    rfl
  refine va_aldq (D := E.1) (tys := tyE E) B.1 B.2.1 B.2.2.2.2.2.1 hP k.toNat 3 hg rfl (ix_cl hi hn).1 hd ?_
  obtain ⟨a, rfl⟩ := nat_of hi.1
  have e1 := (ix_cl hi hn).2
  rw [show (i2 (a : Int)).toNatClampNeg = a by omega]
  rw [hr a (by omega)]
  exact kk H locs ls hP hS hl
theorem r_copy (B : Bd p R s m args c cc nL own E A cn sn) {k r sp dp n : Int} {n0 n1 idx : Nat} (hk : isA 1 n0 k) (hr : isA 1 n1 r) (h0 : n0 < 2 ^ 31) (h1 : n1 < 2 ^ 31) (hb : 0 ≤ sp ∧ 0 ≤ dp ∧ 0 ≤ n ∧ sp + n ≤ n0 ∧ dp + n ≤ n1) (hw : Cond.methodLink own idx arraycopyName ∈ TBL) (hw1 : Cond.native arraycopyName ∈ TBL) (hw2 : Cond.static arraycopyName ∈ TBL) (hw3 : Cond.initialized "java/lang/System" ∈ TBL) (hR : 1 ≤ R.frames) (hRl : (st.map fun v => v.category).sum + (nativeFrameWords "java/lang/System" "arraycopy" 5 + 11) ≤ R.locals) (hd : decode cc pc = .ok (.invokestatic idx, 3)) (kk : WI p l e R s m args below meth c E A nL cn sn Q (cpM I k sp r dp n) (pc + 3) lv st) : WI p l e R s m args below meth c E A nL cn sn Q I pc lv (.int (i2 n) :: .int (i2 dp) :: .ref (eA E r) :: .int (i2 sp) :: .ref (eA E k) :: st) := fun H locs ls hP hS hl => by
  obtain ⟨b1, b2, b3, b4, b5⟩ := hb
  obtain ⟨xs, rfl⟩ := nat_of b1
  obtain ⟨xd, rfl⟩ := nat_of b2
  obtain ⟨xn, rfl⟩ := nat_of b3
  have c1 : (i2 (xs : Int)).toNatClampNeg = xs := by rw [i2_nat]; exact nI_clamp (by omega)
  have c2 : (i2 (xd : Int)).toNatClampNeg = xd := by rw [i2_nat]; exact nI_clamp (by omega)
  have c3 : (i2 (xn : Int)).toNatClampNeg = xn := by rw [i2_nat]; exact nI_clamp (by omega)
  refine va_copyi (D := E.1) (tys := tyE E) B.1 B.2.1 (B.2.2.1.trans hl.1.symm) B.2.2.2.1 (B.2.2.2.2.1 _ hw) (B.2.2.2.2.1 _ hw1) (B.2.2.2.2.1 _ hw2) (B.2.2.2.2.1 _ hw3) B.2.2.2.2.2.1 hP (B.2.2.2.2.2.2.1.D I) hS k.toNat r.toNat 0 0 (hk.get1 E I) (hr.get1 E I) rfl rfl rfl (by rw [i2_nat]; exact nI_pos (by omega)) (by rw [i2_nat]; exact nI_pos (by omega)) (by rw [i2_nat]; exact nI_pos (by omega)) (by rw [c1, c3]; omega) (by rw [c2, c3]; omega) (fun i _ => rfl) hR hRl hd (fun H1 locs1 hP1 _ hS1 => ?_)
  rw [c1, c2, c3, wo_set E I (cpM I k (xs : Int) r (xd : Int) (xn : Int)) hr.2.1 hr.2.2 _ ?_ (fun b hb => ?_)] at hP1
  · exact kk H1 locs1 ls hP1 hS1 hl
  · unfold cel
    rw [hr.1]
    show Sum.inl (E.2.1.1, n1, Sum.inl _) = _
    congr 4
    funext j
    unfold va_cpy cpM
    by_cases hj : xd ≤ j ∧ j < xd + xn
    · rw [if_pos hj, if_pos ⟨rfl, by omega, by omega⟩]
      congr 2
      omega
    · rw [if_neg hj, if_neg (fun q => hj ⟨by omega, by omega⟩)]
  · funext j
    unfold cpM
    rw [if_neg (fun q => hb q.1)]
theorem r_min (B : Bd p R s m args c cc nL own E A cn sn) {x y : Int} {idx : Nat} (hw : Cond.methodLink own idx Lib.Math.min.name ∈ TBL) (hw1 : Cond.static Lib.Math.min.name ∈ TBL) (hw2 : Cond.initialized "java/lang/Math" ∈ TBL) (hw3 : Cond.code Lib.Math.min.name Lib.Math.min.code 2 (some .int) ∈ TBL) (hR : 1 ≤ R.frames) (hRl : (st.map fun v => v.category).sum + 13 ≤ R.locals) (hx : r32 x) (hy : r32 y) (hd : decode cc pc = .ok (.invokestatic idx, 3)) (kk : WI p l e R s m args below meth c E A nL cn sn Q I (pc + 3) lv (.int (i2 (min x y)) :: st)) : WI p l e R s m args below meth c E A nL cn sn Q I pc lv (.int (i2 y) :: .int (i2 x) :: st) := fun H locs ls hP hS hl =>
  va_mmin B.1 B.2.1 (B.2.2.1.trans hl.1.symm) B.2.2.2.1 (B.2.2.2.2.1 _ hw) (B.2.2.2.2.1 _ hw1) (B.2.2.2.2.1 _ hw2) (B.2.2.2.2.1 _ hw3) hR hRl B.2.2.2.2.2.2.2.2.1 B.2.2.2.2.2.2.2.2.2 hd (by rw [i2_min hx hy]; exact kk H locs ls hP hS hl)
theorem r_max (B : Bd p R s m args c cc nL own E A cn sn) {x y : Int} {idx : Nat} (hw : Cond.methodLink own idx Lib.Math.max.name ∈ TBL) (hw1 : Cond.static Lib.Math.max.name ∈ TBL) (hw2 : Cond.initialized "java/lang/Math" ∈ TBL) (hw3 : Cond.code Lib.Math.max.name Lib.Math.max.code 2 (some .int) ∈ TBL) (hR : 1 ≤ R.frames) (hRl : (st.map fun v => v.category).sum + 13 ≤ R.locals) (hx : r32 x) (hy : r32 y) (hd : decode cc pc = .ok (.invokestatic idx, 3)) (kk : WI p l e R s m args below meth c E A nL cn sn Q I (pc + 3) lv (.int (i2 (max x y)) :: st)) : WI p l e R s m args below meth c E A nL cn sn Q I pc lv (.int (i2 y) :: .int (i2 x) :: st) := fun H locs ls hP hS hl =>
  va_mmax B.1 B.2.1 (B.2.2.1.trans hl.1.symm) B.2.2.2.1 (B.2.2.2.2.1 _ hw) (B.2.2.2.2.1 _ hw1) (B.2.2.2.2.1 _ hw2) (B.2.2.2.2.1 _ hw3) hR hRl B.2.2.2.2.2.2.2.2.1 B.2.2.2.2.2.2.2.2.2 hd (by rw [show (if i2 x < i2 y then i2 y else i2 x) = i2 (max x y) by rw [i2_max hy hx, Int.max_comm]]; exact kk H locs ls hP hS hl)
theorem r_minL (B : Bd p R s m args c cc nL own E A cn sn) {x y : Int} {idx : Nat} (hw : Cond.methodLink own idx Lib.MathLoose.min_long.x ∈ TBL) (hw1 : Cond.static Lib.MathLoose.min_long.x ∈ TBL) (hw2 : Cond.initialized "java/lang/Math" ∈ TBL) (hw3 : Cond.code Lib.MathLoose.min_long.x Lib.MathLoose.min_long.code 4 (some .long) ∈ TBL) (hR : 1 ≤ R.frames) (hRl : (st.map fun v => v.category).sum + 15 ≤ R.locals) (hx : r64 x) (hy : r64 y) (hd : decode cc pc = .ok (.invokestatic idx, 3)) (kk : WI p l e R s m args below meth c E A nL cn sn Q I (pc + 3) lv (.long (l2 (min x y)) :: st)) : WI p l e R s m args below meth c E A nL cn sn Q I pc lv (.long (l2 y) :: .long (l2 x) :: st) := fun H locs ls hP hS hl =>
  va_mmin_long B.1 B.2.1 (B.2.2.1.trans hl.1.symm) B.2.2.2.1 (B.2.2.2.2.1 _ hw) (B.2.2.2.2.1 _ hw1) (B.2.2.2.2.1 _ hw2) (B.2.2.2.2.1 _ hw3) hR hRl B.2.2.2.2.2.2.2.2.1 B.2.2.2.2.2.2.2.2.2 hd (by rw [l2_min hx hy]; exact kk H locs ls hP hS hl)
theorem r_maxL (B : Bd p R s m args c cc nL own E A cn sn) {x y : Int} {idx : Nat} (hw : Cond.methodLink own idx Lib.MathLoose.max_long.x ∈ TBL) (hw1 : Cond.static Lib.MathLoose.max_long.x ∈ TBL) (hw2 : Cond.initialized "java/lang/Math" ∈ TBL) (hw3 : Cond.code Lib.MathLoose.max_long.x Lib.MathLoose.max_long.code 4 (some .long) ∈ TBL) (hR : 1 ≤ R.frames) (hRl : (st.map fun v => v.category).sum + 15 ≤ R.locals) (hx : r64 x) (hy : r64 y) (hd : decode cc pc = .ok (.invokestatic idx, 3)) (kk : WI p l e R s m args below meth c E A nL cn sn Q I (pc + 3) lv (.long (l2 (max x y)) :: st)) : WI p l e R s m args below meth c E A nL cn sn Q I pc lv (.long (l2 y) :: .long (l2 x) :: st) := fun H locs ls hP hS hl =>
  va_mmax_long B.1 B.2.1 (B.2.2.1.trans hl.1.symm) B.2.2.2.1 (B.2.2.2.2.1 _ hw) (B.2.2.2.2.1 _ hw1) (B.2.2.2.2.1 _ hw2) (B.2.2.2.2.1 _ hw3) hR hRl B.2.2.2.2.2.2.2.2.1 B.2.2.2.2.2.2.2.2.2 hd (by rw [l2_max hx hy]; exact kk H locs ls hP hS hl)
theorem r_ldcS (B : Bd p R s m args c cc nL own E A cn sn) {idx i : Nat} {tx : String} (hq : (own, idx, tx, i) ∈ strT) (hd : decode cc pc = .ok (.ldc idx, 2)) (kk : WI p l e R s m args below meth c E A nL cn sn Q I (pc + 2) lv (.ref (eS E i) :: st)) : WI p l e R s m args below meth c E A nL cn sn Q I pc lv st := fun H locs ls hP hS hl =>
  va_ldcS B.1 B.2.1 B.2.2.2.1 (B.2.2.2.2.2.2.2.1.2.1 _ hq) hd (kk H locs ls hP hS hl)
theorem r_ldcSW (B : Bd p R s m args c cc nL own E A cn sn) {idx i : Nat} {tx : String} (hq : (own, idx, tx, i) ∈ strT) (hd : decode cc pc = .ok (.ldc_w idx, 3)) (kk : WI p l e R s m args below meth c E A nL cn sn Q I (pc + 3) lv (.ref (eS E i) :: st)) : WI p l e R s m args below meth c E A nL cn sn Q I pc lv st := fun H locs ls hP hS hl => by
  intro T hT X
  obtain ⟨t, a1, b1⟩ := kk H locs ls hP hS hl T hT X
  have hZ := B.2.2.2.2.2.2.2.1.2.1 _ hq
  exact ⟨t, ldcStringW X B.1 B.2.2.2.1 (text := tx) (a := eS E i) hZ.1 hZ.2 (g := F0 m pc ls st) rfl (by rw [B.2.1]; exact hd) t a1, b1⟩
end RW2
/-! contracts: an answer that is an int, a long, none -/
def CI (l : Launch) (E : En) (A : Nat → Prop) (y : MethodName) (cc : ByteArray) (mL : Nat) (ret : FieldType) (fr lo : Nat) (as : List Value) (I : Mm) (V : (Int → Mm → Prop) → Prop) : Prop :=
  ∀ Po : Int → Mm → Prop, V Po → Met l y (.code y cc mL (some ret) :: TBL) { frames := fr, cells := 0, slots := 0, locals := lo } (va_Pc as (PS E A I)) (va_Qi (fun (r : Int32) (u : Int × Mm) => r = i2 u.1 ∧ r32 u.1 ∧ rgM u.2 ∧ Po u.1 u.2) (fun u t => va_P E.1 vwCl (wo E u.2) t.heap) A) 0 0 A
def CL (l : Launch) (E : En) (A : Nat → Prop) (y : MethodName) (cc : ByteArray) (mL : Nat) (fr lo : Nat) (as : List Value) (I : Mm) (V : (Int → Mm → Prop) → Prop) : Prop :=
  ∀ Po : Int → Mm → Prop, V Po → Met l y (.code y cc mL (some .long) :: TBL) { frames := fr, cells := 0, slots := 0, locals := lo } (va_Pc as (PS E A I)) (va_Ql (fun (r : Int64) (u : Int × Mm) => r = l2 u.1 ∧ rgM u.2 ∧ Po u.1 u.2) (fun u t => va_P E.1 vwCl (wo E u.2) t.heap) A) 0 0 A
def CV (l : Launch) (E : En) (A : Nat → Prop) (y : MethodName) (cc : ByteArray) (mL : Nat) (fr lo : Nat) (as : List Value) (I : Mm) (V : (Mm → Prop) → Prop) : Prop :=
  ∀ Po : Mm → Prop, V Po → Met l y (.code y cc mL none :: TBL) { frames := fr, cells := 0, slots := 0, locals := lo } (va_Pc as (PS E A I)) (va_Qv (fun u : Mm => rgM u ∧ Po u) (fun u t => va_P E.1 vwCl (wo E u) t.heap) A) 0 0 A
/-- the words of a method, whoever calls it -/
def MWv (y : MethodName) (cc : ByteArray) (mL : Nat) (ret : Option FieldType) (n : Nat) : Prop := Cond.instanceMethod y ∈ TBL ∧ Cond.selects y.cls y y ∈ TBL ∧ Cond.initialized y.cls ∈ TBL ∧ Cond.code y cc mL ret ∈ TBL ∧ (y.cls ≠ "java/lang/invoke/MethodHandle" ∧ y.cls ≠ "java/lang/invoke/VarHandle" ∧ (parseMethodDescriptor y.desc).map (fun d => d.parameters.length) = some n)
def MWs (y : MethodName) (cc : ByteArray) (mL : Nat) (ret : Option FieldType) (n : Nat) : Prop := Cond.static y ∈ TBL ∧ Cond.initialized y.cls ∈ TBL ∧ Cond.code y cc mL ret ∈ TBL ∧ (y.cls ≠ "java/lang/invoke/MethodHandle" ∧ y.cls ≠ "java/lang/invoke/VarHandle" ∧ (parseMethodDescriptor y.desc).map (fun d => d.parameters.length) = some n)
theorem gi_ws {y : MethodName} {cc : ByteArray} {mL : Nat} {ret : Option FieldType} (h : Cond.code y cc mL ret ∈ TBL) : GoodIn TBL (.code y cc mL ret :: TBL) := by
  intro w hw
  rcases List.mem_cons.mp hw with rfl | hw
  · exact ⟨h, good_of_word (TBL_good h)⟩
  · exact ⟨hw, good_of_word (TBL_good hw)⟩
section RW3
variable {p : Program} {l : Launch} {e : Env} {R : Room} {s : State} {m : MethodId} {args : Array Value} {below : List Frame} {meth : Method} {c : Code} {E : En} {A : Nat → Prop} {nL cn sn : Nat} {Q : State → Prop} {I : Mm} {pc : Nat} {lv lv' : List (Nat × Value)} {st : List Value} {cc : ByteArray} {own : String}
theorem cb_of (B : Bd p R s m args c cc nL own E A cn sn) {y : MethodName} {bytes : ByteArray} {mL n idx fr lo : Nat} {ret : Option FieldType} (hcode : Cond.code y bytes mL ret ∈ TBL) (hini : Cond.initialized y.cls ∈ TBL) (hd : y.cls ≠ "java/lang/invoke/MethodHandle" ∧ y.cls ≠ "java/lang/invoke/VarHandle" ∧ (parseMethodDescriptor y.desc).map (fun d => d.parameters.length) = some n) (hl : Cond.methodLink own idx y ∈ TBL) (hR : fr + 1 ≤ R.frames ∧ 8 + (mL + 11) + lo ≤ R.locals) : CallB R s args own idx y bytes mL ret (.code y bytes mL ret :: TBL) { frames := fr, cells := 0, slots := 0, locals := lo } 0 0 n :=
  callB_of n B.2.2.2.2.1 (gi_ws hcode) rfl rfl rfl (B.2.2.2.2.1 _ hini) (B.2.2.2.2.1 _ hl) hd hR
theorem ps_of (B : Bd p R s m args c cc nL own E A cn sn) {H : Heap} {locs : List Loc} (hP : va_P E.1 vwCl (wo E I) H) (hS : va_S A s.heap H locs) (U : State) (hU : U.heap = H) (hW : s.WarmedH U.vm) : PS E A I U := ⟨by rw [hU]; exact hP, va_K.moved hW.alike B.2.2.2.2.2.1, B.2.2.2.2.2.2.1, B.2.2.2.2.2.2.2.1.to hW hU hS⟩
/-- the run of a call: of a method of the receiver, of a static one, of a nest mate's static one -/
theorem run_V (B : Bd p R s m args c cc nL own E A cn sn) {y : MethodName} {bytes : ByteArray} {mL n idx fr lo ci N : Nat} {ret : Option FieldType} {Qc : Array Value → State → Outcome → State → Prop} {b : Int} {as : List Value} {fs : List (Option Int)} {T : u_T} {st0 : List Value} (hM : Met l y (.code y bytes mL ret :: TBL) { frames := fr, cells := 0, slots := 0, locals := lo } (va_Pc (.ref (eA E b) :: as) (PS E A I)) Qc 0 0 A) (hb : isO ci fs b) (hcl : vwCl[ci]? = some (y.cls, T, N)) (mw : MWv y bytes mL ret n) (hl : Cond.methodLink own idx y ∈ TBL) (hR : fr + 1 ≤ R.frames ∧ 8 + (mL + 11) + lo ≤ R.locals) (hn : as.length = n) (hst : st0 = as.reverse ++ .ref (eA E b) :: st) (hc : (st.map fun v => v.category).sum ≤ 8) (hd : decode cc pc = .ok (.invokevirtual idx, 3)) {H : Heap} {locs : List Loc} {ls : Array Slot} (hP : va_P E.1 vwCl (wo E I) H) (hS : va_S A s.heap H locs) (hsz : ls.size = nL) : va_Run p l e R s m args below meth c H locs cn sn 0 0 (F0 m pc ls st0) st (Qc (Value.ref (eA E b) :: as).toArray) A := by
  obtain ⟨m1, m2, m3, m4, m5⟩ := mw
  exact va_runV (Ts := TBL) (own := own) ⟨B.1, B.2.1, B.2.2.1, B.2.2.2.1, B.2.2.2.2.1⟩ hM ⟨cb_of B m4 m3 m5 hl hR, B.2.2.2.2.1 _ m1, B.2.2.2.2.1 _ m2⟩ ⟨PS_blind E A I _, va_recv B.2.2.2.2.2.1 hP hcl (hb.get E I), fun U hU hW => ⟨rfl, ps_of B hP hS U hU hW⟩⟩ rfl hn hsz hst (lv_room hc) hd ⟨by have := B.2.2.2.2.2.2.2.2.1; omega, by have := B.2.2.2.2.2.2.2.2.2; omega⟩
theorem run_S (B : Bd p R s m args c cc nL own E A cn sn) {y : MethodName} {bytes : ByteArray} {mL n idx fr lo : Nat} {ret : Option FieldType} {Qc : Array Value → State → Outcome → State → Prop} {as : List Value} {st0 : List Value} (hM : Met l y (.code y bytes mL ret :: TBL) { frames := fr, cells := 0, slots := 0, locals := lo } (va_Pc as (PS E A I)) Qc 0 0 A) (mw : MWs y bytes mL ret n) (hl : Cond.methodLink own idx y ∈ TBL) (hR : fr + 1 ≤ R.frames ∧ 8 + (mL + 11) + lo ≤ R.locals) (hn : as.length = n) (hst : st0 = as.reverse ++ st) (hc : (st.map fun v => v.category).sum ≤ 8) (hd : decode cc pc = .ok (.invokestatic idx, 3)) {H : Heap} {locs : List Loc} {ls : Array Slot} (hP : va_P E.1 vwCl (wo E I) H) (hS : va_S A s.heap H locs) (hsz : ls.size = nL) : va_Run p l e R s m args below meth c H locs cn sn 0 0 (F0 m pc ls st0) st (Qc as.toArray) A := by
  obtain ⟨m1, m3, m4, m5⟩ := mw
  exact va_runS (Ts := TBL) (own := own) ⟨B.1, B.2.1, B.2.2.1, B.2.2.2.1, B.2.2.2.2.1⟩ hM ⟨cb_of B m4 m3 m5 hl hR, B.2.2.2.2.1 _ m1⟩ ⟨PS_blind E A I _, fun U hU hW => ⟨rfl, ps_of B hP hS U hU hW⟩⟩ rfl hn hsz hst (lv_room hc) hd ⟨by have := B.2.2.2.2.2.2.2.2.1; omega, by have := B.2.2.2.2.2.2.2.2.2; omega⟩
theorem run_N (B : Bd p R s m args c cc nL own E A cn sn) {y : MethodName} {host : String} {bytes : ByteArray} {mL n idx fr lo : Nat} {ret : Option FieldType} {Qc : Array Value → State → Outcome → State → Prop} {as : List Value} {st0 : List Value} (hM : Met l y (.code y bytes mL ret :: TBL) { frames := fr, cells := 0, slots := 0, locals := lo } (va_Pc as (PS E A I)) Qc 0 0 A) (mw : MWs y bytes mL ret n) (hl : (own, idx, y, host) ∈ nestT) (hR : fr + 1 ≤ R.frames ∧ 8 + (mL + 11) + lo ≤ R.locals) (hn : as.length = n) (hst : st0 = as.reverse ++ st) (hc : (st.map fun v => v.category).sum ≤ 8) (hd : decode cc pc = .ok (.invokestatic idx, 3)) {H : Heap} {locs : List Loc} {ls : Array Slot} (hP : va_P E.1 vwCl (wo E I) H) (hS : va_S A s.heap H locs) (hsz : ls.size = nL) : va_Run p l e R s m args below meth c H locs cn sn 0 0 (F0 m pc ls st0) st (Qc as.toArray) A := by
  obtain ⟨m1, m3, m4, m5⟩ := mw
  have hG := gi_ws m4
  refine va_runSN (Ts := TBL) (own := own) (host := host) ⟨B.1, B.2.1, B.2.2.1, B.2.2.2.1, B.2.2.2.2.1⟩ hM ⟨⟨⟨rfl, rfl, hR.1, hR.2, pay_in B.2.2.2.2.1 hG, List.mem_cons_self⟩, B.2.2.2.2.1 _ m4, B.2.2.2.2.1 _ m3, ⟨m5.1, m5.2.1⟩, fun sig h => ?_, va_Nw.use rfl (B.2.2.2.2.2.2.2.1.2.2.2.2 _ hl)⟩, B.2.2.2.2.1 _ m1, trivial⟩ ⟨PS_blind E A I _, fun U hU hW => ⟨rfl, ps_of B hP hS U hU hW⟩⟩ rfl hn hsz hst (lv_room hc) hd ⟨by have := B.2.2.2.2.2.2.2.2.1; omega, by have := B.2.2.2.2.2.2.2.2.2; omega⟩
  have h2 := m5.2.2
  rw [h] at h2
  exact (Option.some.inj h2).symm
theorem fin_I {H : Heap} {locs : List Loc} {ls : Array Slot} {a : Array Value} {st0 : List Value} {Po : Int → Mm → Prop} (hr : va_Run p l e R s m args below meth c H locs cn sn 0 0 (F0 m pc ls st0) st (va_Qi (fun (r : Int32) (u : Int × Mm) => r = i2 u.1 ∧ r32 u.1 ∧ rgM u.2 ∧ Po u.1 u.2) (fun u t => va_P E.1 vwCl (wo E u.2) t.heap) A a) A) (hS : va_S A s.heap H locs) (hl : lv_has ls nL lv) (kk : ∀ (r : Int) (I' : Mm), r32 r → rgM I' → Po r I' → WI p l e R s m args below meth c E A nL cn sn Q I' (pc + 3) lv (.int (i2 r) :: st)) : W p l e R s m args below meth c H locs cn sn Q (F0 m pc ls st0) :=
  va_calli hr hS (fun _ _ h => h) (fun _ h => h) (fun r u t H1 locs1 ht _ hp hB _ _ hS1 => by
    obtain ⟨e1, e2, e3, e4⟩ := hp
    subst e1
    exact kk u.1 u.2 e2 e3 e4 H1 locs1 ls (by rw [← ht]; exact hB) hS1 hl)
theorem fin_L {H : Heap} {locs : List Loc} {ls : Array Slot} {a : Array Value} {st0 : List Value} {Po : Int → Mm → Prop} (hr : va_Run p l e R s m args below meth c H locs cn sn 0 0 (F0 m pc ls st0) st (va_Ql (fun (r : Int64) (u : Int × Mm) => r = l2 u.1 ∧ rgM u.2 ∧ Po u.1 u.2) (fun u t => va_P E.1 vwCl (wo E u.2) t.heap) A a) A) (hS : va_S A s.heap H locs) (hl : lv_has ls nL lv) (kk : ∀ (r : Int) (I' : Mm), rgM I' → Po r I' → WI p l e R s m args below meth c E A nL cn sn Q I' (pc + 3) lv (.long (l2 r) :: st)) : W p l e R s m args below meth c H locs cn sn Q (F0 m pc ls st0) :=
  va_calll hr hS (fun _ _ h => h) (fun _ h => h) (fun r u t H1 locs1 ht _ hp hB _ _ hS1 => by
    obtain ⟨e1, e3, e4⟩ := hp
    subst e1
    exact kk u.1 u.2 e3 e4 H1 locs1 ls (by rw [← ht]; exact hB) hS1 hl)
theorem fin_V {H : Heap} {locs : List Loc} {ls : Array Slot} {a : Array Value} {st0 : List Value} {Po : Mm → Prop} (hr : va_Run p l e R s m args below meth c H locs cn sn 0 0 (F0 m pc ls st0) st (va_Qv (fun u : Mm => rgM u ∧ Po u) (fun u t => va_P E.1 vwCl (wo E u) t.heap) A a) A) (hS : va_S A s.heap H locs) (hl : lv_has ls nL lv) (kk : ∀ I' : Mm, rgM I' → Po I' → WI p l e R s m args below meth c E A nL cn sn Q I' (pc + 3) lv st) : W p l e R s m args below meth c H locs cn sn Q (F0 m pc ls st0) :=
  va_callv hr hS (fun _ _ h => h) (fun _ h => h) (fun u t H1 locs1 ht _ hp hB _ _ hS1 => by
    obtain ⟨e3, e4⟩ := hp
    exact kk u e3 e4 H1 locs1 ls (by rw [← ht]; exact hB) hS1 hl)
theorem r_cI (B : Bd p R s m args c cc nL own E A cn sn) {y : MethodName} {bytes : ByteArray} {mL n idx fr lo ci N : Nat} {ret : FieldType} {b : Int} {as : List Value} {fs : List (Option Int)} {T : u_T} {st0 : List Value} {V : (Int → Mm → Prop) → Prop} {Po : Int → Mm → Prop} (hM : CI l E A y bytes mL ret fr lo (.ref (eA E b) :: as) I V) (v : V Po) (hb : isO ci fs b) (hcl : vwCl[ci]? = some (y.cls, T, N)) (mw : MWv y bytes mL (some ret) n) (hl : Cond.methodLink own idx y ∈ TBL) (hR : fr + 1 ≤ R.frames ∧ 8 + (mL + 11) + lo ≤ R.locals) (hn : as.length = n) (hst : st0 = as.reverse ++ .ref (eA E b) :: st) (hc : (st.map fun v => v.category).sum ≤ 8) (hd : decode cc pc = .ok (.invokevirtual idx, 3)) (kk : ∀ (r : Int) (I' : Mm), r32 r → rgM I' → Po r I' → WI p l e R s m args below meth c E A nL cn sn Q I' (pc + 3) lv (.int (i2 r) :: st)) : WI p l e R s m args below meth c E A nL cn sn Q I pc lv st0 := fun H locs ls hP hS hv => fin_I (run_V B (hM Po v) hb hcl mw hl hR hn hst hc hd hP hS hv.1) hS hv kk
theorem r_cL (B : Bd p R s m args c cc nL own E A cn sn) {y : MethodName} {bytes : ByteArray} {mL n idx fr lo ci N : Nat} {b : Int} {as : List Value} {fs : List (Option Int)} {T : u_T} {st0 : List Value} {V : (Int → Mm → Prop) → Prop} {Po : Int → Mm → Prop} (hM : CL l E A y bytes mL fr lo (.ref (eA E b) :: as) I V) (v : V Po) (hb : isO ci fs b) (hcl : vwCl[ci]? = some (y.cls, T, N)) (mw : MWv y bytes mL (some .long) n) (hl : Cond.methodLink own idx y ∈ TBL) (hR : fr + 1 ≤ R.frames ∧ 8 + (mL + 11) + lo ≤ R.locals) (hn : as.length = n) (hst : st0 = as.reverse ++ .ref (eA E b) :: st) (hc : (st.map fun v => v.category).sum ≤ 8) (hd : decode cc pc = .ok (.invokevirtual idx, 3)) (kk : ∀ (r : Int) (I' : Mm), rgM I' → Po r I' → WI p l e R s m args below meth c E A nL cn sn Q I' (pc + 3) lv (.long (l2 r) :: st)) : WI p l e R s m args below meth c E A nL cn sn Q I pc lv st0 := fun H locs ls hP hS hv => fin_L (run_V B (hM Po v) hb hcl mw hl hR hn hst hc hd hP hS hv.1) hS hv kk
theorem r_cV (B : Bd p R s m args c cc nL own E A cn sn) {y : MethodName} {bytes : ByteArray} {mL n idx fr lo ci N : Nat} {b : Int} {as : List Value} {fs : List (Option Int)} {T : u_T} {st0 : List Value} {V : (Mm → Prop) → Prop} {Po : Mm → Prop} (hM : CV l E A y bytes mL fr lo (.ref (eA E b) :: as) I V) (v : V Po) (hb : isO ci fs b) (hcl : vwCl[ci]? = some (y.cls, T, N)) (mw : MWv y bytes mL none n) (hl : Cond.methodLink own idx y ∈ TBL) (hR : fr + 1 ≤ R.frames ∧ 8 + (mL + 11) + lo ≤ R.locals) (hn : as.length = n) (hst : st0 = as.reverse ++ .ref (eA E b) :: st) (hc : (st.map fun v => v.category).sum ≤ 8) (hd : decode cc pc = .ok (.invokevirtual idx, 3)) (kk : ∀ I' : Mm, rgM I' → Po I' → WI p l e R s m args below meth c E A nL cn sn Q I' (pc + 3) lv st) : WI p l e R s m args below meth c E A nL cn sn Q I pc lv st0 := fun H locs ls hP hS hv => fin_V (run_V B (hM Po v) hb hcl mw hl hR hn hst hc hd hP hS hv.1) hS hv kk
theorem r_sI (B : Bd p R s m args c cc nL own E A cn sn) {y : MethodName} {bytes : ByteArray} {mL n idx fr lo : Nat} {ret : FieldType} {as st0 : List Value} {V : (Int → Mm → Prop) → Prop} {Po : Int → Mm → Prop} (hM : CI l E A y bytes mL ret fr lo as I V) (v : V Po) (mw : MWs y bytes mL (some ret) n) (hl : Cond.methodLink own idx y ∈ TBL) (hR : fr + 1 ≤ R.frames ∧ 8 + (mL + 11) + lo ≤ R.locals) (hn : as.length = n) (hst : st0 = as.reverse ++ st) (hc : (st.map fun v => v.category).sum ≤ 8) (hd : decode cc pc = .ok (.invokestatic idx, 3)) (kk : ∀ (r : Int) (I' : Mm), r32 r → rgM I' → Po r I' → WI p l e R s m args below meth c E A nL cn sn Q I' (pc + 3) lv (.int (i2 r) :: st)) : WI p l e R s m args below meth c E A nL cn sn Q I pc lv st0 := fun H locs ls hP hS hv => fin_I (run_S B (hM Po v) mw hl hR hn hst hc hd hP hS hv.1) hS hv kk
theorem r_sV (B : Bd p R s m args c cc nL own E A cn sn) {y : MethodName} {bytes : ByteArray} {mL n idx fr lo : Nat} {as st0 : List Value} {V : (Mm → Prop) → Prop} {Po : Mm → Prop} (hM : CV l E A y bytes mL fr lo as I V) (v : V Po) (mw : MWs y bytes mL none n) (hl : Cond.methodLink own idx y ∈ TBL) (hR : fr + 1 ≤ R.frames ∧ 8 + (mL + 11) + lo ≤ R.locals) (hn : as.length = n) (hst : st0 = as.reverse ++ st) (hc : (st.map fun v => v.category).sum ≤ 8) (hd : decode cc pc = .ok (.invokestatic idx, 3)) (kk : ∀ I' : Mm, rgM I' → Po I' → WI p l e R s m args below meth c E A nL cn sn Q I' (pc + 3) lv st) : WI p l e R s m args below meth c E A nL cn sn Q I pc lv st0 := fun H locs ls hP hS hv => fin_V (run_S B (hM Po v) mw hl hR hn hst hc hd hP hS hv.1) hS hv kk
theorem r_nI (B : Bd p R s m args c cc nL own E A cn sn) {y : MethodName} {host : String} {bytes : ByteArray} {mL n idx fr lo : Nat} {ret : FieldType} {as st0 : List Value} {V : (Int → Mm → Prop) → Prop} {Po : Int → Mm → Prop} (hM : CI l E A y bytes mL ret fr lo as I V) (v : V Po) (mw : MWs y bytes mL (some ret) n) (hl : (own, idx, y, host) ∈ nestT) (hR : fr + 1 ≤ R.frames ∧ 8 + (mL + 11) + lo ≤ R.locals) (hn : as.length = n) (hst : st0 = as.reverse ++ st) (hc : (st.map fun v => v.category).sum ≤ 8) (hd : decode cc pc = .ok (.invokestatic idx, 3)) (kk : ∀ (r : Int) (I' : Mm), r32 r → rgM I' → Po r I' → WI p l e R s m args below meth c E A nL cn sn Q I' (pc + 3) lv (.int (i2 r) :: st)) : WI p l e R s m args below meth c E A nL cn sn Q I pc lv st0 := fun H locs ls hP hS hv => fin_I (run_N B (hM Po v) mw hl hR hn hst hc hd hP hS hv.1) hS hv kk
/-- the ends of a method -/
theorem r_iret (B : Bd p R s m args c cc nL own E A 0 0) {ret : FieldType} {x : Int} {Po : Int → Mm → Prop} (hr : meth.sig.returnType = some ret) (hk : meth.locks = false) (hn : narrow ret (.int (i2 x)) = .int (i2 x)) (hx : r32 x) (hI : rgM I) (v : Po x I) (hd : decode cc pc = .ok (.ireturn, 1)) : WI p l e R s m args below meth c E A nL 0 0 (MQ below (va_Qi (fun (r : Int32) (u : Int × Mm) => r = i2 u.1 ∧ r32 u.1 ∧ rgM u.2 ∧ Po u.1 u.2) (fun u t => va_P E.1 vwCl (wo E u.2) t.heap) A) args s 0 0 A) I pc lv [.int (i2 x)] := fun H locs ls hP hS hl =>
  W.zret B.1 B.2.1 hr hn (fun t ht _ => ⟨⟨i2 x, (x, I), rfl, ⟨rfl, hx, hI, v⟩, by show va_P E.1 vwCl (wo E I) t.heap; rw [ht]; exact hP⟩, hS.F ht⟩) hS.2.2 hd hk
theorem r_lret (B : Bd p R s m args c cc nL own E A 0 0) {x : Int} {Po : Int → Mm → Prop} (hr : meth.sig.returnType = some .long) (hk : meth.locks = false) (hI : rgM I) (v : Po x I) (hd : decode cc pc = .ok (.lreturn, 1)) : WI p l e R s m args below meth c E A nL 0 0 (MQ below (va_Ql (fun (r : Int64) (u : Int × Mm) => r = l2 u.1 ∧ rgM u.2 ∧ Po u.1 u.2) (fun u t => va_P E.1 vwCl (wo E u.2) t.heap) A) args s 0 0 A) I pc lv [.long (l2 x)] := fun H locs ls hP hS hl =>
  W.lret B.1 B.2.1 hr (fun t ht _ => ⟨⟨l2 x, (x, I), rfl, ⟨rfl, hI, v⟩, by show va_P E.1 vwCl (wo E I) t.heap; rw [ht]; exact hP⟩, hS.F ht⟩) hS.2.2 hd hk
theorem r_vret (B : Bd p R s m args c cc nL own E A 0 0) {Po : Mm → Prop} (hr : meth.sig.returnType = none) (hk : meth.locks = false) (hI : rgM I) (v : Po I) (hd : decode cc pc = .ok (.return_, 1)) : WI p l e R s m args below meth c E A nL 0 0 (MQ below (va_Qv (fun u : Mm => rgM u ∧ Po u) (fun u t => va_P E.1 vwCl (wo E u) t.heap) A) args s 0 0 A) I pc lv [] := fun H locs ls hP hS hl =>
  W.vret B.1 B.2.1 hr (fun t ht _ => ⟨⟨I, rfl, ⟨hI, v⟩, by show va_P E.1 vwCl (wo E I) t.heap; rw [ht]; exact hP⟩, hS.F ht⟩) hS.2.2 hd hk
end RW3
/-- the head of a method -/
theorem mk_met {l : Launch} {E : En} {A : Nat → Prop} {y : MethodName} {cc : ByteArray} {mL fr lo : Nat} {ret : Option FieldType} {as : List Value} {I : Mm} {Qc : Array Value → State → Outcome → State → Prop} {own : String} {lv0 : List (Nat × Value)} (hy : plainName y.cls = true) (hown : y.cls = own) (hlen : (lg_sl as).length ≤ mL) (h0 : lv_args 0 as = lv0)
    (k : ∀ (p : Program) (e : Env) (s : State) (m : MethodId) (args : Array Value) (below : List Frame) (meth : Method) (c : Code), Bd p { frames := fr, cells := 0, slots := 0, locals := lo } s m args c cc mL own E A 0 0 → meth.sig.returnType = ret → meth.locks = false → WI p l e { frames := fr, cells := 0, slots := 0, locals := lo } s m args below meth c E A mL 0 0 (MQ below Qc args s 0 0 A) I 0 lv0 []) : Met l y (.code y cc mL ret :: TBL) { frames := fr, cells := 0, slots := 0, locals := lo } (va_Pc as (PS E A I)) Qc 0 0 A := by
  refine Met.ofW (cc := cc) (maxL := mL) (ret := ret) hy rfl ?_
  intro p e s m args below meth c s₁ B hml hv
  obtain ⟨rfl, hP, hK, hA, hF⟩ := hv
  have hts := atoms_spec (ws := .code y cc mL ret :: TBL) B.pre
  have hown' : s.vm.findClass own = some m.cls := by rw [← hown]; exact findClass_of_methodNamed B.named
  have hB : Bd p { frames := fr, cells := 0, slots := 0, locals := lo } s m as.toArray c cc mL own E A 0 0 := ⟨B.exec, B.bytes, hml, hown', fun w hw => hts w (List.mem_cons_of_mem _ hw), hK, hA, hF, Nat.zero_le _, Nat.zero_le _⟩
  rw [lg_entry_eq]
  have hl := lv_entry as (n := mL) hlen
  rw [h0] at hl
  exact k p e s m as.toArray below meth c hB B.returns B.notSynchronized s.heap [] _ hP va_S.rf hl
theorem nar_z {x : Int} (h : x = 0 ∨ x = 1) : narrow .boolean (.int (i2 x)) = .int (i2 x) := by rcases h with rfl | rfl <;> decide
theorem q_40 : shp[(40 : Int).toNat]? = some (4, 10, [some 41, some 57, some 73, some 89, some 105, some 121, some 137, some 153, some 169, some 185]) ∧ ((0 : Int) ≤ 40 ∧ (40 : Int) < 250) ∧ ∀ j : Nat, j < 10 → [some (41 : Int), some 57, some 73, some 89, some 105, some 121, some 137, some 153, some 169, some 185].getD j none = some (41 + 16 * (j : Int)) := by decide +kernel
theorem q_201 : shp[(201 : Int).toNat]? = some (4, 2, [some 202, some 218]) ∧ ((0 : Int) ≤ 201 ∧ (201 : Int) < 250) ∧ ∀ j : Nat, j < 2 → [some (202 : Int), some 218].getD j none = some (202 + 16 * (j : Int)) := by decide +kernel
section RW4
variable {p : Program} {l : Launch} {e : Env} {R : Room} {s : State} {m : MethodId} {args : Array Value} {below : List Frame} {meth : Method} {c : Code} {E : En} {A : Nat → Prop} {nL cn sn : Nat} {Q : State → Prop} {I : Mm} {pc : Nat} {lv lv' : List (Nat × Value)} {st : List Value} {cc : ByteArray} {own : String}
theorem r_tabIn (B : Bd p R s m args c cc nL own E A cn sn) {dflt lo hi : Int} {offs : Array Int} {len : Nat} {x off : Int} {tgt : Nat} (hd : decode cc pc = .ok (.tableswitch dflt lo hi offs, len)) (hx : r32 x) (j : Int) (h : x = j) (h1 : ¬ j < lo) (h2 : ¬ hi < j) (ho : offs[(j - lo).toNat]? = some off) (ht : (pc : Int) + off = (tgt : Int)) (k : WI p l e R s m args below meth c E A nL cn sn Q I tgt lv st) : WI p l e R s m args below meth c E A nL cn sn Q I pc lv (.int (i2 x) :: st) := fun H locs ls hP hS hl => lv_tableIn B.1 B.2.1 hd (by rw [toInt_i2 hx, h]; exact h1) (by rw [toInt_i2 hx, h]; exact h2) (by rw [toInt_i2 hx, h]; exact ho) ht (k H locs ls hP hS hl)
theorem r_tabOut (B : Bd p R s m args c cc nL own E A cn sn) {dflt lo hi : Int} {offs : Array Int} {len : Nat} {x : Int} {tgt : Nat} (hd : decode cc pc = .ok (.tableswitch dflt lo hi offs, len)) (hx : r32 x) (h : x < lo ∨ hi < x) (ht : (pc : Int) + dflt = (tgt : Int)) (k : WI p l e R s m args below meth c E A nL cn sn Q I tgt lv st) : WI p l e R s m args below meth c E A nL cn sn Q I pc lv (.int (i2 x) :: st) := fun H locs ls hP hS hl => lv_tableOut B.1 B.2.1 hd (by rw [toInt_i2 hx]; exact h) ht (k H locs ls hP hS hl)
theorem r_look (B : Bd p R s m args c cc nL own E A cn sn) {dflt : Int} {ps : Array (Int × Int)} {len : Nat} {x off : Int} {tgt : Nat} (hd : decode cc pc = .ok (.lookupswitch dflt ps, len)) (hp : (ps.toList.zip (ps.toList.drop 1)).all (fun (a, next) => a.1 < next.1) = true) (hx : r32 x) (ho : Op.lookupswitch.offset ps.toList dflt x = off) (ht : (pc : Int) + off = (tgt : Int)) (k : WI p l e R s m args below meth c E A nL cn sn Q I tgt lv st) : WI p l e R s m args below meth c E A nL cn sn Q I pc lv (.int (i2 x) :: st) := fun H locs ls hP hS hl => lv_lookup B.1 B.2.1 hd hp (by rw [toInt_i2 hx]; exact ho) ht (k H locs ls hP hS hl)
end RW4
abbrev rmm (fr lo : Nat) : Room := { frames := fr, cells := 0, slots := 0, locals := lo }
abbrev qI (below : List Frame) (E : En) (A : Nat → Prop) (args : Array Value) (s : State) (Po : Int → Mm → Prop) : State → Prop := MQ below (va_Qi (fun (r : Int32) (u : Int × Mm) => r = i2 u.1 ∧ r32 u.1 ∧ rgM u.2 ∧ Po u.1 u.2) (fun u t => va_P E.1 vwCl (wo E u.2) t.heap) A) args s 0 0 A
abbrev qL (below : List Frame) (E : En) (A : Nat → Prop) (args : Array Value) (s : State) (Po : Int → Mm → Prop) : State → Prop := MQ below (va_Ql (fun (r : Int64) (u : Int × Mm) => r = l2 u.1 ∧ rgM u.2 ∧ Po u.1 u.2) (fun u t => va_P E.1 vwCl (wo E u.2) t.heap) A) args s 0 0 A
abbrev qV (below : List Frame) (E : En) (A : Nat → Prop) (args : Array Value) (s : State) (Po : Mm → Prop) : State → Prop := MQ below (va_Qv (fun u : Mm => rgM u ∧ Po u) (fun u t => va_P E.1 vwCl (wo E u) t.heap) A) args s 0 0 A

