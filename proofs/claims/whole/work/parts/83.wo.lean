/-! the memory when all constructors are through -/
def I0 : Mm := fun k j => match shp[k.toNat]? with
  | some (0, 0, _) => if j = 5 then 4 else if j = 6 then 10 else 0
  | _ => 0
abbrev mkE (E : En) (ad : Nat → Nat) : En := (E.1, E.2.1, fun k : Int => ad k.toNat, E.2.2.2)
def sg (E : En) (I : Mm) (c n : Nat) : va_W := (List.range' c n).map (fun k : Nat => (eA E (k : Int), cel E (I (k : Int)) (k : Int)))
theorem sg_wo (E : En) (I : Mm) : wo E I = sg E I 0 250 := by
  unfold wo sg
  rw [List.range_eq_range']
theorem sg_add (E : En) (I : Mm) (c n k : Nat) : sg E I c (n + k) = sg E I c n ++ sg E I (c + n) k := by
  unfold sg
  rw [← List.map_append]
  congr 1
  have := List.range'_append (s := c) (m := n) (n := k) (step := 1)
  rw [Nat.one_mul] at this
  exact this.symm
theorem I0_o {ci : Nat} {fs : List (Option Int)} {k : Int} (h : isO ci fs k) (h0 : ci ≠ 0) (j : Int) : I0 k j = 0 := by
  unfold I0
  rw [h.1]
  rcases ci with _ | ci
  · exact absurd rfl h0
  · rfl
theorem I0_c {fs : List (Option Int)} {k : Int} (h : isO 0 fs k) (j : Int) : I0 k j = if j = 5 then 4 else if j = 6 then 10 else 0 := by
  unfold I0
  rw [h.1]
  rfl
theorem I0_a {ty n : Nat} {k : Int} (h : isA ty n k) (h0 : ty ≠ 0) (j : Int) : I0 k j = 0 := by
  unfold I0
  rw [h.1]
  rcases ty with _ | ty
  · exact absurd rfl h0
  · rfl
theorem ce_I (E : En) {n : Nat} {k : Int} (h : isA 1 n k) : cel E (I0 k) k = zI E n := by
  unfold cel
  rw [h.1]
  show (Sum.inl (E.2.1.1, n, Sum.inl (fun j : Nat => i2 (I0 k (j : Int)))) : va_E) = _
  rw [show (fun j : Nat => i2 (I0 k (j : Int))) = (fun _ : Nat => i2 0) from funext fun j => by rw [I0_a h (by decide)]]
theorem ce_B (E : En) {n : Nat} {k : Int} (h : isA 2 n k) : cel E (I0 k) k = zB E n := by
  unfold cel
  rw [h.1]
  show (Sum.inl (E.2.1.2.1, n, Sum.inl (fun j : Nat => i2 (I0 k (j : Int)))) : va_E) = _
  rw [show (fun j : Nat => i2 (I0 k (j : Int))) = (fun _ : Nat => i2 0) from funext fun j => by rw [I0_a h (by decide)]]
theorem ce_Z (E : En) {n : Nat} {k : Int} (h : isA 3 n k) : cel E (I0 k) k = zZ E n := by
  unfold cel
  rw [h.1]
  show (Sum.inl (E.2.1.2.2.1, n, Sum.inl (fun j : Nat => i2 (I0 k (j : Int)))) : va_E) = _
  rw [show (fun j : Nat => i2 (I0 k (j : Int))) = (fun _ : Nat => i2 0) from funext fun j => by rw [I0_a h (by decide)]]
theorem fl_z (E : En) (f : Int → Int) (hf : ∀ j, f j = 0) (fs : List (Option Int)) (b : Int) : flds E f b fs = flds E (fun _ => 0) b fs := flds_cong E f _ fs b (fun j _ => hf j)
theorem ce_O (E : En) {ci : Nat} {fs : List (Option Int)} {k : Int} (h : isO ci fs k) (h0 : ci ≠ 0) : cel E (I0 k) k = .inr (ci, flds E (fun _ => 0) 0 fs) := by
  rw [h.ce, fl_z E _ (fun j => I0_o h h0 j)]
theorem ce_C (E : En) {fs : List (Option Int)} {k : Int} (h : isO 0 fs k) : cel E (I0 k) k = .inr (0, flds E (fun j => if j = 5 then 4 else if j = 6 then 10 else 0) 0 fs) := by
  rw [h.ce]
  congr 2
  exact flds_cong E _ _ fs 0 (fun j _ => I0_c h j)
theorem sg_ca (E : En) (ad : Nat → Nat) (c : Nat) (hc : isCa (c : Int)) (u : Nat → Nat) (hu : ∀ j, j < 16 → ad (c + j) = u j) : sg (mkE E ad) I0 c 16 = caB E u := by
  have e : ∀ j : Nat, j < 16 → eA (mkE E ad) (((c + j : Nat) : Int)) = u j := fun j hj => hu j hj
  have e' : ∀ j : Nat, j < 16 → eA (mkE E ad) ((c : Int) + (j : Int)) = u j := fun j hj => e j hj
  obtain ⟨h0, ⟨h1, h2, h3, h4⟩, ⟨h5, h6, h7, h8⟩, ⟨h9, h10, h11, h12⟩, ⟨h13, h14⟩, h15⟩ := hc
  simp only [Int.add_assoc, show (1 : Int) + 1 = 2 from rfl, show (1 : Int) + 2 = 3 from rfl, show (1 : Int) + 3 = 4 from rfl, show (5 : Int) + 1 = 6 from rfl, show (5 : Int) + 2 = 7 from rfl, show (5 : Int) + 3 = 8 from rfl, show (9 : Int) + 1 = 10 from rfl, show (9 : Int) + 2 = 11 from rfl, show (9 : Int) + 3 = 12 from rfl, show (13 : Int) + 1 = 14 from rfl] at h0 h1 h2 h3 h4 h5 h6 h7 h8 h9 h10 h11 h12 h13 h14 h15
  show [(eA (mkE E ad) ((c + 0 : Nat) : Int), cel (mkE E ad) (I0 (c : Int)) (c : Int)), (eA (mkE E ad) ((c + 1 : Nat) : Int), cel (mkE E ad) (I0 ((c : Int) + 1)) ((c : Int) + 1)), (eA (mkE E ad) ((c + 2 : Nat) : Int), cel (mkE E ad) (I0 ((c : Int) + 2)) ((c : Int) + 2)), (eA (mkE E ad) ((c + 3 : Nat) : Int), cel (mkE E ad) (I0 ((c : Int) + 3)) ((c : Int) + 3)), (eA (mkE E ad) ((c + 4 : Nat) : Int), cel (mkE E ad) (I0 ((c : Int) + 4)) ((c : Int) + 4)), (eA (mkE E ad) ((c + 5 : Nat) : Int), cel (mkE E ad) (I0 ((c : Int) + 5)) ((c : Int) + 5)), (eA (mkE E ad) ((c + 6 : Nat) : Int), cel (mkE E ad) (I0 ((c : Int) + 6)) ((c : Int) + 6)), (eA (mkE E ad) ((c + 7 : Nat) : Int), cel (mkE E ad) (I0 ((c : Int) + 7)) ((c : Int) + 7)), (eA (mkE E ad) ((c + 8 : Nat) : Int), cel (mkE E ad) (I0 ((c : Int) + 8)) ((c : Int) + 8)), (eA (mkE E ad) ((c + 9 : Nat) : Int), cel (mkE E ad) (I0 ((c : Int) + 9)) ((c : Int) + 9)), (eA (mkE E ad) ((c + 10 : Nat) : Int), cel (mkE E ad) (I0 ((c : Int) + 10)) ((c : Int) + 10)), (eA (mkE E ad) ((c + 11 : Nat) : Int), cel (mkE E ad) (I0 ((c : Int) + 11)) ((c : Int) + 11)), (eA (mkE E ad) ((c + 12 : Nat) : Int), cel (mkE E ad) (I0 ((c : Int) + 12)) ((c : Int) + 12)), (eA (mkE E ad) ((c + 13 : Nat) : Int), cel (mkE E ad) (I0 ((c : Int) + 13)) ((c : Int) + 13)), (eA (mkE E ad) ((c + 14 : Nat) : Int), cel (mkE E ad) (I0 ((c : Int) + 14)) ((c : Int) + 14)), (eA (mkE E ad) ((c + 15 : Nat) : Int), cel (mkE E ad) (I0 ((c : Int) + 15)) ((c : Int) + 15))] = _
  rw [ce_C _ h0, ce_O _ h1 (by decide), ce_I _ h2, ce_I _ h3, ce_I _ h4, ce_O _ h5 (by decide), ce_I _ h6, ce_I _ h7, ce_I _ h8, ce_O _ h9 (by decide), ce_I _ h10, ce_I _ h11, ce_I _ h12, ce_O _ h13 (by decide), ce_I _ h14, ce_I _ h15]
  rw [e 0 (by decide), e 1 (by decide), e 2 (by decide), e 3 (by decide), e 4 (by decide), e 5 (by decide), e 6 (by decide), e 7 (by decide), e 8 (by decide), e 9 (by decide), e 10 (by decide), e 11 (by decide), e 12 (by decide), e 13 (by decide), e 14 (by decide), e 15 (by decide)]
  have f1 : eA (mkE E ad) ((c : Int) + 1) = u 1 := e' 1 (by decide)
  have f2 : eA (mkE E ad) ((c : Int) + 2) = u 2 := e' 2 (by decide)
  have f3 : eA (mkE E ad) ((c : Int) + 3) = u 3 := e' 3 (by decide)
  have f4 : eA (mkE E ad) ((c : Int) + 4) = u 4 := e' 4 (by decide)
  have f5 : eA (mkE E ad) ((c : Int) + 5) = u 5 := e' 5 (by decide)
  have f6 : eA (mkE E ad) ((c : Int) + 6) = u 6 := e' 6 (by decide)
  have f7 : eA (mkE E ad) ((c : Int) + 7) = u 7 := e' 7 (by decide)
  have f8 : eA (mkE E ad) ((c : Int) + 8) = u 8 := e' 8 (by decide)
  have f9 : eA (mkE E ad) ((c : Int) + 9) = u 9 := e' 9 (by decide)
  have f10 : eA (mkE E ad) ((c : Int) + 10) = u 10 := e' 10 (by decide)
  have f11 : eA (mkE E ad) ((c : Int) + 11) = u 11 := e' 11 (by decide)
  have f12 : eA (mkE E ad) ((c : Int) + 12) = u 12 := e' 12 (by decide)
  have f13 : eA (mkE E ad) ((c : Int) + 13) = u 13 := e' 13 (by decide)
  have f14 : eA (mkE E ad) ((c : Int) + 14) = u 14 := e' 14 (by decide)
  have f15 : eA (mkE E ad) ((c : Int) + 15) = u 15 := e' 15 (by decide)
  unfold caB
  simp [flds, f1, f2, f3, f4, f5, f6, f7, f8, f9, f10, f11, f12, f13, f14, f15]
