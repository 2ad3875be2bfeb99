def adN (b : Nat) (u2 : Nat → Nat) (u4 : Nat → Nat) (u6 : Nat → Nat) (q7 : Nat) (q9 : Nat) (u12 : Nat → Nat) (q13 : Nat) (u14q : Nat) (u14 : Nat → Nat → Nat) (u17 : Nat → Nat) (u19 : Nat → Nat) (q15 : Nat) (q20 : Nat) (q21 : Nat) (bm : Nat) (v : Nat → Nat) (n : Nat) : Nat :=
  if n < 1 then b else if n < 17 then u2 (n - 1) else if n < 33 then u4 (n - 17) else if n < 35 then u6 (n - 33) else if n < 36 then q7 else if n < 37 then q9 else if n < 39 then u12 (n - 37) else if n < 40 then q13 else if n < 41 then u14q else if n < 201 then u14 ((n - 41) / 16) ((n - 41) % 16) else if n < 202 then q15 else if n < 218 then u17 (n - 202) else if n < 234 then u19 (n - 218) else if n < 235 then q20 else if n < 236 then q21 else if n < 237 then bm else v (n - 237)
def moB (E : En) (bm : Nat) (v : Nat → Nat) : va_W := (((((((((((((([(bm, .inr (11, [.ref (v 0), .ref (v 1), .ref (v 2), .int (i2 0), .ref (v 3), .ref (v 4), .int (i2 0), .int (i2 0), .ref (v 5), .ref (v 6), .ref (v 7), .ref (v 8), .int (i2 0), .int (i2 0), .int (i2 0), .ref (v 9), .int (i2 0), .int (i2 0), .int (i2 0), .int (i2 0), .int (i2 0), .int (i2 0), .ref (v 10), .ref (v 11), .ref (v 12)]))] : va_W) ++ ([((v 0), zI E 980)] : va_W)) ++ ([((v 1), zI E 980)] : va_W)) ++ ([((v 2), zI E 9800)] : va_W)) ++ ([((v 3), zI E 1960)] : va_W)) ++ ([((v 4), zZ E 2)] : va_W)) ++ ([((v 5), zI E 200)] : va_W)) ++ ([((v 6), zI E 200)] : va_W)) ++ ([((v 7), zI E 16)] : va_W)) ++ ([((v 8), zI E 16)] : va_W)) ++ ([((v 9), zB E 400)] : va_W)) ++ ([((v 10), zI E 64)] : va_W)) ++ ([((v 11), zI E 16)] : va_W)) ++ ([((v 12), zI E 16)] : va_W))
theorem eA_mk (E : En) (ad : Nat → Nat) (k : Int) : eA (mkE E ad) k = ad k.toNat := rfl
theorem apq {a b c d : va_W} (h : a = b) (k : c = d) : a ++ c = b ++ d := by rw [h, k]
section WA
variable (E : En) (b : Nat) (u2 : Nat → Nat) (u4 : Nat → Nat) (u6 : Nat → Nat) (q7 : Nat) (q9 : Nat) (u12 : Nat → Nat) (q13 : Nat) (u14q : Nat) (u14 : Nat → Nat → Nat) (u17 : Nat → Nat) (u19 : Nat → Nat) (q15 : Nat) (q20 : Nat) (q21 : Nat) (bm : Nat) (v : Nat → Nat)
theorem sa_1 : sg (mkE E (adN b u2 u4 u6 q7 q9 u12 q13 u14q u14 u17 u19 q15 q20 q21 bm v)) I0 1 16 = caB E u2 := sg_ca E _ 1 ca_1 u2 (fun j hj => by
  unfold adN
  rw [if_neg (by omega), if_pos (by omega), show 1 + j - 1 = j by omega])
theorem sa_17 : sg (mkE E (adN b u2 u4 u6 q7 q9 u12 q13 u14q u14 u17 u19 q15 q20 q21 bm v)) I0 17 16 = caB E u4 := sg_ca E _ 17 ca_17 u4 (fun j hj => by
  unfold adN
  rw [if_neg (by omega), if_neg (by omega), if_pos (by omega), show 17 + j - 17 = j by omega])
theorem sa_202 : sg (mkE E (adN b u2 u4 u6 q7 q9 u12 q13 u14q u14 u17 u19 q15 q20 q21 bm v)) I0 202 16 = caB E u17 := sg_ca E _ 202 ca_202 u17 (fun j hj => by
  unfold adN
  rw [if_neg (by omega), if_neg (by omega), if_neg (by omega), if_neg (by omega), if_neg (by omega), if_neg (by omega), if_neg (by omega), if_neg (by omega), if_neg (by omega), if_neg (by omega), if_neg (by omega), if_pos (by omega), show 202 + j - 202 = j by omega])
theorem sa_218 : sg (mkE E (adN b u2 u4 u6 q7 q9 u12 q13 u14q u14 u17 u19 q15 q20 q21 bm v)) I0 218 16 = caB E u19 := sg_ca E _ 218 ca_218 u19 (fun j hj => by
  unfold adN
  rw [if_neg (by omega), if_neg (by omega), if_neg (by omega), if_neg (by omega), if_neg (by omega), if_neg (by omega), if_neg (by omega), if_neg (by omega), if_neg (by omega), if_neg (by omega), if_neg (by omega), if_neg (by omega), if_pos (by omega), show 218 + j - 218 = j by omega])
theorem sa_41 : sg (mkE E (adN b u2 u4 u6 q7 q9 u12 q13 u14q u14 u17 u19 q15 q20 q21 bm v)) I0 41 16 = caB E (u14 0) := sg_ca E _ 41 ca_41 (u14 0) (fun j hj => by
  unfold adN
  rw [if_neg (by omega), if_neg (by omega), if_neg (by omega), if_neg (by omega), if_neg (by omega), if_neg (by omega), if_neg (by omega), if_neg (by omega), if_neg (by omega), if_pos (by omega), show (41 + j - 41) / 16 = 0 by omega, show (41 + j - 41) % 16 = j by omega])
theorem sa_57 : sg (mkE E (adN b u2 u4 u6 q7 q9 u12 q13 u14q u14 u17 u19 q15 q20 q21 bm v)) I0 57 16 = caB E (u14 1) := sg_ca E _ 57 ca_57 (u14 1) (fun j hj => by
  unfold adN
  rw [if_neg (by omega), if_neg (by omega), if_neg (by omega), if_neg (by omega), if_neg (by omega), if_neg (by omega), if_neg (by omega), if_neg (by omega), if_neg (by omega), if_pos (by omega), show (57 + j - 41) / 16 = 1 by omega, show (57 + j - 41) % 16 = j by omega])
theorem sa_73 : sg (mkE E (adN b u2 u4 u6 q7 q9 u12 q13 u14q u14 u17 u19 q15 q20 q21 bm v)) I0 73 16 = caB E (u14 2) := sg_ca E _ 73 ca_73 (u14 2) (fun j hj => by
  unfold adN
  rw [if_neg (by omega), if_neg (by omega), if_neg (by omega), if_neg (by omega), if_neg (by omega), if_neg (by omega), if_neg (by omega), if_neg (by omega), if_neg (by omega), if_pos (by omega), show (73 + j - 41) / 16 = 2 by omega, show (73 + j - 41) % 16 = j by omega])
theorem sa_89 : sg (mkE E (adN b u2 u4 u6 q7 q9 u12 q13 u14q u14 u17 u19 q15 q20 q21 bm v)) I0 89 16 = caB E (u14 3) := sg_ca E _ 89 ca_89 (u14 3) (fun j hj => by
  unfold adN
  rw [if_neg (by omega), if_neg (by omega), if_neg (by omega), if_neg (by omega), if_neg (by omega), if_neg (by omega), if_neg (by omega), if_neg (by omega), if_neg (by omega), if_pos (by omega), show (89 + j - 41) / 16 = 3 by omega, show (89 + j - 41) % 16 = j by omega])
theorem sa_105 : sg (mkE E (adN b u2 u4 u6 q7 q9 u12 q13 u14q u14 u17 u19 q15 q20 q21 bm v)) I0 105 16 = caB E (u14 4) := sg_ca E _ 105 ca_105 (u14 4) (fun j hj => by
  unfold adN
  rw [if_neg (by omega), if_neg (by omega), if_neg (by omega), if_neg (by omega), if_neg (by omega), if_neg (by omega), if_neg (by omega), if_neg (by omega), if_neg (by omega), if_pos (by omega), show (105 + j - 41) / 16 = 4 by omega, show (105 + j - 41) % 16 = j by omega])
theorem sa_121 : sg (mkE E (adN b u2 u4 u6 q7 q9 u12 q13 u14q u14 u17 u19 q15 q20 q21 bm v)) I0 121 16 = caB E (u14 5) := sg_ca E _ 121 ca_121 (u14 5) (fun j hj => by
  unfold adN
  rw [if_neg (by omega), if_neg (by omega), if_neg (by omega), if_neg (by omega), if_neg (by omega), if_neg (by omega), if_neg (by omega), if_neg (by omega), if_neg (by omega), if_pos (by omega), show (121 + j - 41) / 16 = 5 by omega, show (121 + j - 41) % 16 = j by omega])
theorem sa_137 : sg (mkE E (adN b u2 u4 u6 q7 q9 u12 q13 u14q u14 u17 u19 q15 q20 q21 bm v)) I0 137 16 = caB E (u14 6) := sg_ca E _ 137 ca_137 (u14 6) (fun j hj => by
  unfold adN
  rw [if_neg (by omega), if_neg (by omega), if_neg (by omega), if_neg (by omega), if_neg (by omega), if_neg (by omega), if_neg (by omega), if_neg (by omega), if_neg (by omega), if_pos (by omega), show (137 + j - 41) / 16 = 6 by omega, show (137 + j - 41) % 16 = j by omega])
theorem sa_153 : sg (mkE E (adN b u2 u4 u6 q7 q9 u12 q13 u14q u14 u17 u19 q15 q20 q21 bm v)) I0 153 16 = caB E (u14 7) := sg_ca E _ 153 ca_153 (u14 7) (fun j hj => by
  unfold adN
  rw [if_neg (by omega), if_neg (by omega), if_neg (by omega), if_neg (by omega), if_neg (by omega), if_neg (by omega), if_neg (by omega), if_neg (by omega), if_neg (by omega), if_pos (by omega), show (153 + j - 41) / 16 = 7 by omega, show (153 + j - 41) % 16 = j by omega])
theorem sa_169 : sg (mkE E (adN b u2 u4 u6 q7 q9 u12 q13 u14q u14 u17 u19 q15 q20 q21 bm v)) I0 169 16 = caB E (u14 8) := sg_ca E _ 169 ca_169 (u14 8) (fun j hj => by
  unfold adN
  rw [if_neg (by omega), if_neg (by omega), if_neg (by omega), if_neg (by omega), if_neg (by omega), if_neg (by omega), if_neg (by omega), if_neg (by omega), if_neg (by omega), if_pos (by omega), show (169 + j - 41) / 16 = 8 by omega, show (169 + j - 41) % 16 = j by omega])
theorem sa_185 : sg (mkE E (adN b u2 u4 u6 q7 q9 u12 q13 u14q u14 u17 u19 q15 q20 q21 bm v)) I0 185 16 = caB E (u14 9) := sg_ca E _ 185 ca_185 (u14 9) (fun j hj => by
  unfold adN
  rw [if_neg (by omega), if_neg (by omega), if_neg (by omega), if_neg (by omega), if_neg (by omega), if_neg (by omega), if_neg (by omega), if_neg (by omega), if_neg (by omega), if_pos (by omega), show (185 + j - 41) / 16 = 9 by omega, show (185 + j - 41) % 16 = j by omega])
theorem sa_0 : sg (mkE E (adN b u2 u4 u6 q7 q9 u12 q13 u14q u14 u17 u19 q15 q20 q21 bm v)) I0 0 1 = ([(b, .inr (10, [.ref (u2 0), .ref (u4 0), .ref (u6 0), .ref q7, .ref q9, .ref (u12 0), .ref q13, .ref q15, .ref q20, .ref q21, .int (i2 0)]))] : va_W) := by
  show [(eA (mkE E (adN b u2 u4 u6 q7 q9 u12 q13 u14q u14 u17 u19 q15 q20 q21 bm v)) 0, cel (mkE E (adN b u2 u4 u6 q7 q9 u12 q13 u14q u14 u17 u19 q15 q20 q21 bm v)) (I0 0) 0)] = _
  rw [ce_O _ o_0 (by decide)]
  simp [flds, eA_mk, adN]
theorem sa_33 : sg (mkE E (adN b u2 u4 u6 q7 q9 u12 q13 u14q u14 u17 u19 q15 q20 q21 bm v)) I0 33 2 = taB E u6 := by
  show [(eA (mkE E (adN b u2 u4 u6 q7 q9 u12 q13 u14q u14 u17 u19 q15 q20 q21 bm v)) 33, cel (mkE E (adN b u2 u4 u6 q7 q9 u12 q13 u14q u14 u17 u19 q15 q20 q21 bm v)) (I0 33) 33), (eA (mkE E (adN b u2 u4 u6 q7 q9 u12 q13 u14q u14 u17 u19 q15 q20 q21 bm v)) 34, cel (mkE E (adN b u2 u4 u6 q7 q9 u12 q13 u14q u14 u17 u19 q15 q20 q21 bm v)) (I0 34) 34)] = _
  rw [ce_O _ o_33 (by decide), ce_B _ a_34]
  simp [flds, eA_mk, adN, taB]
theorem sa_35 : sg (mkE E (adN b u2 u4 u6 q7 q9 u12 q13 u14q u14 u17 u19 q15 q20 q21 bm v)) I0 35 1 = reB q7 (u6 0) (u4 0) := by
  show [(eA (mkE E (adN b u2 u4 u6 q7 q9 u12 q13 u14q u14 u17 u19 q15 q20 q21 bm v)) 35, cel (mkE E (adN b u2 u4 u6 q7 q9 u12 q13 u14q u14 u17 u19 q15 q20 q21 bm v)) (I0 35) 35)] = _
  rw [ce_O _ o_35 (by decide)]
  simp [flds, eA_mk, adN, reB]
theorem sa_36 : sg (mkE E (adN b u2 u4 u6 q7 q9 u12 q13 u14q u14 u17 u19 q15 q20 q21 bm v)) I0 36 1 = teB q9 := by
  show [(eA (mkE E (adN b u2 u4 u6 q7 q9 u12 q13 u14q u14 u17 u19 q15 q20 q21 bm v)) 36, cel (mkE E (adN b u2 u4 u6 q7 q9 u12 q13 u14q u14 u17 u19 q15 q20 q21 bm v)) (I0 36) 36)] = _
  rw [ce_O _ o_36 (by decide)]
  simp [flds, eA_mk, adN, teB]
theorem sa_37 : sg (mkE E (adN b u2 u4 u6 q7 q9 u12 q13 u14q u14 u17 u19 q15 q20 q21 bm v)) I0 37 2 = waB E u12 := by
  show [(eA (mkE E (adN b u2 u4 u6 q7 q9 u12 q13 u14q u14 u17 u19 q15 q20 q21 bm v)) 37, cel (mkE E (adN b u2 u4 u6 q7 q9 u12 q13 u14q u14 u17 u19 q15 q20 q21 bm v)) (I0 37) 37), (eA (mkE E (adN b u2 u4 u6 q7 q9 u12 q13 u14q u14 u17 u19 q15 q20 q21 bm v)) 38, cel (mkE E (adN b u2 u4 u6 q7 q9 u12 q13 u14q u14 u17 u19 q15 q20 q21 bm v)) (I0 38) 38)] = _
  rw [ce_O _ o_37 (by decide), ce_I _ a_38]
  simp [flds, eA_mk, adN, waB]
theorem sa_39 : sg (mkE E (adN b u2 u4 u6 q7 q9 u12 q13 u14q u14 u17 u19 q15 q20 q21 bm v)) I0 39 1 = ([(q13, .inr (1, [.int (i2 0), .int (i2 0), .ref u14q]))] : va_W) := by
  show [(eA (mkE E (adN b u2 u4 u6 q7 q9 u12 q13 u14q u14 u17 u19 q15 q20 q21 bm v)) 39, cel (mkE E (adN b u2 u4 u6 q7 q9 u12 q13 u14q u14 u17 u19 q15 q20 q21 bm v)) (I0 39) 39)] = _
  rw [ce_O _ o_39 (by decide)]
  simp [flds, eA_mk, adN]
theorem sa_40 : sg (mkE E (adN b u2 u4 u6 q7 q9 u12 q13 u14q u14 u17 u19 q15 q20 q21 bm v)) I0 40 1 = ([(u14q, zQ E 10 (va_up (va_up (va_up (va_up (va_up (va_up (va_up (va_up (va_up (va_up (fun _ => none) 0 (some (u14 0 0))) 1 (some (u14 1 0))) 2 (some (u14 2 0))) 3 (some (u14 3 0))) 4 (some (u14 4 0))) 5 (some (u14 5 0))) 6 (some (u14 6 0))) 7 (some (u14 7 0))) 8 (some (u14 8 0))) 9 (some (u14 9 0))))] : va_W) := by
  show [(eA (mkE E (adN b u2 u4 u6 q7 q9 u12 q13 u14q u14 u17 u19 q15 q20 q21 bm v)) 40, cel (mkE E (adN b u2 u4 u6 q7 q9 u12 q13 u14q u14 u17 u19 q15 q20 q21 bm v)) (I0 40) 40)] = _
  have h1 : cel (mkE E (adN b u2 u4 u6 q7 q9 u12 q13 u14q u14 u17 u19 q15 q20 q21 bm v)) (I0 40) 40 = zQ E 10 (fun j : Nat => (([some 41, some 57, some 73, some 89, some 105, some 121, some 137, some 153, some 169, some 185]).getD j none).map (eA (mkE E (adN b u2 u4 u6 q7 q9 u12 q13 u14q u14 u17 u19 q15 q20 q21 bm v)))) := by
    unfold cel
    rw [q_40.1]
    rfl
  have h2 : (fun j : Nat => (([some 41, some 57, some 73, some 89, some 105, some 121, some 137, some 153, some 169, some 185] : List (Option Int)).getD j none).map (eA (mkE E (adN b u2 u4 u6 q7 q9 u12 q13 u14q u14 u17 u19 q15 q20 q21 bm v)))) = (va_up (va_up (va_up (va_up (va_up (va_up (va_up (va_up (va_up (va_up (fun _ => none) 0 (some (u14 0 0))) 1 (some (u14 1 0))) 2 (some (u14 2 0))) 3 (some (u14 3 0))) 4 (some (u14 4 0))) 5 (some (u14 5 0))) 6 (some (u14 6 0))) 7 (some (u14 7 0))) 8 (some (u14 8 0))) 9 (some (u14 9 0))) := by
    funext j
    match j with
    | 0 => simp [va_up, eA_mk, adN]
    | 1 => simp [va_up, eA_mk, adN]
    | 2 => simp [va_up, eA_mk, adN]
    | 3 => simp [va_up, eA_mk, adN]
    | 4 => simp [va_up, eA_mk, adN]
    | 5 => simp [va_up, eA_mk, adN]
    | 6 => simp [va_up, eA_mk, adN]
    | 7 => simp [va_up, eA_mk, adN]
    | 8 => simp [va_up, eA_mk, adN]
    | 9 => simp [va_up, eA_mk, adN]
    | n + 10 => simp [va_up]
  rw [h1, h2]
  simp [eA_mk, adN]
theorem sa_201 : sg (mkE E (adN b u2 u4 u6 q7 q9 u12 q13 u14q u14 u17 u19 q15 q20 q21 bm v)) I0 201 1 = ([(q15, zQ E 2 (va_up (va_up (fun _ => none) 0 (some (u17 0))) 1 (some (u19 0))))] : va_W) := by
  show [(eA (mkE E (adN b u2 u4 u6 q7 q9 u12 q13 u14q u14 u17 u19 q15 q20 q21 bm v)) 201, cel (mkE E (adN b u2 u4 u6 q7 q9 u12 q13 u14q u14 u17 u19 q15 q20 q21 bm v)) (I0 201) 201)] = _
  have h1 : cel (mkE E (adN b u2 u4 u6 q7 q9 u12 q13 u14q u14 u17 u19 q15 q20 q21 bm v)) (I0 201) 201 = zQ E 2 (fun j : Nat => (([some 202, some 218]).getD j none).map (eA (mkE E (adN b u2 u4 u6 q7 q9 u12 q13 u14q u14 u17 u19 q15 q20 q21 bm v)))) := by
    unfold cel
    rw [q_201.1]
    rfl
  have h2 : (fun j : Nat => (([some 202, some 218] : List (Option Int)).getD j none).map (eA (mkE E (adN b u2 u4 u6 q7 q9 u12 q13 u14q u14 u17 u19 q15 q20 q21 bm v)))) = (va_up (va_up (fun _ => none) 0 (some (u17 0))) 1 (some (u19 0))) := by
    funext j
    match j with
    | 0 => simp [va_up, eA_mk, adN]
    | 1 => simp [va_up, eA_mk, adN]
    | n + 2 => simp [va_up]
  rw [h1, h2]
  simp [eA_mk, adN]
theorem sa_234 : sg (mkE E (adN b u2 u4 u6 q7 q9 u12 q13 u14q u14 u17 u19 q15 q20 q21 bm v)) I0 234 1 = ([(q20, zI E 64)] : va_W) := by
  show [(eA (mkE E (adN b u2 u4 u6 q7 q9 u12 q13 u14q u14 u17 u19 q15 q20 q21 bm v)) 234, cel (mkE E (adN b u2 u4 u6 q7 q9 u12 q13 u14q u14 u17 u19 q15 q20 q21 bm v)) (I0 234) 234)] = _
  rw [ce_I _ a_234]
  simp [eA_mk, adN]
theorem sa_235 : sg (mkE E (adN b u2 u4 u6 q7 q9 u12 q13 u14q u14 u17 u19 q15 q20 q21 bm v)) I0 235 1 = ([(q21, zI E 200)] : va_W) := by
  show [(eA (mkE E (adN b u2 u4 u6 q7 q9 u12 q13 u14q u14 u17 u19 q15 q20 q21 bm v)) 235, cel (mkE E (adN b u2 u4 u6 q7 q9 u12 q13 u14q u14 u17 u19 q15 q20 q21 bm v)) (I0 235) 235)] = _
  rw [ce_I _ a_235]
  simp [eA_mk, adN]
theorem sa_236 : sg (mkE E (adN b u2 u4 u6 q7 q9 u12 q13 u14q u14 u17 u19 q15 q20 q21 bm v)) I0 236 1 = ([(bm, .inr (11, [.ref (v 0), .ref (v 1), .ref (v 2), .int (i2 0), .ref (v 3), .ref (v 4), .int (i2 0), .int (i2 0), .ref (v 5), .ref (v 6), .ref (v 7), .ref (v 8), .int (i2 0), .int (i2 0), .int (i2 0), .ref (v 9), .int (i2 0), .int (i2 0), .int (i2 0), .int (i2 0), .int (i2 0), .int (i2 0), .ref (v 10), .ref (v 11), .ref (v 12)]))] : va_W) := by
  show [(eA (mkE E (adN b u2 u4 u6 q7 q9 u12 q13 u14q u14 u17 u19 q15 q20 q21 bm v)) 236, cel (mkE E (adN b u2 u4 u6 q7 q9 u12 q13 u14q u14 u17 u19 q15 q20 q21 bm v)) (I0 236) 236)] = _
  rw [ce_O _ o_236 (by decide)]
  simp [flds, eA_mk, adN]
theorem sa_237 : sg (mkE E (adN b u2 u4 u6 q7 q9 u12 q13 u14q u14 u17 u19 q15 q20 q21 bm v)) I0 237 1 = ([(v 0, zI E 980)] : va_W) := by
  show [(eA (mkE E (adN b u2 u4 u6 q7 q9 u12 q13 u14q u14 u17 u19 q15 q20 q21 bm v)) 237, cel (mkE E (adN b u2 u4 u6 q7 q9 u12 q13 u14q u14 u17 u19 q15 q20 q21 bm v)) (I0 237) 237)] = _
  rw [ce_I _ a_237]
  simp [eA_mk, adN]
theorem sa_238 : sg (mkE E (adN b u2 u4 u6 q7 q9 u12 q13 u14q u14 u17 u19 q15 q20 q21 bm v)) I0 238 1 = ([(v 1, zI E 980)] : va_W) := by
  show [(eA (mkE E (adN b u2 u4 u6 q7 q9 u12 q13 u14q u14 u17 u19 q15 q20 q21 bm v)) 238, cel (mkE E (adN b u2 u4 u6 q7 q9 u12 q13 u14q u14 u17 u19 q15 q20 q21 bm v)) (I0 238) 238)] = _
  rw [ce_I _ a_238]
  simp [eA_mk, adN]
theorem sa_239 : sg (mkE E (adN b u2 u4 u6 q7 q9 u12 q13 u14q u14 u17 u19 q15 q20 q21 bm v)) I0 239 1 = ([(v 2, zI E 9800)] : va_W) := by
  show [(eA (mkE E (adN b u2 u4 u6 q7 q9 u12 q13 u14q u14 u17 u19 q15 q20 q21 bm v)) 239, cel (mkE E (adN b u2 u4 u6 q7 q9 u12 q13 u14q u14 u17 u19 q15 q20 q21 bm v)) (I0 239) 239)] = _
  rw [ce_I _ a_239]
  simp [eA_mk, adN]
theorem sa_240 : sg (mkE E (adN b u2 u4 u6 q7 q9 u12 q13 u14q u14 u17 u19 q15 q20 q21 bm v)) I0 240 1 = ([(v 3, zI E 1960)] : va_W) := by
  show [(eA (mkE E (adN b u2 u4 u6 q7 q9 u12 q13 u14q u14 u17 u19 q15 q20 q21 bm v)) 240, cel (mkE E (adN b u2 u4 u6 q7 q9 u12 q13 u14q u14 u17 u19 q15 q20 q21 bm v)) (I0 240) 240)] = _
  rw [ce_I _ a_240]
  simp [eA_mk, adN]
theorem sa_241 : sg (mkE E (adN b u2 u4 u6 q7 q9 u12 q13 u14q u14 u17 u19 q15 q20 q21 bm v)) I0 241 1 = ([(v 4, zZ E 2)] : va_W) := by
  show [(eA (mkE E (adN b u2 u4 u6 q7 q9 u12 q13 u14q u14 u17 u19 q15 q20 q21 bm v)) 241, cel (mkE E (adN b u2 u4 u6 q7 q9 u12 q13 u14q u14 u17 u19 q15 q20 q21 bm v)) (I0 241) 241)] = _
  rw [ce_Z _ a_241]
  simp [eA_mk, adN]
theorem sa_242 : sg (mkE E (adN b u2 u4 u6 q7 q9 u12 q13 u14q u14 u17 u19 q15 q20 q21 bm v)) I0 242 1 = ([(v 5, zI E 200)] : va_W) := by
  show [(eA (mkE E (adN b u2 u4 u6 q7 q9 u12 q13 u14q u14 u17 u19 q15 q20 q21 bm v)) 242, cel (mkE E (adN b u2 u4 u6 q7 q9 u12 q13 u14q u14 u17 u19 q15 q20 q21 bm v)) (I0 242) 242)] = _
  rw [ce_I _ a_242]
  simp [eA_mk, adN]
theorem sa_243 : sg (mkE E (adN b u2 u4 u6 q7 q9 u12 q13 u14q u14 u17 u19 q15 q20 q21 bm v)) I0 243 1 = ([(v 6, zI E 200)] : va_W) := by
  show [(eA (mkE E (adN b u2 u4 u6 q7 q9 u12 q13 u14q u14 u17 u19 q15 q20 q21 bm v)) 243, cel (mkE E (adN b u2 u4 u6 q7 q9 u12 q13 u14q u14 u17 u19 q15 q20 q21 bm v)) (I0 243) 243)] = _
  rw [ce_I _ a_243]
  simp [eA_mk, adN]
theorem sa_244 : sg (mkE E (adN b u2 u4 u6 q7 q9 u12 q13 u14q u14 u17 u19 q15 q20 q21 bm v)) I0 244 1 = ([(v 7, zI E 16)] : va_W) := by
  show [(eA (mkE E (adN b u2 u4 u6 q7 q9 u12 q13 u14q u14 u17 u19 q15 q20 q21 bm v)) 244, cel (mkE E (adN b u2 u4 u6 q7 q9 u12 q13 u14q u14 u17 u19 q15 q20 q21 bm v)) (I0 244) 244)] = _
  rw [ce_I _ a_244]
  simp [eA_mk, adN]
theorem sa_245 : sg (mkE E (adN b u2 u4 u6 q7 q9 u12 q13 u14q u14 u17 u19 q15 q20 q21 bm v)) I0 245 1 = ([(v 8, zI E 16)] : va_W) := by
  show [(eA (mkE E (adN b u2 u4 u6 q7 q9 u12 q13 u14q u14 u17 u19 q15 q20 q21 bm v)) 245, cel (mkE E (adN b u2 u4 u6 q7 q9 u12 q13 u14q u14 u17 u19 q15 q20 q21 bm v)) (I0 245) 245)] = _
  rw [ce_I _ a_245]
  simp [eA_mk, adN]
theorem sa_246 : sg (mkE E (adN b u2 u4 u6 q7 q9 u12 q13 u14q u14 u17 u19 q15 q20 q21 bm v)) I0 246 1 = ([(v 9, zB E 400)] : va_W) := by
  show [(eA (mkE E (adN b u2 u4 u6 q7 q9 u12 q13 u14q u14 u17 u19 q15 q20 q21 bm v)) 246, cel (mkE E (adN b u2 u4 u6 q7 q9 u12 q13 u14q u14 u17 u19 q15 q20 q21 bm v)) (I0 246) 246)] = _
  rw [ce_B _ a_246]
  simp [eA_mk, adN]
theorem sa_247 : sg (mkE E (adN b u2 u4 u6 q7 q9 u12 q13 u14q u14 u17 u19 q15 q20 q21 bm v)) I0 247 1 = ([(v 10, zI E 64)] : va_W) := by
  show [(eA (mkE E (adN b u2 u4 u6 q7 q9 u12 q13 u14q u14 u17 u19 q15 q20 q21 bm v)) 247, cel (mkE E (adN b u2 u4 u6 q7 q9 u12 q13 u14q u14 u17 u19 q15 q20 q21 bm v)) (I0 247) 247)] = _
  rw [ce_I _ a_247]
  simp [eA_mk, adN]
theorem sa_248 : sg (mkE E (adN b u2 u4 u6 q7 q9 u12 q13 u14q u14 u17 u19 q15 q20 q21 bm v)) I0 248 1 = ([(v 11, zI E 16)] : va_W) := by
  show [(eA (mkE E (adN b u2 u4 u6 q7 q9 u12 q13 u14q u14 u17 u19 q15 q20 q21 bm v)) 248, cel (mkE E (adN b u2 u4 u6 q7 q9 u12 q13 u14q u14 u17 u19 q15 q20 q21 bm v)) (I0 248) 248)] = _
  rw [ce_I _ a_248]
  simp [eA_mk, adN]
theorem sa_249 : sg (mkE E (adN b u2 u4 u6 q7 q9 u12 q13 u14q u14 u17 u19 q15 q20 q21 bm v)) I0 249 1 = ([(v 12, zI E 16)] : va_W) := by
  show [(eA (mkE E (adN b u2 u4 u6 q7 q9 u12 q13 u14q u14 u17 u19 q15 q20 q21 bm v)) 249, cel (mkE E (adN b u2 u4 u6 q7 q9 u12 q13 u14q u14 u17 u19 q15 q20 q21 bm v)) (I0 249) 249)] = _
  rw [ce_I _ a_249]
  simp [eA_mk, adN]
theorem sa_his : sg (mkE E (adN b u2 u4 u6 q7 q9 u12 q13 u14q u14 u17 u19 q15 q20 q21 bm v)) I0 39 162 = hiB E q13 u14q u14 := ((sg_add _ I0 39 146 16).trans (apq ((sg_add _ I0 39 130 16).trans (apq ((sg_add _ I0 39 114 16).trans (apq ((sg_add _ I0 39 98 16).trans (apq ((sg_add _ I0 39 82 16).trans (apq ((sg_add _ I0 39 66 16).trans (apq ((sg_add _ I0 39 50 16).trans (apq ((sg_add _ I0 39 34 16).trans (apq ((sg_add _ I0 39 18 16).trans (apq ((sg_add _ I0 39 2 16).trans (apq ((sg_add _ I0 39 1 1).trans (apq ((sa_39 E b u2 u4 u6 q7 q9 u12 q13 u14q u14 u17 u19 q15 q20 q21 bm v)) (sa_40 E b u2 u4 u6 q7 q9 u12 q13 u14q u14 u17 u19 q15 q20 q21 bm v))) (sa_41 E b u2 u4 u6 q7 q9 u12 q13 u14q u14 u17 u19 q15 q20 q21 bm v))) (sa_57 E b u2 u4 u6 q7 q9 u12 q13 u14q u14 u17 u19 q15 q20 q21 bm v))) (sa_73 E b u2 u4 u6 q7 q9 u12 q13 u14q u14 u17 u19 q15 q20 q21 bm v))) (sa_89 E b u2 u4 u6 q7 q9 u12 q13 u14q u14 u17 u19 q15 q20 q21 bm v))) (sa_105 E b u2 u4 u6 q7 q9 u12 q13 u14q u14 u17 u19 q15 q20 q21 bm v))) (sa_121 E b u2 u4 u6 q7 q9 u12 q13 u14q u14 u17 u19 q15 q20 q21 bm v))) (sa_137 E b u2 u4 u6 q7 q9 u12 q13 u14q u14 u17 u19 q15 q20 q21 bm v))) (sa_153 E b u2 u4 u6 q7 q9 u12 q13 u14q u14 u17 u19 q15 q20 q21 bm v))) (sa_169 E b u2 u4 u6 q7 q9 u12 q13 u14q u14 u17 u19 q15 q20 q21 bm v))) (sa_185 E b u2 u4 u6 q7 q9 u12 q13 u14q u14 u17 u19 q15 q20 q21 bm v)))
theorem sa_dr : sg (mkE E (adN b u2 u4 u6 q7 q9 u12 q13 u14q u14 u17 u19 q15 q20 q21 bm v)) I0 0 236 = drB E b u2 u4 u6 q7 q9 u12 q13 u14q u14 u17 u19 q15 q20 q21 := ((sg_add _ I0 0 235 1).trans (apq ((sg_add _ I0 0 234 1).trans (apq ((sg_add _ I0 0 218 16).trans (apq ((sg_add _ I0 0 202 16).trans (apq ((sg_add _ I0 0 201 1).trans (apq ((sg_add _ I0 0 39 162).trans (apq ((sg_add _ I0 0 37 2).trans (apq ((sg_add _ I0 0 36 1).trans (apq ((sg_add _ I0 0 35 1).trans (apq ((sg_add _ I0 0 33 2).trans (apq ((sg_add _ I0 0 17 16).trans (apq ((sg_add _ I0 0 1 16).trans (apq ((sa_0 E b u2 u4 u6 q7 q9 u12 q13 u14q u14 u17 u19 q15 q20 q21 bm v)) (sa_1 E b u2 u4 u6 q7 q9 u12 q13 u14q u14 u17 u19 q15 q20 q21 bm v))) (sa_17 E b u2 u4 u6 q7 q9 u12 q13 u14q u14 u17 u19 q15 q20 q21 bm v))) (sa_33 E b u2 u4 u6 q7 q9 u12 q13 u14q u14 u17 u19 q15 q20 q21 bm v))) (sa_35 E b u2 u4 u6 q7 q9 u12 q13 u14q u14 u17 u19 q15 q20 q21 bm v))) (sa_36 E b u2 u4 u6 q7 q9 u12 q13 u14q u14 u17 u19 q15 q20 q21 bm v))) (sa_37 E b u2 u4 u6 q7 q9 u12 q13 u14q u14 u17 u19 q15 q20 q21 bm v))) (sa_his E b u2 u4 u6 q7 q9 u12 q13 u14q u14 u17 u19 q15 q20 q21 bm v))) (sa_201 E b u2 u4 u6 q7 q9 u12 q13 u14q u14 u17 u19 q15 q20 q21 bm v))) (sa_202 E b u2 u4 u6 q7 q9 u12 q13 u14q u14 u17 u19 q15 q20 q21 bm v))) (sa_218 E b u2 u4 u6 q7 q9 u12 q13 u14q u14 u17 u19 q15 q20 q21 bm v))) (sa_234 E b u2 u4 u6 q7 q9 u12 q13 u14q u14 u17 u19 q15 q20 q21 bm v))) (sa_235 E b u2 u4 u6 q7 q9 u12 q13 u14q u14 u17 u19 q15 q20 q21 bm v)))
theorem sa_mo : sg (mkE E (adN b u2 u4 u6 q7 q9 u12 q13 u14q u14 u17 u19 q15 q20 q21 bm v)) I0 236 14 = moB E bm v := ((sg_add _ I0 236 13 1).trans (apq ((sg_add _ I0 236 12 1).trans (apq ((sg_add _ I0 236 11 1).trans (apq ((sg_add _ I0 236 10 1).trans (apq ((sg_add _ I0 236 9 1).trans (apq ((sg_add _ I0 236 8 1).trans (apq ((sg_add _ I0 236 7 1).trans (apq ((sg_add _ I0 236 6 1).trans (apq ((sg_add _ I0 236 5 1).trans (apq ((sg_add _ I0 236 4 1).trans (apq ((sg_add _ I0 236 3 1).trans (apq ((sg_add _ I0 236 2 1).trans (apq ((sg_add _ I0 236 1 1).trans (apq ((sa_236 E b u2 u4 u6 q7 q9 u12 q13 u14q u14 u17 u19 q15 q20 q21 bm v)) (sa_237 E b u2 u4 u6 q7 q9 u12 q13 u14q u14 u17 u19 q15 q20 q21 bm v))) (sa_238 E b u2 u4 u6 q7 q9 u12 q13 u14q u14 u17 u19 q15 q20 q21 bm v))) (sa_239 E b u2 u4 u6 q7 q9 u12 q13 u14q u14 u17 u19 q15 q20 q21 bm v))) (sa_240 E b u2 u4 u6 q7 q9 u12 q13 u14q u14 u17 u19 q15 q20 q21 bm v))) (sa_241 E b u2 u4 u6 q7 q9 u12 q13 u14q u14 u17 u19 q15 q20 q21 bm v))) (sa_242 E b u2 u4 u6 q7 q9 u12 q13 u14q u14 u17 u19 q15 q20 q21 bm v))) (sa_243 E b u2 u4 u6 q7 q9 u12 q13 u14q u14 u17 u19 q15 q20 q21 bm v))) (sa_244 E b u2 u4 u6 q7 q9 u12 q13 u14q u14 u17 u19 q15 q20 q21 bm v))) (sa_245 E b u2 u4 u6 q7 q9 u12 q13 u14q u14 u17 u19 q15 q20 q21 bm v))) (sa_246 E b u2 u4 u6 q7 q9 u12 q13 u14q u14 u17 u19 q15 q20 q21 bm v))) (sa_247 E b u2 u4 u6 q7 q9 u12 q13 u14q u14 u17 u19 q15 q20 q21 bm v))) (sa_248 E b u2 u4 u6 q7 q9 u12 q13 u14q u14 u17 u19 q15 q20 q21 bm v))) (sa_249 E b u2 u4 u6 q7 q9 u12 q13 u14q u14 u17 u19 q15 q20 q21 bm v)))
theorem wo_all : wo (mkE E (adN b u2 u4 u6 q7 q9 u12 q13 u14q u14 u17 u19 q15 q20 q21 bm v)) I0 = drB E b u2 u4 u6 q7 q9 u12 q13 u14q u14 u17 u19 q15 q20 q21 ++ moB E bm v := (sg_wo _ _).trans ((sg_add _ I0 0 236 14).trans (apq (sa_dr E b u2 u4 u6 q7 q9 u12 q13 u14q u14 u17 u19 q15 q20 q21 bm v) (sa_mo E b u2 u4 u6 q7 q9 u12 q13 u14q u14 u17 u19 q15 q20 q21 bm v)))
end WA
