def stx : List (List Int) := [[114, 111, 119, 115], [119, 105, 100, 101], [97, 116], [101, 118, 101, 114, 121], [102, 114, 111, 109], [116, 105, 109, 101, 115], [97, 102, 116, 101, 114], [105, 110], [114, 111, 119, 115, 32], [59, 119, 105, 100, 101, 32], [59, 97, 116, 32], [32], [59, 97, 102, 116, 101, 114, 32], [32, 105, 110, 32]]
def slenI (i : Nat) : Int := ((stx.getD i []).length : Int)
def sch (i : Nat) (k : Int) : Int := (stx.getD i []).getD k.toNat 0
def V_bitCount (x0 : Int) (I : Mm) (Q : Int → Mm → Prop) : Prop :=
  ∀ y21 : Int, y21 = x0 - bAnd (bUshr x0 1) 1431655765 → ∀ y22 : Int, y22 = bAnd y21 858993459 + bAnd (bUshr y21 2) 858993459 → ∀ y23 : Int, y23 = bAnd (y22 + bUshr y22 4) 252645135 → ∀ y24 : Int, y24 = (y23 + bUshr y23 8) + bUshr (y23 + bUshr y23 8) 16 → Q (bAnd y24 63) I
def L_Ta_addFour_3 (x1 : Int) (Q : Mm → Prop)  : Nat → Int → Mm → Prop
  | 0, _, _ => False
  | n + 1, x2, I => (x2 < 0 → Q I) ∧
    (0 ≤ x2 → (400 ≤ I 33 0 → Q I) ∧
    (I 33 0 < 400 → (0 ≤ I 33 0 ∧ I 33 0 < 400) ∧ r32 ((wrM I 34 (I 33 0) (bByte (bShr x1 x2))) 33 0 + 1) ∧ r32 (x2 + (-8)) ∧ L_Ta_addFour_3 x1 Q n (x2 + (-8)) (wrM ((wrM I 34 (I 33 0) (bByte (bShr x1 x2)))) 33 0 ((wrM I 34 (I 33 0) (bByte (bShr x1 x2))) 33 0 + 1))))
def V_Ta_addFour (x1 : Int) (I : Mm) (Q : Mm → Prop) : Prop :=
  ∃ f26 : Nat, L_Ta_addFour_3 x1 Q f26 24 I
def V_X_feed (x1 : Int) (x2 : Int) (x3 : Int) (x4 : Int) (x5 : Int) (I : Mm) (Q : Int → Mm → Prop) : Prop :=
  r32 (I 33 0 + 20) ∧ (I 33 0 + 20 ≤ 400 → V_Ta_addFour x1 I (fun I22 => V_Ta_addFour x2 I22 (fun I23 => V_Ta_addFour x3 I23 (fun I24 => V_Ta_addFour x4 I24 (fun I25 => V_Ta_addFour x5 I25 (fun I26 => Q (I26 33 0) I26)))))) ∧
    (400 < I 33 0 + 20 → Q (-1) I)
def V_X_end (x1 : Int) (I : Mm) (Q : Int → Mm → Prop) : Prop :=
  (x1 < 0 → Q (-1) I) ∧
    (0 ≤ x1 → (x1 ≤ I 33 0 → Q x1 ((wrM I 33 0 x1))) ∧
    (I 33 0 < x1 → Q (-1) I))
def V_Lo_empty (c : Int) (I : Mm) (Q : Mm → Prop) : Prop :=
  Q ((wrM ((wrM I c 0 0)) c 1 0))
def L_Ca_reset_33 (c : Int) (Q : Mm → Prop)  : Nat → Int → Mm → Prop
  | 0, _, _ => False
  | n + 1, x1, I => (8 ≤ x1 → Q ((wrM ((wrM ((wrM ((wrM I c 5 4)) c 6 10)) c 7 0)) c 8 0))) ∧
    (x1 < 8 → (0 ≤ x1 ∧ x1 < 8) ∧ r32 (x1 + 1) ∧ L_Ca_reset_33 c Q n (x1 + 1) (wrM I (c + 15) x1 0))
def V_Ca_reset (c : Int) (I : Mm) (Q : Mm → Prop) : Prop :=
  V_Lo_empty (c + 13) ((wrM ((wrM ((wrM I (c + 1) 0 0)) (c + 5) 0 0)) (c + 9) 0 0)) (fun I24 => ∃ f32 : Nat, L_Ca_reset_33 c Q f32 0 I24)
def V_Ta_at (x1 : Int) (I : Mm) (Q : Int → Mm → Prop) : Prop :=
  (x1 < 0 → Q (-1) I) ∧
    (0 ≤ x1 → (x1 < I 33 0 → (0 ≤ x1 ∧ x1 < 400) ∧ Q (bAnd (I 34 x1) 255) I) ∧
    (I 33 0 ≤ x1 → Q (-1) I))
def L_Re_skipBlanks_0  (Q : Mm → Prop)  : Nat → Mm → Prop
  | 0, _ => False
  | n + 1, I => (I 33 0 ≤ I 35 2 → Q I) ∧
    (I 35 2 < I 33 0 → V_Ta_at (I 35 2) I (fun z21 I22 => (¬ z21 = 32 → Q I22) ∧
    (z21 = 32 → r32 (I22 35 2 + 1) ∧ L_Re_skipBlanks_0 Q n (wrM I22 35 2 (I22 35 2 + 1)))))
def V_Re_skipBlanks  (I : Mm) (Q : Mm → Prop) : Prop :=
  ∃ f25 : Nat, L_Re_skipBlanks_0 Q f25 I
def V_X_isLetter (x0 : Int) (I : Mm) (Q : Int → Mm → Prop) : Prop :=
  (x0 < 97 → Q 0 I) ∧
    (97 ≤ x0 → (122 < x0 → Q 0 I) ∧
    (x0 ≤ 122 → Q 1 I))
def L_Re_passes_2 (w1 : Nat) (Q : Int → Mm → Prop) (K39 : Mm → Prop) : Nat → Int → Mm → Prop
  | 0, _, _ => False
  | n + 1, x2, I => (slenI w1 ≤ x2 → K39 I) ∧
    (x2 < slenI w1 → r32 (I 35 2 + x2) ∧ V_Ta_at (I 35 2 + x2) I (fun z23 I24 => (0 ≤ x2 ∧ x2 < slenI w1) ∧ (z23 = sch w1 x2 → r32 (x2 + 1) ∧ L_Re_passes_2 w1 Q K39 n (x2 + 1) I24) ∧
    (¬ z23 = sch w1 x2 → Q 0 I24)))
def V_Re_passes (w1 : Nat) (I : Mm) (Q : Int → Mm → Prop) : Prop :=
  ∃ f37 : Nat, L_Re_passes_2 w1 Q (fun I27 => r32 (I27 35 2 + slenI w1) ∧ V_Ta_at (I27 35 2 + slenI w1) I27 (fun z30 I31 => V_X_isLetter z30 I31 (fun z32 I33 => (z32 = 0 → r32 (I33 35 2 + slenI w1) ∧ Q 1 ((wrM I33 35 2 (I33 35 2 + slenI w1)))) ∧
    (¬ z32 = 0 → Q 0 I33)))) f37 0 I
def V_X_isDigit (x0 : Int) (I : Mm) (Q : Int → Mm → Prop) : Prop :=
  (x0 < 48 → Q 0 I) ∧
    (48 ≤ x0 → (57 < x0 → Q 0 I) ∧
    (x0 ≤ 57 → Q 1 I))
def V_Re_fail (x1 : Int) (x2 : Int) (I : Mm) (Q : Mm → Prop) : Prop :=
  (¬ I 35 3 = 0 → Q I) ∧
    (I 35 3 = 0 → r32 ((8 * x1) + x2) ∧ Q ((wrM I 35 3 ((8 * x1) + x2))))
def L_Re_readNumber_12 (x1 : Int) (x2 : Int) (x3 : Int) (Q : Int → Mm → Prop) (K90 : Int → Mm → Prop) : Nat → Int → Mm → Prop
  | 0, _, _ => False
  | n + 1, x4, I => (I 33 0 ≤ I 35 2 → K90 x4 I) ∧
    (I 35 2 < I 33 0 → V_Ta_at (I 35 2) I (fun z22 I23 => V_X_isDigit z22 I23 (fun z24 I25 => (z24 = 0 → K90 x4 I25) ∧
    (¬ z24 = 0 → r64 x4 ∧ (999999999 < x4 → r32 (I25 35 2 + 1) ∧ L_Re_readNumber_12 x1 x2 x3 Q K90 n x4 (wrM I25 35 2 (I25 35 2 + 1))) ∧
    (x4 ≤ 999999999 → V_Ta_at (I25 35 2) I25 (fun z29 I30 => r32 (I30 35 2 + 1) ∧ L_Re_readNumber_12 x1 x2 x3 Q K90 n (((10 * x4) + z29) - 48) (wrM I30 35 2 (I30 35 2 + 1))))))))
def J_Re_readNumber_123 (x1 : Int) (x2 : Int) (Q : Int → Mm → Prop)  (x3 : Int) (x4 : Int) (I : Mm) : Prop :=
  V_Re_fail x3 2 I (fun I36 => (¬ I36 35 3 = 0 → Q x1 I36) ∧
    (I36 35 3 = 0 → r32 x4 ∧ Q x4 I36))
def V_Re_readNumber (x1 : Int) (x2 : Int) (I : Mm) (Q : Int → Mm → Prop) : Prop :=
  V_Re_skipBlanks I (fun I21 => ∃ f43 : Nat, L_Re_readNumber_12 x1 x2 (I21 35 2) Q (fun y33 I34 => (¬ I34 35 2 = I21 35 2 → r64 y33 ∧ (y33 < x1 → J_Re_readNumber_123 x1 x2 Q (I21 35 2) y33 I34) ∧
    (x1 ≤ y33 → (y33 ≤ x2 → (¬ I34 35 3 = 0 → Q x1 I34) ∧
    (I34 35 3 = 0 → r32 y33 ∧ Q y33 I34)) ∧
    (x2 < y33 → J_Re_readNumber_123 x1 x2 Q (I21 35 2) y33 I34))) ∧
    (I34 35 2 = I21 35 2 → V_Re_fail (I21 35 2) 1 I34 (fun I41 => (¬ I41 35 3 = 0 → Q x1 I41) ∧
    (I41 35 3 = 0 → r32 y33 ∧ Q y33 I41)))) f43 0 I21)
def V_X_isRows (x0 : Int) (I : Mm) (Q : Int → Mm → Prop) : Prop :=
  (x0 < 2 → Q 0 I) ∧
    (2 ≤ x0 → (64 < x0 → Q 0 I) ∧
    (x0 ≤ 64 → V_bitCount x0 I (fun z21 I22 => (¬ z21 = 1 → Q 0 I22) ∧
    (z21 = 1 → Q 1 I22))))
def V_Ca_lay (c : Int) (x1 : Int) (x2 : Int) (I : Mm) (Q : Mm → Prop) : Prop :=
  r32 ((wrM ((wrM I c 5 x1)) c 6 x2) (c + 15) 1 + (wrM ((wrM I c 5 x1)) c 6 x2) (c + 5) 0) ∧ Q ((wrM ((wrM ((wrM I c 5 x1)) c 6 x2)) (c + 15) 1 ((wrM ((wrM I c 5 x1)) c 6 x2) (c + 15) 1 + (wrM ((wrM I c 5 x1)) c 6 x2) (c + 5) 0)))
def J_Re_readRows_30  (Q : Mm → Prop)  (x2 : Int) (I : Mm) : Prop :=
  (¬ I 35 3 = 0 → Q I) ∧
    (I 35 3 = 0 → (x2 = I 17 5 → Q I) ∧
    (¬ x2 = I 17 5 → V_Ca_lay 17 x2 (I 17 6) I (fun I26 => Q I26)))
def V_Re_readRows  (I : Mm) (Q : Mm → Prop) : Prop :=
  V_Re_skipBlanks I (fun I21 => V_Re_readNumber 2 64 I21 (fun z22 I23 => V_X_isRows z22 I23 (fun z24 I25 => (¬ z24 = 0 → J_Re_readRows_30 Q z22 I25) ∧
    (z24 = 0 → V_Re_fail (I21 35 2) 2 I25 (fun I28 => J_Re_readRows_30 Q z22 I28)))))
def V_Re_readWide  (I : Mm) (Q : Mm → Prop) : Prop :=
  V_Re_readNumber 1 99999999 I (fun z21 I22 => (¬ I22 35 3 = 0 → Q I22) ∧
    (I22 35 3 = 0 → (z21 = I22 17 6 → Q I22) ∧
    (¬ z21 = I22 17 6 → V_Ca_lay 17 (I22 17 5) z21 I22 (fun I23 => Q I23))))
def V_X_withLetter (x0 : Int) (x1 : Int) (I : Mm) (Q : Int → Mm → Prop) : Prop :=
  Q (bOr (bShl x0 5) ((x1 - 97) + 1)) I
def L_Nm_find_2 (c : Int) (x1 : Int) (Q : Int → Mm → Prop)  : Nat → Int → Mm → Prop
  | 0, _, _ => False
  | n + 1, x2, I => (I c 0 ≤ x2 → Q (-1) I) ∧
    (x2 < I c 0 → (0 ≤ x2 ∧ x2 < 16) ∧ (¬ I (c + 1) x2 = x1 → r32 (x2 + 1) ∧ L_Nm_find_2 c x1 Q n (x2 + 1) I) ∧
    (I (c + 1) x2 = x1 → Q x2 I))
def V_Nm_find (c : Int) (x1 : Int) (I : Mm) (Q : Int → Mm → Prop) : Prop :=
  ∃ f23 : Nat, L_Nm_find_2 c x1 Q f23 0 I
def V_Nm_findOrAdd (c : Int) (x1 : Int) (I : Mm) (Q : Int → Mm → Prop) : Prop :=
  V_Nm_find c x1 I (fun z21 I22 => (¬ z21 = -1 → Q z21 I22) ∧
    (z21 = -1 → (I22 c 0 < 16 → (0 ≤ I22 c 0 ∧ I22 c 0 < 16) ∧ (0 ≤ (wrM I22 (c + 1) (I22 c 0) x1) c 0 ∧ (wrM I22 (c + 1) (I22 c 0) x1) c 0 < 16) ∧ (0 ≤ (wrM ((wrM I22 (c + 1) (I22 c 0) x1)) (c + 2) ((wrM I22 (c + 1) (I22 c 0) x1) c 0) 0) c 0 ∧ (wrM ((wrM I22 (c + 1) (I22 c 0) x1)) (c + 2) ((wrM I22 (c + 1) (I22 c 0) x1) c 0) 0) c 0 < 16) ∧ r32 ((wrM ((wrM ((wrM I22 (c + 1) (I22 c 0) x1)) (c + 2) ((wrM I22 (c + 1) (I22 c 0) x1) c 0) 0)) (c + 3) ((wrM ((wrM I22 (c + 1) (I22 c 0) x1)) (c + 2) ((wrM I22 (c + 1) (I22 c 0) x1) c 0) 0) c 0) 0) c 0 + 1) ∧ r32 ((wrM ((wrM ((wrM ((wrM I22 (c + 1) (I22 c 0) x1)) (c + 2) ((wrM I22 (c + 1) (I22 c 0) x1) c 0) 0)) (c + 3) ((wrM ((wrM I22 (c + 1) (I22 c 0) x1)) (c + 2) ((wrM I22 (c + 1) (I22 c 0) x1) c 0) 0) c 0) 0)) c 0 ((wrM ((wrM ((wrM I22 (c + 1) (I22 c 0) x1)) (c + 2) ((wrM I22 (c + 1) (I22 c 0) x1) c 0) 0)) (c + 3) ((wrM ((wrM I22 (c + 1) (I22 c 0) x1)) (c + 2) ((wrM I22 (c + 1) (I22 c 0) x1) c 0) 0) c 0) 0) c 0 + 1)) c 0 - 1) ∧ Q ((wrM ((wrM ((wrM ((wrM I22 (c + 1) (I22 c 0) x1)) (c + 2) ((wrM I22 (c + 1) (I22 c 0) x1) c 0) 0)) (c + 3) ((wrM ((wrM I22 (c + 1) (I22 c 0) x1)) (c + 2) ((wrM I22 (c + 1) (I22 c 0) x1) c 0) 0) c 0) 0)) c 0 ((wrM ((wrM ((wrM I22 (c + 1) (I22 c 0) x1)) (c + 2) ((wrM I22 (c + 1) (I22 c 0) x1) c 0) 0)) (c + 3) ((wrM ((wrM I22 (c + 1) (I22 c 0) x1)) (c + 2) ((wrM I22 (c + 1) (I22 c 0) x1) c 0) 0) c 0) 0) c 0 + 1)) c 0 - 1) ((wrM ((wrM ((wrM ((wrM I22 (c + 1) (I22 c 0) x1)) (c + 2) ((wrM I22 (c + 1) (I22 c 0) x1) c 0) 0)) (c + 3) ((wrM ((wrM I22 (c + 1) (I22 c 0) x1)) (c + 2) ((wrM I22 (c + 1) (I22 c 0) x1) c 0) 0) c 0) 0)) c 0 ((wrM ((wrM ((wrM I22 (c + 1) (I22 c 0) x1)) (c + 2) ((wrM I22 (c + 1) (I22 c 0) x1) c 0) 0)) (c + 3) ((wrM ((wrM I22 (c + 1) (I22 c 0) x1)) (c + 2) ((wrM I22 (c + 1) (I22 c 0) x1) c 0) 0) c 0) 0) c 0 + 1)))) ∧
    (16 ≤ I22 c 0 → Q z21 I22)))
def L_Re_readName_11 (x1 : Int) (Q : Int → Mm → Prop) (K68 : Int → Mm → Prop) : Nat → Int → Mm → Prop
  | 0, _, _ => False
  | n + 1, x2, I => r32 (x1 + 6) ∧ (x1 + 6 ≤ I 35 2 → K68 x2 I) ∧
    (I 35 2 < x1 + 6 → V_Ta_at (I 35 2) I (fun z23 I24 => V_X_isLetter z23 I24 (fun z25 I26 => (z25 = 0 → K68 x2 I26) ∧
    (¬ z25 = 0 → V_Ta_at (I26 35 2) I26 (fun z27 I28 => V_X_withLetter x2 z27 I28 (fun z29 I30 => r32 (I30 35 2 + 1) ∧ L_Re_readName_11 x1 Q K68 n z29 (wrM I30 35 2 (I30 35 2 + 1))))))))
def J_Re_readName_111  (Q : Int → Mm → Prop)  (x1 : Int) (x2 : Int) (I : Mm) : Prop :=
  (I 35 3 = 0 → V_Nm_findOrAdd (17 + 1) x2 I (fun z39 I40 => (¬ z39 = -1 → Q z39 I40) ∧
    (z39 = -1 → V_Re_fail x1 3 I40 (fun I41 => Q 0 I41)))) ∧
    (¬ I 35 3 = 0 → Q 0 I)
def V_Re_readName  (I : Mm) (Q : Int → Mm → Prop) : Prop :=
  V_Re_skipBlanks I (fun I21 => ∃ f47 : Nat, L_Re_readName_11 (I21 35 2) Q (fun y33 I34 => (¬ I34 35 2 = I21 35 2 → V_Ta_at (I34 35 2) I34 (fun z35 I36 => V_X_isLetter z35 I36 (fun z37 I38 => (z37 = 0 → J_Re_readName_111 Q (I21 35 2) y33 I38) ∧
    (¬ z37 = 0 → V_Re_fail (I38 35 2) 2 I38 (fun I43 => J_Re_readName_111 Q (I21 35 2) y33 I43))))) ∧
    (I34 35 2 = I21 35 2 → V_Re_fail (I21 35 2) 1 I34 (fun I45 => J_Re_readName_111 Q (I21 35 2) y33 I45))) f47 0 I21)
def V_Ca_hasRoomFor (c : Int) (x1 : Int) (x2 : Int) (x3 : Int) (I : Mm) (Q : Int → Mm → Prop) : Prop :=
  r32 (I (c + 5) 0 + x3) ∧ (200 < I (c + 5) 0 + x3 → Q 0 I) ∧
    (I (c + 5) 0 + x3 ≤ 200 → r32 (x2 + ((x3 - 1) * x1)) ∧ (999999999 < x2 + ((x3 - 1) * x1) → Q 0 I) ∧
    (x2 + ((x3 - 1) * x1) ≤ 999999999 → Q 1 I))
def V_Re_fits (x1 : Int) (x2 : Int) (x3 : Int) (x4 : Int) (I : Mm) (Q : Int → Mm → Prop) : Prop :=
  V_Ca_hasRoomFor 17 x2 x3 x4 I (fun z21 I22 => (¬ z21 = 0 → (¬ I22 35 3 = 0 → Q 0 I22) ∧
    (I22 35 3 = 0 → Q 1 I22)) ∧
    (z21 = 0 → V_Re_fail x1 4 I22 (fun I23 => (¬ I23 35 3 = 0 → Q 0 I23) ∧
    (I23 35 3 = 0 → Q 1 I23))))
def L_Th_placeFor_11 (c : Int) (x1 : Int) (x2 : Int) (Q : Int → Mm → Prop)  : Nat → Int → Int → Int → Mm → Prop
  | 0, _, _, _, _ => False
  | n + 1, x3, x4, x5, I => (200 ≤ x5 → Q x3 I) ∧
    (x5 < 200 → (x4 ≤ x3 → Q x3 I) ∧
    (x3 < x4 → r32 (x3 + x4) ∧ (0 ≤ (x3 + x4)) ∧ (0 ≤ ((x3 + x4) / 2) ∧ ((x3 + x4) / 2) < 200) ∧ (I (c + 3) ((x3 + x4) / 2) < x2 → r32 (((x3 + x4) / 2) + 1) ∧ r32 (x5 + 1) ∧ L_Th_placeFor_11 c x1 x2 Q n (((x3 + x4) / 2) + 1) x4 (x5 + 1) I) ∧
    (x2 ≤ I (c + 3) ((x3 + x4) / 2) → (0 ≤ ((x3 + x4) / 2) ∧ ((x3 + x4) / 2) < 200) ∧ (¬ I (c + 3) ((x3 + x4) / 2) = x2 → r32 (x5 + 1) ∧ L_Th_placeFor_11 c x1 x2 Q n x3 ((x3 + x4) / 2) (x5 + 1) I) ∧
    (I (c + 3) ((x3 + x4) / 2) = x2 → (0 ≤ ((x3 + x4) / 2) ∧ ((x3 + x4) / 2) < 200) ∧ (x1 ≤ I (c + 1) ((x3 + x4) / 2) → r32 (x5 + 1) ∧ L_Th_placeFor_11 c x1 x2 Q n x3 ((x3 + x4) / 2) (x5 + 1) I) ∧
    (I (c + 1) ((x3 + x4) / 2) < x1 → r32 (((x3 + x4) / 2) + 1) ∧ r32 (x5 + 1) ∧ L_Th_placeFor_11 c x1 x2 Q n (((x3 + x4) / 2) + 1) x4 (x5 + 1) I)))))
def V_Th_placeFor (c : Int) (x1 : Int) (x2 : Int) (I : Mm) (Q : Int → Mm → Prop) : Prop :=
  ∃ f32 : Nat, L_Th_placeFor_11 c x1 x2 Q f32 0 (I c 0) 0 I
def V_Th_insertAt (c : Int) (x1 : Int) (x2 : Int) (x3 : Int) (x4 : Int) (I : Mm) (Q : Mm → Prop) : Prop :=
  (x1 < 0 → Q I) ∧
    (0 ≤ x1 → (I c 0 < x1 → Q I) ∧
    (x1 ≤ I c 0 → (I c 0 < 200 → (0 ≤ x1) ∧ (0 ≤ (x1 + 1)) ∧ (0 ≤ (I c 0 - x1)) ∧ (x1 + (I c 0 - x1) ≤ 200) ∧ ((x1 + 1) + (I c 0 - x1) ≤ 200) ∧ (0 ≤ x1) ∧ (0 ≤ (x1 + 1)) ∧ (0 ≤ (I c 0 - x1)) ∧ (x1 + (I c 0 - x1) ≤ 200) ∧ ((x1 + 1) + (I c 0 - x1) ≤ 200) ∧ (0 ≤ x1) ∧ (0 ≤ (x1 + 1)) ∧ (0 ≤ (I c 0 - x1)) ∧ (x1 + (I c 0 - x1) ≤ 200) ∧ ((x1 + 1) + (I c 0 - x1) ≤ 200) ∧ (0 ≤ x1 ∧ x1 < 200) ∧ (0 ≤ x1 ∧ x1 < 200) ∧ (0 ≤ x1 ∧ x1 < 200) ∧ r32 ((wrM ((wrM ((wrM ((cpM ((cpM ((cpM I (c + 1) x1 (c + 1) (x1 + 1) (I c 0 - x1))) (c + 2) x1 (c + 2) (x1 + 1) (I c 0 - x1))) (c + 3) x1 (c + 3) (x1 + 1) (I c 0 - x1))) (c + 1) x1 x2)) (c + 2) x1 x3)) (c + 3) x1 x4) c 0 + 1) ∧ Q ((wrM ((wrM ((wrM ((wrM ((cpM ((cpM ((cpM I (c + 1) x1 (c + 1) (x1 + 1) (I c 0 - x1))) (c + 2) x1 (c + 2) (x1 + 1) (I c 0 - x1))) (c + 3) x1 (c + 3) (x1 + 1) (I c 0 - x1))) (c + 1) x1 x2)) (c + 2) x1 x3)) (c + 3) x1 x4)) c 0 ((wrM ((wrM ((wrM ((cpM ((cpM ((cpM I (c + 1) x1 (c + 1) (x1 + 1) (I c 0 - x1))) (c + 2) x1 (c + 2) (x1 + 1) (I c 0 - x1))) (c + 3) x1 (c + 3) (x1 + 1) (I c 0 - x1))) (c + 1) x1 x2)) (c + 2) x1 x3)) (c + 3) x1 x4) c 0 + 1)))) ∧
    (200 ≤ I c 0 → Q I)))
def L_Th_widthAnew_46 (c : Int) (x1 : Int) (x2 : Int) (x3 : Int) (Q : Int → Mm → Prop) (K97 : Int → Int → Mm → Prop) : Nat → Int → Int → Int → Mm → Prop
  | 0, _, _, _, _ => False
  | n + 1, x4, x5, x6, I => r32 (x6 + 1) ∧ (x2 ≤ x6 + 1 → K97 x4 x5 I) ∧
    (x6 + 1 < x2 → (0 ≤ (x6 + 1) ∧ (x6 + 1) < 200) ∧ (0 ≤ x6 ∧ x6 < 200) ∧ ∀ y29 : Int, y29 = I (c + 3) (x6 + 1) - I (c + 3) x6 → r32 y29 ∧ r32 (2 * x3) ∧ (2 * x3 < y29 → r32 (x6 + 1) ∧ L_Th_widthAnew_46 c x1 x2 x3 Q K97 n x4 x5 (x6 + 1) I) ∧
    (y29 ≤ 2 * x3 → r32 (x4 + y29) ∧ r32 (x5 + 1) ∧ r32 (x6 + 1) ∧ L_Th_widthAnew_46 c x1 x2 x3 Q K97 n (x4 + y29) (x5 + 1) (x6 + 1) I))
def J_Th_widthAnew_117 (c : Int) (x1 : Int) (Q : Int → Mm → Prop)  (t0 : Int) (I : Mm) : Prop :=
  r64 t0 ∧ r64 (min 99999999 t0) ∧ r32 (max 1 (min 99999999 t0)) ∧ Q (max 1 (min 99999999 t0)) I
def V_Th_widthAnew (c : Int) (x1 : Int) (I : Mm) (Q : Int → Mm → Prop) : Prop :=
  (2 ≤ min (I c 0) 10 → (0 ≤ (min (I c 0) 10 - 1) ∧ (min (I c 0) 10 - 1) < 200) ∧ r32 (I (c + 3) (min (I c 0) 10 - 1) - I (c + 3) 0) ∧ r32 (min (I c 0) 10 - 1) ∧ (0 ≤ (I (c + 3) (min (I c 0) 10 - 1) - I (c + 3) 0) ∧ 0 < (min (I c 0) 10 - 1)) ∧ ∀ y25 : Int, y25 = (I (c + 3) (min (I c 0) 10 - 1) - I (c + 3) 0) / (min (I c 0) 10 - 1) → ∃ f45 : Nat, L_Th_widthAnew_46 c x1 (min (I c 0) 10) y25 Q (fun y36 y37 I38 => (1 ≤ y37 → (0 ≤ y36 ∧ 0 < y37) ∧ J_Th_widthAnew_117 c x1 Q (3 * (y36 / y37)) I38) ∧
    (y37 < 1 → J_Th_widthAnew_117 c x1 Q 1 I38)) f45 0 0 0 I) ∧
    (min (I c 0) 10 < 2 → Q x1 I)
def V_Ca_comes (c : Int) (x1 : Int) (x2 : Int) (x3 : Int) (I : Mm) (Q : Mm → Prop) : Prop :=
  V_Th_placeFor (c + 5) x1 x3 I (fun z21 I22 => V_Th_insertAt (c + 5) z21 x1 x2 x3 I22 (fun I23 => r32 (2 * I23 c 5) ∧ (I23 (c + 5) 0 ≤ 2 * I23 c 5 → Q I23) ∧
    (2 * I23 c 5 < I23 (c + 5) 0 → (64 ≤ I23 c 5 → Q I23) ∧
    (I23 c 5 < 64 → r32 (I23 (c + 15) 3 + 1) ∧ V_Th_widthAnew (c + 5) ((wrM I23 (c + 15) 3 (I23 (c + 15) 3 + 1)) c 6) ((wrM I23 (c + 15) 3 (I23 (c + 15) 3 + 1))) (fun z27 I28 => r32 (2 * (wrM I23 (c + 15) 3 (I23 (c + 15) 3 + 1)) c 5) ∧ V_Ca_lay c (2 * (wrM I23 (c + 15) 3 (I23 (c + 15) 3 + 1)) c 5) z27 I28 (fun I30 => Q I30))))))
def L_Ca_comesOften_9 (c : Int) (x1 : Int) (x2 : Int) (x3 : Int) (x4 : Int) (x5 : Int) (Q : Int → Mm → Prop)  : Nat → Int → Mm → Prop
  | 0, _, _ => False
  | n + 1, x6, I => (x4 ≤ x6 → Q x5 I) ∧
    (x6 < x4 → r32 (I c 8 + 1) ∧ r32 ((wrM I c 8 (I c 8 + 1)) c 8 - 1) ∧ r32 (x3 + (x6 * x2)) ∧ V_Ca_comes c ((wrM I c 8 (I c 8 + 1)) c 8 - 1) x1 (x3 + (x6 * x2)) ((wrM I c 8 (I c 8 + 1))) (fun I25 => r32 (x6 + 1) ∧ L_Ca_comesOften_9 c x1 x2 x3 x4 x5 Q n (x6 + 1) I25))
def V_Ca_comesOften (c : Int) (x1 : Int) (x2 : Int) (x3 : Int) (x4 : Int) (I : Mm) (Q : Int → Mm → Prop) : Prop :=
  ∃ f27 : Nat, L_Ca_comesOften_9 c x1 x2 x3 x4 (I c 8) Q f27 0 I
def V_Re_readAt (x1 : Int) (I : Mm) (Q : Mm → Prop) : Prop :=
  V_Re_readNumber 0 999999999 I (fun z21 I22 => V_Re_readName I22 (fun z23 I24 => V_Re_fits x1 1 z21 1 I24 (fun z25 I26 => (z25 = 0 → Q I26) ∧
    (¬ z25 = 0 → V_Ca_comesOften 17 z23 1 z21 1 I26 (fun z27 I28 => Q I28)))))
def V_Re_expect (w1 : Nat) (I : Mm) (Q : Mm → Prop) : Prop :=
  V_Re_skipBlanks I (fun I21 => V_Re_passes w1 I21 (fun z22 I23 => (¬ z22 = 0 → Q I23) ∧
    (z22 = 0 → V_Re_fail (I23 35 2) 1 I23 (fun I24 => Q I24))))
def V_Re_readEvery (x1 : Int) (I : Mm) (Q : Mm → Prop) : Prop :=
  V_Re_readNumber 1 999999 I (fun z21 I22 => V_Re_expect 4 I22 (fun I23 => V_Re_readNumber 0 999999999 I23 (fun z24 I25 => V_Re_expect 5 I25 (fun I26 => V_Re_readNumber 1 50 I26 (fun z27 I28 => V_Re_readName I28 (fun z29 I30 => V_Re_fits x1 z21 z24 z27 I30 (fun z31 I32 => (z31 = 0 → Q I32) ∧
    (¬ z31 = 0 → V_Ca_comesOften 17 z29 z21 z24 z27 I32 (fun z33 I34 => Q I34)))))))))
def V_Ru_add (c : Int) (x1 : Int) (x2 : Int) (x3 : Int) (I : Mm) (Q : Int → Mm → Prop) : Prop :=
  (I c 0 < 12 → (0 ≤ I c 0 ∧ I c 0 < 12) ∧ (0 ≤ (wrM I (c + 1) (I c 0) x1) c 0 ∧ (wrM I (c + 1) (I c 0) x1) c 0 < 12) ∧ (0 ≤ (wrM ((wrM I (c + 1) (I c 0) x1)) (c + 2) ((wrM I (c + 1) (I c 0) x1) c 0) x2) c 0 ∧ (wrM ((wrM I (c + 1) (I c 0) x1)) (c + 2) ((wrM I (c + 1) (I c 0) x1) c 0) x2) c 0 < 12) ∧ r32 ((wrM ((wrM ((wrM I (c + 1) (I c 0) x1)) (c + 2) ((wrM I (c + 1) (I c 0) x1) c 0) x2)) (c + 3) ((wrM ((wrM I (c + 1) (I c 0) x1)) (c + 2) ((wrM I (c + 1) (I c 0) x1) c 0) x2) c 0) x3) c 0 + 1) ∧ r32 ((wrM ((wrM ((wrM ((wrM I (c + 1) (I c 0) x1)) (c + 2) ((wrM I (c + 1) (I c 0) x1) c 0) x2)) (c + 3) ((wrM ((wrM I (c + 1) (I c 0) x1)) (c + 2) ((wrM I (c + 1) (I c 0) x1) c 0) x2) c 0) x3)) c 0 ((wrM ((wrM ((wrM I (c + 1) (I c 0) x1)) (c + 2) ((wrM I (c + 1) (I c 0) x1) c 0) x2)) (c + 3) ((wrM ((wrM I (c + 1) (I c 0) x1)) (c + 2) ((wrM I (c + 1) (I c 0) x1) c 0) x2) c 0) x3) c 0 + 1)) c 0 - 1) ∧ Q ((wrM ((wrM ((wrM ((wrM I (c + 1) (I c 0) x1)) (c + 2) ((wrM I (c + 1) (I c 0) x1) c 0) x2)) (c + 3) ((wrM ((wrM I (c + 1) (I c 0) x1)) (c + 2) ((wrM I (c + 1) (I c 0) x1) c 0) x2) c 0) x3)) c 0 ((wrM ((wrM ((wrM I (c + 1) (I c 0) x1)) (c + 2) ((wrM I (c + 1) (I c 0) x1) c 0) x2)) (c + 3) ((wrM ((wrM I (c + 1) (I c 0) x1)) (c + 2) ((wrM I (c + 1) (I c 0) x1) c 0) x2) c 0) x3) c 0 + 1)) c 0 - 1) ((wrM ((wrM ((wrM ((wrM I (c + 1) (I c 0) x1)) (c + 2) ((wrM I (c + 1) (I c 0) x1) c 0) x2)) (c + 3) ((wrM ((wrM I (c + 1) (I c 0) x1)) (c + 2) ((wrM I (c + 1) (I c 0) x1) c 0) x2) c 0) x3)) c 0 ((wrM ((wrM ((wrM I (c + 1) (I c 0) x1)) (c + 2) ((wrM I (c + 1) (I c 0) x1) c 0) x2)) (c + 3) ((wrM ((wrM I (c + 1) (I c 0) x1)) (c + 2) ((wrM I (c + 1) (I c 0) x1) c 0) x2) c 0) x3) c 0 + 1)))) ∧
    (12 ≤ I c 0 → Q (-1) I)
def J_Re_readAfter_46 (x1 : Int) (Q : Mm → Prop)  (x2 : Int) (x3 : Int) (x4 : Int) (I : Mm) : Prop :=
  (¬ I 35 3 = 0 → Q I) ∧
    (I 35 3 = 0 → V_Ru_add (17 + 9) x2 x4 x3 I (fun z28 I29 => Q I29))
def V_Re_readAfter (x1 : Int) (I : Mm) (Q : Mm → Prop) : Prop :=
  V_Re_readName I (fun z21 I22 => V_Re_expect 7 I22 (fun I23 => V_Re_readNumber 1 999999 I23 (fun z24 I25 => V_Re_readName I25 (fun z26 I27 => (I27 (17 + 9) 0 < 12 → J_Re_readAfter_46 x1 Q z21 z24 z26 I27) ∧
    (12 ≤ I27 (17 + 9) 0 → V_Re_fail x1 4 I27 (fun I31 => J_Re_readAfter_46 x1 Q z21 z24 z26 I31))))))
def V_Re_readStatement  (I : Mm) (Q : Mm → Prop) : Prop :=
  V_Re_skipBlanks I (fun I21 => V_Re_passes 0 I21 (fun z22 I23 => (z22 = 0 → V_Re_passes 1 I23 (fun z24 I25 => (z24 = 0 → V_Re_passes 2 I25 (fun z26 I27 => (z26 = 0 → V_Re_passes 3 I27 (fun z28 I29 => (z28 = 0 → V_Re_passes 6 I29 (fun z30 I31 => (z30 = 0 → V_Re_fail (I21 35 2) 1 I31 (fun I32 => Q I32)) ∧
    (¬ z30 = 0 → V_Re_readAfter (I21 35 2) I31 (fun I33 => Q I33)))) ∧
    (¬ z28 = 0 → V_Re_readEvery (I21 35 2) I29 (fun I34 => Q I34)))) ∧
    (¬ z26 = 0 → V_Re_readAt (I21 35 2) I27 (fun I35 => Q I35)))) ∧
    (¬ z24 = 0 → V_Re_readWide I25 (fun I36 => Q I36)))) ∧
    (¬ z22 = 0 → V_Re_readRows I23 (fun I37 => Q I37))))
def L_Re_readAll_19  (Q : Int → Mm → Prop)  : Nat → Int → Mm → Prop
  | 0, _, _ => False
  | n + 1, x1, I => (400 < x1 → Q (I 35 3) I) ∧
    (x1 ≤ 400 → V_Re_readStatement I (fun I24 => V_Re_skipBlanks I24 (fun I25 => (¬ I25 35 3 = 0 → Q (I25 35 3) I25) ∧
    (I25 35 3 = 0 → (I25 35 2 < I25 33 0 → V_Ta_at (I25 35 2) I25 (fun z26 I27 => (z26 = 59 → r32 (I27 35 2 + 1) ∧ r32 (x1 + 1) ∧ L_Re_readAll_19 Q n (x1 + 1) (wrM I27 35 2 (I27 35 2 + 1))) ∧
    (¬ z26 = 59 → V_Re_fail (I27 35 2) 1 I27 (fun I31 => Q (I31 35 3) I31)))) ∧
    (I25 33 0 ≤ I25 35 2 → Q (I25 35 3) I25)))))
def V_Re_readAll  (I : Mm) (Q : Int → Mm → Prop) : Prop :=
  V_Ca_reset 17 I (fun I21 => ∃ f32 : Nat, L_Re_readAll_19 Q f32 0 (wrM ((wrM I21 35 2 0)) 35 3 0))
def V_Nm_copyFrom (c : Int) (c1 : Int) (I : Mm) (Q : Mm → Prop) : Prop :=
  Q ((cpM ((cpM ((cpM ((wrM I c 0 (I c1 0))) (c1 + 1) 0 (c + 1) 0 16)) (c1 + 2) 0 (c + 2) 0 16)) (c1 + 3) 0 (c + 3) 0 16))
def V_Th_copyFrom (c : Int) (c1 : Int) (I : Mm) (Q : Mm → Prop) : Prop :=
  (0 ≤ (wrM I c 0 (I c1 0)) c 0) ∧ (0 + (wrM I c 0 (I c1 0)) c 0 ≤ 200) ∧ (0 + (wrM I c 0 (I c1 0)) c 0 ≤ 200) ∧ (0 ≤ (cpM ((wrM I c 0 (I c1 0))) (c1 + 1) 0 (c + 1) 0 ((wrM I c 0 (I c1 0)) c 0)) c 0) ∧ (0 + (cpM ((wrM I c 0 (I c1 0))) (c1 + 1) 0 (c + 1) 0 ((wrM I c 0 (I c1 0)) c 0)) c 0 ≤ 200) ∧ (0 + (cpM ((wrM I c 0 (I c1 0))) (c1 + 1) 0 (c + 1) 0 ((wrM I c 0 (I c1 0)) c 0)) c 0 ≤ 200) ∧ (0 ≤ (cpM ((cpM ((wrM I c 0 (I c1 0))) (c1 + 1) 0 (c + 1) 0 ((wrM I c 0 (I c1 0)) c 0))) (c1 + 2) 0 (c + 2) 0 ((cpM ((wrM I c 0 (I c1 0))) (c1 + 1) 0 (c + 1) 0 ((wrM I c 0 (I c1 0)) c 0)) c 0)) c 0) ∧ (0 + (cpM ((cpM ((wrM I c 0 (I c1 0))) (c1 + 1) 0 (c + 1) 0 ((wrM I c 0 (I c1 0)) c 0))) (c1 + 2) 0 (c + 2) 0 ((cpM ((wrM I c 0 (I c1 0))) (c1 + 1) 0 (c + 1) 0 ((wrM I c 0 (I c1 0)) c 0)) c 0)) c 0 ≤ 200) ∧ (0 + (cpM ((cpM ((wrM I c 0 (I c1 0))) (c1 + 1) 0 (c + 1) 0 ((wrM I c 0 (I c1 0)) c 0))) (c1 + 2) 0 (c + 2) 0 ((cpM ((wrM I c 0 (I c1 0))) (c1 + 1) 0 (c + 1) 0 ((wrM I c 0 (I c1 0)) c 0)) c 0)) c 0 ≤ 200) ∧ Q ((cpM ((cpM ((cpM ((wrM I c 0 (I c1 0))) (c1 + 1) 0 (c + 1) 0 ((wrM I c 0 (I c1 0)) c 0))) (c1 + 2) 0 (c + 2) 0 ((cpM ((wrM I c 0 (I c1 0))) (c1 + 1) 0 (c + 1) 0 ((wrM I c 0 (I c1 0)) c 0)) c 0))) (c1 + 3) 0 (c + 3) 0 ((cpM ((cpM ((wrM I c 0 (I c1 0))) (c1 + 1) 0 (c + 1) 0 ((wrM I c 0 (I c1 0)) c 0))) (c1 + 2) 0 (c + 2) 0 ((cpM ((wrM I c 0 (I c1 0))) (c1 + 1) 0 (c + 1) 0 ((wrM I c 0 (I c1 0)) c 0)) c 0)) c 0)))
def V_Ru_copyFrom (c : Int) (c1 : Int) (I : Mm) (Q : Mm → Prop) : Prop :=
  (0 ≤ (wrM I c 0 (I c1 0)) c 0) ∧ (0 + (wrM I c 0 (I c1 0)) c 0 ≤ 12) ∧ (0 + (wrM I c 0 (I c1 0)) c 0 ≤ 12) ∧ (0 ≤ (cpM ((wrM I c 0 (I c1 0))) (c1 + 1) 0 (c + 1) 0 ((wrM I c 0 (I c1 0)) c 0)) c 0) ∧ (0 + (cpM ((wrM I c 0 (I c1 0))) (c1 + 1) 0 (c + 1) 0 ((wrM I c 0 (I c1 0)) c 0)) c 0 ≤ 12) ∧ (0 + (cpM ((wrM I c 0 (I c1 0))) (c1 + 1) 0 (c + 1) 0 ((wrM I c 0 (I c1 0)) c 0)) c 0 ≤ 12) ∧ (0 ≤ (cpM ((cpM ((wrM I c 0 (I c1 0))) (c1 + 1) 0 (c + 1) 0 ((wrM I c 0 (I c1 0)) c 0))) (c1 + 2) 0 (c + 2) 0 ((cpM ((wrM I c 0 (I c1 0))) (c1 + 1) 0 (c + 1) 0 ((wrM I c 0 (I c1 0)) c 0)) c 0)) c 0) ∧ (0 + (cpM ((cpM ((wrM I c 0 (I c1 0))) (c1 + 1) 0 (c + 1) 0 ((wrM I c 0 (I c1 0)) c 0))) (c1 + 2) 0 (c + 2) 0 ((cpM ((wrM I c 0 (I c1 0))) (c1 + 1) 0 (c + 1) 0 ((wrM I c 0 (I c1 0)) c 0)) c 0)) c 0 ≤ 12) ∧ (0 + (cpM ((cpM ((wrM I c 0 (I c1 0))) (c1 + 1) 0 (c + 1) 0 ((wrM I c 0 (I c1 0)) c 0))) (c1 + 2) 0 (c + 2) 0 ((cpM ((wrM I c 0 (I c1 0))) (c1 + 1) 0 (c + 1) 0 ((wrM I c 0 (I c1 0)) c 0)) c 0)) c 0 ≤ 12) ∧ Q ((cpM ((cpM ((cpM ((wrM I c 0 (I c1 0))) (c1 + 1) 0 (c + 1) 0 ((wrM I c 0 (I c1 0)) c 0))) (c1 + 2) 0 (c + 2) 0 ((cpM ((wrM I c 0 (I c1 0))) (c1 + 1) 0 (c + 1) 0 ((wrM I c 0 (I c1 0)) c 0)) c 0))) (c1 + 3) 0 (c + 3) 0 ((cpM ((cpM ((wrM I c 0 (I c1 0))) (c1 + 1) 0 (c + 1) 0 ((wrM I c 0 (I c1 0)) c 0))) (c1 + 2) 0 (c + 2) 0 ((cpM ((wrM I c 0 (I c1 0))) (c1 + 1) 0 (c + 1) 0 ((wrM I c 0 (I c1 0)) c 0)) c 0)) c 0)))
def V_Lo_copyFrom (c : Int) (c1 : Int) (I : Mm) (Q : Mm → Prop) : Prop :=
  Q ((cpM ((wrM ((wrM I c 0 (I c1 0))) c 1 ((wrM I c 0 (I c1 0)) c1 1))) (c1 + 1) 0 (c + 1) 0 200))
def V_Ca_copyFrom (c : Int) (c1 : Int) (I : Mm) (Q : Mm → Prop) : Prop :=
  V_Nm_copyFrom (c + 1) (c1 + 1) I (fun I21 => V_Th_copyFrom (c + 5) (c1 + 5) I21 (fun I22 => V_Ru_copyFrom (c + 9) (c1 + 9) I22 (fun I23 => V_Lo_copyFrom (c + 13) (c1 + 13) I23 (fun I24 => Q ((wrM ((wrM ((wrM ((wrM ((cpM I24 (c1 + 15) 0 (c + 15) 0 8)) c 5 ((cpM I24 (c1 + 15) 0 (c + 15) 0 8) c1 5))) c 6 ((wrM ((cpM I24 (c1 + 15) 0 (c + 15) 0 8)) c 5 ((cpM I24 (c1 + 15) 0 (c + 15) 0 8) c1 5)) c1 6))) c 7 ((wrM ((wrM ((cpM I24 (c1 + 15) 0 (c + 15) 0 8)) c 5 ((cpM I24 (c1 + 15) 0 (c + 15) 0 8) c1 5))) c 6 ((wrM ((cpM I24 (c1 + 15) 0 (c + 15) 0 8)) c 5 ((cpM I24 (c1 + 15) 0 (c + 15) 0 8) c1 5)) c1 6)) c1 7))) c 8 ((wrM ((wrM ((wrM ((cpM I24 (c1 + 15) 0 (c + 15) 0 8)) c 5 ((cpM I24 (c1 + 15) 0 (c + 15) 0 8) c1 5))) c 6 ((wrM ((cpM I24 (c1 + 15) 0 (c + 15) 0 8)) c 5 ((cpM I24 (c1 + 15) 0 (c + 15) 0 8) c1 5)) c1 6))) c 7 ((wrM ((wrM ((cpM I24 (c1 + 15) 0 (c + 15) 0 8)) c 5 ((cpM I24 (c1 + 15) 0 (c + 15) 0 8) c1 5))) c 6 ((wrM ((cpM I24 (c1 + 15) 0 (c + 15) 0 8)) c 5 ((cpM I24 (c1 + 15) 0 (c + 15) 0 8) c1 5)) c1 6)) c1 7)) c1 8)))))))
def V_Hi_forget  (I : Mm) (Q : Mm → Prop) : Prop :=
  Q ((wrM I 39 0 0))
def V_X_tell  (I : Mm) (Q : Int → Mm → Prop) : Prop :=
  V_Re_readAll I (fun z21 I22 => (z21 = 0 → V_Ca_copyFrom 1 17 ((wrM I22 33 0 0)) (fun I24 => V_Hi_forget I24 (fun I25 => Q (I25 (1 + 5) 0) I25))) ∧
    (¬ z21 = 0 → r32 ((-2) - z21) ∧ Q ((-2) - z21) ((wrM I22 33 0 0))))
def L_Ta_asWord_15  (Q : Int → Mm → Prop)  : Nat → Int → Int → Mm → Prop
  | 0, _, _, _ => False
  | n + 1, x1, x2, I => (I 33 0 ≤ x2 → Q x1 I) ∧
    (x2 < I 33 0 → V_Ta_at x2 I (fun z21 I22 => V_X_isLetter z21 I22 (fun z23 I24 => (¬ z23 = 0 → V_Ta_at x2 I24 (fun z25 I26 => V_X_withLetter x1 z25 I26 (fun z27 I28 => r32 (x2 + 1) ∧ L_Ta_asWord_15 Q n z27 (x2 + 1) I28))) ∧
    (z23 = 0 → Q 0 I24))))
def V_Ta_asWord  (I : Mm) (Q : Int → Mm → Prop) : Prop :=
  (I 33 0 ≤ 6 → ∃ f30 : Nat, L_Ta_asWord_15 Q f30 0 0 I) ∧
    (6 < I 33 0 → Q 0 I)
def V_Hi_remember (c1 : Int) (I : Mm) (Q : Mm → Prop) : Prop :=
  (0 ≤ I 39 1 ∧ I 39 1 < 10) ∧ V_Ca_copyFrom (41 + 16 * I 39 1) c1 I (fun I22 => r32 (I22 39 1 + 1) ∧ (0 ≤ (I22 39 1 + 1)) ∧ r32 ((wrM I22 39 1 ((I22 39 1 + 1) % 10)) 39 0 + 1) ∧ Q ((wrM ((wrM I22 39 1 ((I22 39 1 + 1) % 10))) 39 0 (min ((wrM I22 39 1 ((I22 39 1 + 1) % 10)) 39 0 + 1) 10))))
def V_X_name  (I : Mm) (Q : Int → Mm → Prop) : Prop :=
  V_Ta_asWord I (fun z21 I22 => (¬ z21 = 0 → V_Nm_find (1 + 1) z21 ((wrM I22 33 0 0)) (fun z24 I25 => (z24 = -1 → (I25 (1 + 1) 0 < 16 → V_Hi_remember 1 I25 (fun I26 => V_Nm_findOrAdd (1 + 1) z21 I26 (fun z27 I28 => Q z27 I28))) ∧
    (16 ≤ I25 (1 + 1) 0 → Q (-3) I25)) ∧
    (¬ z24 = -1 → Q z24 I25))) ∧
    (z21 = 0 → Q (-2) ((wrM I22 33 0 0))))
def V_Nm_has (c : Int) (x1 : Int) (I : Mm) (Q : Int → Mm → Prop) : Prop :=
  (x1 < 0 → Q 0 I) ∧
    (0 ≤ x1 → (I c 0 ≤ x1 → Q 0 I) ∧
    (x1 < I c 0 → Q 1 I))
def V_X_isHour (x0 : Int) (I : Mm) (Q : Int → Mm → Prop) : Prop :=
  (x0 < 0 → Q 0 I) ∧
    (0 ≤ x0 → (999999999 < x0 → Q 0 I) ∧
    (x0 ≤ 999999999 → Q 1 I))
def V_X_push (x1 : Int) (x2 : Int) (I : Mm) (Q : Int → Mm → Prop) : Prop :=
  V_Nm_has (1 + 1) x1 I (fun z21 I22 => (z21 = 0 → Q (-1) I22) ∧
    (¬ z21 = 0 → V_X_isHour x2 I22 (fun z23 I24 => (¬ z23 = 0 → (I24 1 7 ≤ x2 → (I24 (1 + 5) 0 < 200 → V_Hi_remember 1 I24 (fun I25 => V_Ca_comesOften 1 x1 1 x2 1 I25 (fun z26 I27 => Q z26 I27))) ∧
    (200 ≤ I24 (1 + 5) 0 → Q (-3) I24)) ∧
    (x2 < I24 1 7 → Q (-2) I24)) ∧
    (z23 = 0 → Q (-1) I24))))
def V_X_dayOf (x0 : Int) (x1 : Int) (I : Mm) (Q : Int → Mm → Prop) : Prop :=
  (1 ≤ x1 → (0 ≤ x0 ∧ 0 < x1) ∧ Q (x0 / x1) I) ∧
    (x1 < 1 → Q 0 I)
def V_X_looksFrom (x0 : Int) (x1 : Int) (x2 : Int) (x3 : Int) (I : Mm) (Q : Int → Mm → Prop) : Prop :=
  V_X_dayOf x1 x3 I (fun z21 I22 => V_X_dayOf x0 x3 I22 (fun z23 I24 => r32 (z21 - z23) ∧ (x2 ≤ z21 - z23 → r32 (2 * x2) ∧ Q (2 * x2) I24) ∧
    (z21 - z23 < x2 → r32 ((z21 - z23) + 1) ∧ Q ((z21 - z23) + 1) I24)))
def V_Lo_add (c : Int) (x1 : Int) (x2 : Int) (x3 : Int) (x4 : Int) (I : Mm) (Q : Mm → Prop) : Prop :=
  (0 ≤ (I c 1 * 4) ∧ (I c 1 * 4) < 200) ∧ (0 ≤ ((I c 1 * 4) + 1) ∧ ((I c 1 * 4) + 1) < 200) ∧ (0 ≤ ((I c 1 * 4) + 2) ∧ ((I c 1 * 4) + 2) < 200) ∧ (0 ≤ ((I c 1 * 4) + 3) ∧ ((I c 1 * 4) + 3) < 200) ∧ r32 ((wrM ((wrM ((wrM ((wrM I (c + 1) (I c 1 * 4) x1)) (c + 1) ((I c 1 * 4) + 1) x2)) (c + 1) ((I c 1 * 4) + 2) x3)) (c + 1) ((I c 1 * 4) + 3) x4) c 1 + 1) ∧ (0 ≤ ((wrM ((wrM ((wrM ((wrM I (c + 1) (I c 1 * 4) x1)) (c + 1) ((I c 1 * 4) + 1) x2)) (c + 1) ((I c 1 * 4) + 2) x3)) (c + 1) ((I c 1 * 4) + 3) x4) c 1 + 1)) ∧ r32 ((wrM ((wrM ((wrM ((wrM ((wrM I (c + 1) (I c 1 * 4) x1)) (c + 1) ((I c 1 * 4) + 1) x2)) (c + 1) ((I c 1 * 4) + 2) x3)) (c + 1) ((I c 1 * 4) + 3) x4)) c 1 (((wrM ((wrM ((wrM ((wrM I (c + 1) (I c 1 * 4) x1)) (c + 1) ((I c 1 * 4) + 1) x2)) (c + 1) ((I c 1 * 4) + 2) x3)) (c + 1) ((I c 1 * 4) + 3) x4) c 1 + 1) % 50)) c 0 + 1) ∧ Q ((wrM ((wrM ((wrM ((wrM ((wrM ((wrM I (c + 1) (I c 1 * 4) x1)) (c + 1) ((I c 1 * 4) + 1) x2)) (c + 1) ((I c 1 * 4) + 2) x3)) (c + 1) ((I c 1 * 4) + 3) x4)) c 1 (((wrM ((wrM ((wrM ((wrM I (c + 1) (I c 1 * 4) x1)) (c + 1) ((I c 1 * 4) + 1) x2)) (c + 1) ((I c 1 * 4) + 2) x3)) (c + 1) ((I c 1 * 4) + 3) x4) c 1 + 1) % 50))) c 0 (min ((wrM ((wrM ((wrM ((wrM ((wrM I (c + 1) (I c 1 * 4) x1)) (c + 1) ((I c 1 * 4) + 1) x2)) (c + 1) ((I c 1 * 4) + 2) x3)) (c + 1) ((I c 1 * 4) + 3) x4)) c 1 (((wrM ((wrM ((wrM ((wrM I (c + 1) (I c 1 * 4) x1)) (c + 1) ((I c 1 * 4) + 1) x2)) (c + 1) ((I c 1 * 4) + 2) x3)) (c + 1) ((I c 1 * 4) + 3) x4) c 1 + 1) % 50)) c 0 + 1) 50)))
def V_Th_has (c : Int) (x1 : Int) (I : Mm) (Q : Int → Mm → Prop) : Prop :=
  (x1 < 0 → Q 0 I) ∧
    (0 ≤ x1 → (I c 0 ≤ x1 → Q 0 I) ∧
    (x1 < I c 0 → Q 1 I))
def V_Th_removeAt (c : Int) (x1 : Int) (I : Mm) (Q : Mm → Prop) : Prop :=
  V_Th_has c x1 I (fun z21 I22 => (¬ z21 = 0 → r32 (I22 c 0 - 1) ∧ ∀ y25 : Int, y25 = (wrM I22 c 0 (I22 c 0 - 1)) c 0 - x1 → (0 ≤ (x1 + 1)) ∧ (0 ≤ x1) ∧ (0 ≤ y25) ∧ ((x1 + 1) + y25 ≤ 200) ∧ (x1 + y25 ≤ 200) ∧ (0 ≤ (x1 + 1)) ∧ (0 ≤ x1) ∧ (0 ≤ y25) ∧ ((x1 + 1) + y25 ≤ 200) ∧ (x1 + y25 ≤ 200) ∧ (0 ≤ (x1 + 1)) ∧ (0 ≤ x1) ∧ (0 ≤ y25) ∧ ((x1 + 1) + y25 ≤ 200) ∧ (x1 + y25 ≤ 200) ∧ Q ((cpM ((cpM ((cpM ((wrM I22 c 0 (I22 c 0 - 1))) (c + 1) (x1 + 1) (c + 1) x1 y25)) (c + 2) (x1 + 1) (c + 2) x1 y25)) (c + 3) (x1 + 1) (c + 3) x1 y25))) ∧
    (z21 = 0 → Q I22))
def V_Ca_goes (c : Int) (x1 : Int) (I : Mm) (Q : Mm → Prop) : Prop :=
  V_Th_has (c + 5) x1 I (fun z21 I22 => (¬ z21 = 0 → V_Th_removeAt (c + 5) x1 I22 (fun I23 => (0 ≤ I23 c 5) ∧ (I23 c 5 / 2 ≤ I23 (c + 5) 0 → Q I23) ∧
    (I23 (c + 5) 0 < I23 c 5 / 2 → (I23 c 5 ≤ 2 → Q I23) ∧
    (2 < I23 c 5 → r32 (I23 (c + 15) 4 + 1) ∧ (0 ≤ (wrM I23 (c + 15) 4 (I23 (c + 15) 4 + 1)) c 5) ∧ V_Th_widthAnew (c + 5) ((wrM I23 (c + 15) 4 (I23 (c + 15) 4 + 1)) c 6) ((wrM I23 (c + 15) 4 (I23 (c + 15) 4 + 1))) (fun z28 I29 => V_Ca_lay c ((wrM I23 (c + 15) 4 (I23 (c + 15) 4 + 1)) c 5 / 2) z28 I29 (fun I30 => Q I30)))))) ∧
    (z21 = 0 → Q I22))
def V_Nm_countTaken (c : Int) (x1 : Int) (I : Mm) (Q : Mm → Prop) : Prop :=
  V_Nm_has c x1 I (fun z21 I22 => (z21 = 0 → Q I22) ∧
    (¬ z21 = 0 → (0 ≤ x1 ∧ x1 < 16) ∧ (0 ≤ x1 ∧ x1 < 16) ∧ r32 (I22 (c + 2) x1 + 1) ∧ Q ((wrM I22 (c + 2) x1 (I22 (c + 2) x1 + 1)))))
def V_Nm_countLost (c : Int) (x1 : Int) (I : Mm) (Q : Mm → Prop) : Prop :=
  V_Nm_has c x1 I (fun z21 I22 => (z21 = 0 → Q I22) ∧
    (¬ z21 = 0 → (0 ≤ x1 ∧ x1 < 16) ∧ (0 ≤ x1 ∧ x1 < 16) ∧ r32 (I22 (c + 3) x1 + 1) ∧ Q ((wrM I22 (c + 3) x1 (I22 (c + 3) x1 + 1)))))
def L_Ca_bring_2 (c : Int) (x1 : Int) (Q : Mm → Prop)  : Nat → Int → Mm → Prop
  | 0, _, _ => False
  | n + 1, x2, I => (I (c + 9) 0 ≤ x2 → Q I) ∧
    (x2 < I (c + 9) 0 → (0 ≤ x2 ∧ x2 < 12) ∧ (¬ I (c + 9 + 1) x2 = x1 → r32 (x2 + 1) ∧ L_Ca_bring_2 c x1 Q n (x2 + 1) I) ∧
    (I (c + 9 + 1) x2 = x1 → (0 ≤ x2 ∧ x2 < 12) ∧ (0 ≤ x2 ∧ x2 < 12) ∧ r32 (I c 7 + I (c + 9 + 3) x2) ∧ V_Ca_hasRoomFor c 1 (I c 7 + I (c + 9 + 3) x2) 1 I (fun z26 I27 => (z26 = 0 → r32 (I27 (c + 15) 6 + 1) ∧ V_Nm_countLost (c + 1) (I (c + 9 + 2) x2) ((wrM I27 (c + 15) 6 (I27 (c + 15) 6 + 1))) (fun I30 => r32 (x2 + 1) ∧ L_Ca_bring_2 c x1 Q n (x2 + 1) I30)) ∧
    (¬ z26 = 0 → r32 (I27 c 8 + 1) ∧ r32 ((wrM I27 c 8 (I27 c 8 + 1)) c 8 - 1) ∧ V_Ca_comes c ((wrM I27 c 8 (I27 c 8 + 1)) c 8 - 1) (I (c + 9 + 2) x2) (I c 7 + I (c + 9 + 3) x2) ((wrM I27 c 8 (I27 c 8 + 1))) (fun I35 => r32 (x2 + 1) ∧ L_Ca_bring_2 c x1 Q n (x2 + 1) I35)))))
def V_Ca_bring (c : Int) (x1 : Int) (I : Mm) (Q : Mm → Prop) : Prop :=
  ∃ f37 : Nat, L_Ca_bring_2 c x1 Q f37 0 I
def J_Ca_takeFirst_87 (c : Int) (Q : Mm → Prop)  (x1 : Int) (x2 : Int) (x3 : Int) (I : Mm) : Prop :=
  V_Lo_add (c + 13) (I (c + 5 + 1) 0) x1 x2 x3 I (fun I27 => V_Ca_goes c 0 ((wrM I27 c 7 x2)) (fun I29 => V_Nm_countTaken (c + 1) x1 I29 (fun I30 => V_Ca_bring c x1 I30 (fun I31 => Q I31))))
def V_Ca_takeFirst (c : Int) (I : Mm) (Q : Mm → Prop) : Prop :=
  (1 ≤ I (c + 5) 0 → V_X_looksFrom (I c 7) (I (c + 5 + 3) 0) (I c 5) (I c 6) I (fun z21 I22 => r32 (I22 (c + 15) 0 + z21) ∧ r32 ((wrM I22 (c + 15) 0 (I22 (c + 15) 0 + z21)) (c + 15) 5 + 1) ∧ (z21 ≤ (wrM ((wrM I22 (c + 15) 0 (I22 (c + 15) 0 + z21))) (c + 15) 5 ((wrM I22 (c + 15) 0 (I22 (c + 15) 0 + z21)) (c + 15) 5 + 1)) c 5 → J_Ca_takeFirst_87 c Q (I (c + 5 + 2) 0) (I (c + 5 + 3) 0) z21 (wrM ((wrM I22 (c + 15) 0 (I22 (c + 15) 0 + z21))) (c + 15) 5 ((wrM I22 (c + 15) 0 (I22 (c + 15) 0 + z21)) (c + 15) 5 + 1))) ∧
    ((wrM ((wrM I22 (c + 15) 0 (I22 (c + 15) 0 + z21))) (c + 15) 5 ((wrM I22 (c + 15) 0 (I22 (c + 15) 0 + z21)) (c + 15) 5 + 1)) c 5 < z21 → r32 ((wrM ((wrM I22 (c + 15) 0 (I22 (c + 15) 0 + z21))) (c + 15) 5 ((wrM I22 (c + 15) 0 (I22 (c + 15) 0 + z21)) (c + 15) 5 + 1)) (c + 15) 2 + 1) ∧ J_Ca_takeFirst_87 c Q (I (c + 5 + 2) 0) (I (c + 5 + 3) 0) z21 (wrM ((wrM ((wrM I22 (c + 15) 0 (I22 (c + 15) 0 + z21))) (c + 15) 5 ((wrM I22 (c + 15) 0 (I22 (c + 15) 0 + z21)) (c + 15) 5 + 1))) (c + 15) 2 ((wrM ((wrM I22 (c + 15) 0 (I22 (c + 15) 0 + z21))) (c + 15) 5 ((wrM I22 (c + 15) 0 (I22 (c + 15) 0 + z21)) (c + 15) 5 + 1)) (c + 15) 2 + 1))))) ∧
    (I (c + 5) 0 < 1 → Q I)
def L_Ca_takeSome_2 (c : Int) (x1 : Int) (Q : Int → Mm → Prop)  : Nat → Int → Mm → Prop
  | 0, _, _ => False
  | n + 1, x2, I => (x1 ≤ x2 → Q x2 I) ∧
    (x2 < x1 → (I (c + 5) 0 ≤ 0 → Q x2 I) ∧
    (0 < I (c + 5) 0 → V_Ca_takeFirst c I (fun I21 => r32 (x2 + 1) ∧ L_Ca_takeSome_2 c x1 Q n (x2 + 1) I21)))
def V_Ca_takeSome (c : Int) (x1 : Int) (I : Mm) (Q : Int → Mm → Prop) : Prop :=
  ∃ f23 : Nat, L_Ca_takeSome_2 c x1 Q f23 0 I
def V_X_take (x1 : Int) (I : Mm) (Q : Int → Mm → Prop) : Prop :=
  (x1 < 1 → Q (-1) I) ∧
    (1 ≤ x1 → (x1 ≤ 99 → (1 ≤ I (1 + 5) 0 → V_Hi_remember 1 I (fun I21 => V_Ca_takeSome 1 x1 I21 (fun z22 I23 => Q z22 I23))) ∧
    (I (1 + 5) 0 < 1 → Q (-2) I)) ∧
    (99 < x1 → Q (-1) I))
def V_Ca_waitsBy (c : Int) (x1 : Int) (I : Mm) (Q : Int → Mm → Prop) : Prop :=
  (I (c + 5) 0 ≤ 0 → Q 0 I) ∧
    (0 < I (c + 5) 0 → (x1 < I (c + 5 + 3) 0 → Q 0 I) ∧
    (I (c + 5 + 3) 0 ≤ x1 → Q 1 I))
def L_Ca_takeDue_2 (c : Int) (x1 : Int) (x2 : Int) (Q : Int → Mm → Prop)  : Nat → Int → Mm → Prop
  | 0, _, _ => False
  | n + 1, x3, I => (x2 ≤ x3 → Q x3 I) ∧
    (x3 < x2 → V_Ca_waitsBy c x1 I (fun z21 I22 => (z21 = 0 → Q x3 I22) ∧
    (¬ z21 = 0 → V_Ca_takeFirst c I22 (fun I23 => r32 (x3 + 1) ∧ L_Ca_takeDue_2 c x1 x2 Q n (x3 + 1) I23))))
def V_Ca_takeDue (c : Int) (x1 : Int) (x2 : Int) (I : Mm) (Q : Int → Mm → Prop) : Prop :=
  ∃ f25 : Nat, L_Ca_takeDue_2 c x1 x2 Q f25 0 I
def V_X_until (x1 : Int) (I : Mm) (Q : Int → Mm → Prop) : Prop :=
  V_X_isHour x1 I (fun z21 I22 => (¬ z21 = 0 → V_Ca_waitsBy 1 x1 I22 (fun z23 I24 => (¬ z23 = 0 → V_Hi_remember 1 I24 (fun I25 => V_Ca_takeDue 1 x1 999 I25 (fun z26 I27 => Q z26 I27))) ∧
    (z23 = 0 → Q (-2) I24))) ∧
    (z21 = 0 → Q (-1) I22))
def L_Th_placeOf_2 (c : Int) (x1 : Int) (Q : Int → Mm → Prop)  : Nat → Int → Mm → Prop
  | 0, _, _ => False
  | n + 1, x2, I => (I c 0 ≤ x2 → Q (-1) I) ∧
    (x2 < I c 0 → (0 ≤ x2 ∧ x2 < 200) ∧ (¬ I (c + 1) x2 = x1 → r32 (x2 + 1) ∧ L_Th_placeOf_2 c x1 Q n (x2 + 1) I) ∧
    (I (c + 1) x2 = x1 → Q x2 I))
def V_Th_placeOf (c : Int) (x1 : Int) (I : Mm) (Q : Int → Mm → Prop) : Prop :=
  ∃ f23 : Nat, L_Th_placeOf_2 c x1 Q f23 0 I
def V_Ca_cancelAt (c : Int) (x1 : Int) (I : Mm) (Q : Mm → Prop) : Prop :=
  V_Th_has (c + 5) x1 I (fun z21 I22 => (¬ z21 = 0 → r32 (I22 (c + 15) 7 + 1) ∧ V_Ca_goes c x1 ((wrM I22 (c + 15) 7 (I22 (c + 15) 7 + 1))) (fun I25 => Q I25)) ∧
    (z21 = 0 → Q I22))
def V_X_cancel (x1 : Int) (I : Mm) (Q : Int → Mm → Prop) : Prop :=
  V_Th_placeOf (1 + 5) x1 I (fun z21 I22 => (¬ z21 = -1 → V_Hi_remember 1 I22 (fun I23 => V_Ca_cancelAt 1 z21 I23 (fun I24 => Q (I24 (1 + 5) 0) I24))) ∧
    (z21 = -1 → Q (-1) I22))
def L_Th_countOf_4 (c : Int) (x1 : Int) (Q : Int → Mm → Prop)  : Nat → Int → Int → Mm → Prop
  | 0, _, _, _ => False
  | n + 1, x2, x3, I => (I c 0 ≤ x3 → Q x2 I) ∧
    (x3 < I c 0 → (0 ≤ x3 ∧ x3 < 200) ∧ (¬ I (c + 2) x3 = x1 → r32 (x3 + 1) ∧ L_Th_countOf_4 c x1 Q n x2 (x3 + 1) I) ∧
    (I (c + 2) x3 = x1 → r32 (x2 + 1) ∧ r32 (x3 + 1) ∧ L_Th_countOf_4 c x1 Q n (x2 + 1) (x3 + 1) I))
def V_Th_countOf (c : Int) (x1 : Int) (I : Mm) (Q : Int → Mm → Prop) : Prop :=
  ∃ f25 : Nat, L_Th_countOf_4 c x1 Q f25 0 0 I
def L_Th_firstOf_2 (c : Int) (x1 : Int) (Q : Int → Mm → Prop)  : Nat → Int → Mm → Prop
  | 0, _, _ => False
  | n + 1, x2, I => (I c 0 ≤ x2 → Q (-1) I) ∧
    (x2 < I c 0 → (0 ≤ x2 ∧ x2 < 200) ∧ (¬ I (c + 2) x2 = x1 → r32 (x2 + 1) ∧ L_Th_firstOf_2 c x1 Q n (x2 + 1) I) ∧
    (I (c + 2) x2 = x1 → Q x2 I))
def V_Th_firstOf (c : Int) (x1 : Int) (I : Mm) (Q : Int → Mm → Prop) : Prop :=
  ∃ f23 : Nat, L_Th_firstOf_2 c x1 Q f23 0 I
def L_X_clear_48 (x1 : Int) (x2 : Int) (Q : Int → Mm → Prop)  : Nat → Int → Mm → Prop
  | 0, _, _ => False
  | n + 1, x3, I => (x2 ≤ x3 → Q x2 I) ∧
    (x3 < x2 → V_Th_firstOf (1 + 5) x1 I (fun z26 I27 => V_Ca_cancelAt 1 z26 I27 (fun I28 => r32 (x3 + 1) ∧ L_X_clear_48 x1 x2 Q n (x3 + 1) I28)))
def V_X_clear (x1 : Int) (I : Mm) (Q : Int → Mm → Prop) : Prop :=
  V_Nm_has (1 + 1) x1 I (fun z21 I22 => (¬ z21 = 0 → V_Th_countOf (1 + 5) x1 I22 (fun z23 I24 => (¬ z23 = 0 → V_Hi_remember 1 I24 (fun I25 => ∃ f30 : Nat, L_X_clear_48 x1 z23 Q f30 0 I25)) ∧
    (z23 = 0 → Q (-2) I24))) ∧
    (z21 = 0 → Q (-1) I22))
def V_Ca_putOff (c : Int) (x1 : Int) (x2 : Int) (I : Mm) (Q : Mm → Prop) : Prop :=
  V_Th_has (c + 5) x1 I (fun z21 I22 => (¬ z21 = 0 → (0 ≤ x1 ∧ x1 < 200) ∧ (0 ≤ x1 ∧ x1 < 200) ∧ V_Ca_goes c x1 I22 (fun I25 => V_Ca_comes c (I22 (c + 5 + 1) x1) (I22 (c + 5 + 2) x1) x2 I25 (fun I26 => Q I26))) ∧
    (z21 = 0 → Q I22))
def V_X_postpone (x1 : Int) (x2 : Int) (I : Mm) (Q : Int → Mm → Prop) : Prop :=
  V_Th_placeOf (1 + 5) x1 I (fun z21 I22 => (z21 = -1 → Q (-1) I22) ∧
    (¬ z21 = -1 → V_X_isHour x2 I22 (fun z23 I24 => (¬ z23 = 0 → (I24 1 7 ≤ x2 → (0 ≤ z21 ∧ z21 < 200) ∧ (¬ I24 (1 + 5 + 3) z21 = x2 → V_Hi_remember 1 I24 (fun I26 => V_Ca_putOff 1 z21 x2 I26 (fun I27 => Q (I24 (1 + 5 + 3) z21) I27))) ∧
    (I24 (1 + 5 + 3) z21 = x2 → Q (-3) I24)) ∧
    (x2 < I24 1 7 → Q (-2) I24)) ∧
    (z23 = 0 → Q (-1) I24))))
def V_X_isGap (x0 : Int) (I : Mm) (Q : Int → Mm → Prop) : Prop :=
  (x0 < 1 → Q 0 I) ∧
    (1 ≤ x0 → (999999 < x0 → Q 0 I) ∧
    (x0 ≤ 999999 → Q 1 I))
def V_X_series (x1 : Int) (x2 : Int) (x3 : Int) (x4 : Int) (I : Mm) (Q : Int → Mm → Prop) : Prop :=
  V_Nm_has (1 + 1) x1 I (fun z21 I22 => (z21 = 0 → Q (-1) I22) ∧
    (¬ z21 = 0 → V_X_isGap x2 I22 (fun z23 I24 => (z23 = 0 → Q (-1) I24) ∧
    (¬ z23 = 0 → V_X_isHour x3 I24 (fun z25 I26 => (z25 = 0 → Q (-1) I26) ∧
    (¬ z25 = 0 → (x4 < 1 → Q (-1) I26) ∧
    (1 ≤ x4 → (50 < x4 → Q (-1) I26) ∧
    (x4 ≤ 50 → (I26 1 7 ≤ x3 → V_Ca_hasRoomFor 1 x2 x3 x4 I26 (fun z27 I28 => (¬ z27 = 0 → V_Hi_remember 1 I28 (fun I29 => V_Ca_comesOften 1 x1 x2 x3 x4 I29 (fun z30 I31 => Q z30 I31))) ∧
    (z27 = 0 → Q (-3) I28))) ∧
    (x3 < I26 1 7 → Q (-2) I26)))))))))
def L_Th_pickAll_5 (c : Int) (x1 : Int) (r2 : Int) (Q : Int → Mm → Prop)  : Nat → Int → Int → Mm → Prop
  | 0, _, _, _ => False
  | n + 1, x3, x4, I => (I c 0 ≤ x4 → Q x3 I) ∧
    (x4 < I c 0 → (0 ≤ x4 ∧ x4 < 200) ∧ (¬ I (c + 2) x4 = x1 → r32 (x4 + 1) ∧ L_Th_pickAll_5 c x1 r2 Q n x3 (x4 + 1) I) ∧
    (I (c + 2) x4 = x1 → (200 ≤ x3 → r32 (x4 + 1) ∧ L_Th_pickAll_5 c x1 r2 Q n x3 (x4 + 1) I) ∧
    (x3 < 200 → (0 ≤ x4 ∧ x4 < 200) ∧ (0 ≤ x3 ∧ x3 < 200) ∧ r32 (x3 + 1) ∧ r32 (x4 + 1) ∧ L_Th_pickAll_5 c x1 r2 Q n (x3 + 1) (x4 + 1) (wrM I r2 x3 (I (c + 1) x4)))))
def V_Th_pickAll (c : Int) (x1 : Int) (r2 : Int) (I : Mm) (Q : Int → Mm → Prop) : Prop :=
  ∃ f29 : Nat, L_Th_pickAll_5 c x1 r2 Q f29 0 0 I
def L_Th_lastHourOf_7 (c : Int) (x1 : Int) (Q : Int → Mm → Prop)  : Nat → Int → Mm → Prop
  | 0, _, _ => False
  | n + 1, x2, I => (x2 < 0 → Q (-2) I) ∧
    (0 ≤ x2 → (0 ≤ x2 ∧ x2 < 200) ∧ (¬ I (c + 2) x2 = x1 → r32 (x2 + (-1)) ∧ L_Th_lastHourOf_7 c x1 Q n (x2 + (-1)) I) ∧
    (I (c + 2) x2 = x1 → (0 ≤ x2 ∧ x2 < 200) ∧ Q (I (c + 3) x2) I))
def V_Th_lastHourOf (c : Int) (x1 : Int) (I : Mm) (Q : Int → Mm → Prop) : Prop :=
  r32 (I c 0 - 1) ∧ ∃ f25 : Nat, L_Th_lastHourOf_7 c x1 Q f25 (I c 0 - 1) I
def L_X_shift_79 (x1 : Int) (x2 : Int) (x4 : Int) (Q : Int → Mm → Prop)  : Nat → Int → Mm → Prop
  | 0, _, _ => False
  | n + 1, x5, I => (x4 ≤ x5 → Q x4 I) ∧
    (x5 < x4 → (0 ≤ x5 ∧ x5 < 200) ∧ V_Th_placeOf (1 + 5) (I 235 x5) I (fun z32 I33 => (z32 = -1 → r32 (x5 + 1) ∧ L_X_shift_79 x1 x2 x4 Q n (x5 + 1) I33) ∧
    (¬ z32 = -1 → (0 ≤ z32 ∧ z32 < 200) ∧ r32 (I33 (1 + 5 + 3) z32 + x2) ∧ V_Ca_putOff 1 z32 (I33 (1 + 5 + 3) z32 + x2) I33 (fun I37 => r32 (x5 + 1) ∧ L_X_shift_79 x1 x2 x4 Q n (x5 + 1) I37))))
def V_X_shift (x1 : Int) (x2 : Int) (I : Mm) (Q : Int → Mm → Prop) : Prop :=
  V_Nm_has (1 + 1) x1 I (fun z21 I22 => (z21 = 0 → Q (-1) I22) ∧
    (¬ z21 = 0 → V_X_isGap x2 I22 (fun z23 I24 => (¬ z23 = 0 → V_Th_pickAll (1 + 5) x1 235 I24 (fun z25 I26 => (¬ z25 = 0 → V_Th_lastHourOf (1 + 5) x1 I26 (fun z27 I28 => r32 (z27 + x2) ∧ (z27 + x2 ≤ 999999999 → V_Hi_remember 1 I28 (fun I30 => ∃ f39 : Nat, L_X_shift_79 x1 x2 z25 Q f39 0 I30)) ∧
    (999999999 < z27 + x2 → Q (-3) I28))) ∧
    (z25 = 0 → Q (-2) I26))) ∧
    (z23 = 0 → Q (-1) I24))))
def L_Th_rename_5 (c : Int) (x1 : Int) (x2 : Int) (Q : Int → Mm → Prop)  : Nat → Int → Int → Mm → Prop
  | 0, _, _, _ => False
  | n + 1, x3, x4, I => (I c 0 ≤ x4 → Q x3 I) ∧
    (x4 < I c 0 → (0 ≤ x4 ∧ x4 < 200) ∧ (¬ I (c + 2) x4 = x1 → r32 (x4 + 1) ∧ L_Th_rename_5 c x1 x2 Q n x3 (x4 + 1) I) ∧
    (I (c + 2) x4 = x1 → (0 ≤ x4 ∧ x4 < 200) ∧ r32 (x3 + 1) ∧ r32 (x4 + 1) ∧ L_Th_rename_5 c x1 x2 Q n (x3 + 1) (x4 + 1) (wrM I (c + 2) x4 x2)))
def V_Th_rename (c : Int) (x1 : Int) (x2 : Int) (I : Mm) (Q : Int → Mm → Prop) : Prop :=
  ∃ f27 : Nat, L_Th_rename_5 c x1 x2 Q f27 0 0 I
def V_X_merge (x1 : Int) (x2 : Int) (I : Mm) (Q : Int → Mm → Prop) : Prop :=
  V_Nm_has (1 + 1) x1 I (fun z21 I22 => (z21 = 0 → Q (-1) I22) ∧
    (¬ z21 = 0 → V_Nm_has (1 + 1) x2 I22 (fun z23 I24 => (z23 = 0 → Q (-1) I24) ∧
    (¬ z23 = 0 → (¬ x1 = x2 → V_Th_countOf (1 + 5) x1 I24 (fun z25 I26 => (¬ z25 = 0 → V_Hi_remember 1 I26 (fun I27 => V_Th_rename (1 + 5) x1 x2 I27 (fun z28 I29 => Q z28 I29))) ∧
    (z25 = 0 → Q (-2) I26))) ∧
    (x1 = x2 → Q (-1) I24)))))
def V_Th_firstFrom (c : Int) (x1 : Int) (I : Mm) (Q : Int → Mm → Prop) : Prop :=
  V_Th_placeFor c (-1) x1 I (fun z21 I22 => Q z21 I22)
def L_X_cut_55 (x1 : Int) (x2 : Int) (x3 : Int) (Q : Int → Mm → Prop)  : Nat → Int → Mm → Prop
  | 0, _, _ => False
  | n + 1, x4, I => (x3 ≤ x4 → Q x3 I) ∧
    (x4 < x3 → V_Ca_cancelAt 1 x2 I (fun I27 => r32 (x4 + 1) ∧ L_X_cut_55 x1 x2 x3 Q n (x4 + 1) I27))
def V_X_cut (x1 : Int) (I : Mm) (Q : Int → Mm → Prop) : Prop :=
  V_X_isHour x1 I (fun z21 I22 => (¬ z21 = 0 → V_Th_firstFrom (1 + 5) x1 I22 (fun z23 I24 => r32 (I24 (1 + 5) 0 - z23) ∧ (¬ I24 (1 + 5) 0 - z23 = 0 → V_Hi_remember 1 I24 (fun I26 => ∃ f29 : Nat, L_X_cut_55 x1 z23 (I24 (1 + 5) 0 - z23) Q f29 0 I26)) ∧
    (I24 (1 + 5) 0 - z23 = 0 → Q (-2) I24))) ∧
    (z21 = 0 → Q (-1) I22))
def V_X_swap (x1 : Int) (x2 : Int) (I : Mm) (Q : Int → Mm → Prop) : Prop :=
  V_Th_placeOf (1 + 5) x1 I (fun z21 I22 => V_Th_placeOf (1 + 5) x2 I22 (fun z23 I24 => (z21 = -1 → Q (-1) I24) ∧
    (¬ z21 = -1 → (z23 = -1 → Q (-1) I24) ∧
    (¬ z23 = -1 → (¬ z21 = z23 → (0 ≤ z21 ∧ z21 < 200) ∧ (0 ≤ z23 ∧ z23 < 200) ∧ (¬ I24 (1 + 5 + 3) z21 = I24 (1 + 5 + 3) z23 → (0 ≤ z21 ∧ z21 < 200) ∧ (0 ≤ z23 ∧ z23 < 200) ∧ V_Hi_remember 1 I24 (fun I29 => V_Ca_goes 1 z21 I29 (fun I30 => V_Th_placeOf (1 + 5) x2 I30 (fun z31 I32 => V_Ca_goes 1 z31 I32 (fun I33 => V_Ca_comes 1 x1 (I24 (1 + 5 + 2) z21) (I24 (1 + 5 + 3) z23) I33 (fun I34 => V_Ca_comes 1 x2 (I24 (1 + 5 + 2) z23) (I24 (1 + 5 + 3) z21) I34 (fun I35 => Q 1 I35))))))) ∧
    (I24 (1 + 5 + 3) z21 = I24 (1 + 5 + 3) z23 → Q (-2) I24)) ∧
    (z21 = z23 → Q (-1) I24)))))
def V_X_rule (x1 : Int) (x2 : Int) (x3 : Int) (I : Mm) (Q : Int → Mm → Prop) : Prop :=
  V_Nm_has (1 + 1) x1 I (fun z21 I22 => (z21 = 0 → Q (-1) I22) ∧
    (¬ z21 = 0 → V_Nm_has (1 + 1) x2 I22 (fun z23 I24 => (z23 = 0 → Q (-1) I24) ∧
    (¬ z23 = 0 → V_X_isGap x3 I24 (fun z25 I26 => (¬ z25 = 0 → (I26 (1 + 9) 0 < 12 → V_Hi_remember 1 I26 (fun I27 => V_Ru_add (1 + 9) x1 x2 x3 I27 (fun z28 I29 => Q z28 I29))) ∧
    (12 ≤ I26 (1 + 9) 0 → Q (-2) I26)) ∧
    (z25 = 0 → Q (-1) I26))))))
def V_Ru_has (c : Int) (x1 : Int) (I : Mm) (Q : Int → Mm → Prop) : Prop :=
  (x1 < 0 → Q 0 I) ∧
    (0 ≤ x1 → (I c 0 ≤ x1 → Q 0 I) ∧
    (x1 < I c 0 → Q 1 I))
def L_Ru_removeAt_21 (c : Int) (x1 : Int) (Q : Mm → Prop)  : Nat → Int → Mm → Prop
  | 0, _, _ => False
  | n + 1, x2, I => (I c 0 ≤ x2 → Q I) ∧
    (x2 < I c 0 → (0 ≤ (x2 + 1) ∧ (x2 + 1) < 12) ∧ (0 ≤ x2 ∧ x2 < 12) ∧ (0 ≤ (x2 + 1) ∧ (x2 + 1) < 12) ∧ (0 ≤ x2 ∧ x2 < 12) ∧ (0 ≤ (x2 + 1) ∧ (x2 + 1) < 12) ∧ (0 ≤ x2 ∧ x2 < 12) ∧ r32 (x2 + 1) ∧ L_Ru_removeAt_21 c x1 Q n (x2 + 1) (wrM ((wrM ((wrM I (c + 1) x2 (I (c + 1) (x2 + 1)))) (c + 2) x2 ((wrM I (c + 1) x2 (I (c + 1) (x2 + 1))) (c + 2) (x2 + 1)))) (c + 3) x2 ((wrM ((wrM I (c + 1) x2 (I (c + 1) (x2 + 1)))) (c + 2) x2 ((wrM I (c + 1) x2 (I (c + 1) (x2 + 1))) (c + 2) (x2 + 1))) (c + 3) (x2 + 1))))
def V_Ru_removeAt (c : Int) (x1 : Int) (I : Mm) (Q : Mm → Prop) : Prop :=
  V_Ru_has c x1 I (fun z21 I22 => (¬ z21 = 0 → r32 (I22 c 0 - 1) ∧ ∃ f35 : Nat, L_Ru_removeAt_21 c x1 Q f35 x1 (wrM I22 c 0 (I22 c 0 - 1))) ∧
    (z21 = 0 → Q I22))
def V_X_unrule (x1 : Int) (I : Mm) (Q : Int → Mm → Prop) : Prop :=
  V_Ru_has (1 + 9) x1 I (fun z21 I22 => (¬ z21 = 0 → V_Hi_remember 1 I22 (fun I23 => V_Ru_removeAt (1 + 9) x1 I23 (fun I24 => Q (I24 (1 + 9) 0) I24))) ∧
    (z21 = 0 → Q (-1) I22))
def V_X_isWidth (x0 : Int) (I : Mm) (Q : Int → Mm → Prop) : Prop :=
  (x0 < 1 → Q 0 I) ∧
    (1 ≤ x0 → (99999999 < x0 → Q 0 I) ∧
    (x0 ≤ 99999999 → Q 1 I))
def J_X_resize_43 (x1 : Int) (x2 : Int) (Q : Int → Mm → Prop)  (x3 : Int) (I : Mm) : Prop :=
  V_Hi_remember 1 I (fun I25 => V_Ca_lay 1 x1 x2 I25 (fun I26 => Q x3 I26))
def V_X_resize (x1 : Int) (x2 : Int) (I : Mm) (Q : Int → Mm → Prop) : Prop :=
  V_X_isRows x1 I (fun z21 I22 => (z21 = 0 → Q (-1) I22) ∧
    (¬ z21 = 0 → V_X_isWidth x2 I22 (fun z23 I24 => (¬ z23 = 0 → (¬ x1 = I24 1 5 → J_X_resize_43 x1 x2 Q (I24 1 5) I24) ∧
    (x1 = I24 1 5 → (¬ x2 = I24 1 6 → J_X_resize_43 x1 x2 Q (I24 1 5) I24) ∧
    (x2 = I24 1 6 → Q (-2) I24))) ∧
    (z23 = 0 → Q (-1) I24))))
def V_Hi_bringBack (c1 : Int) (I : Mm) (Q : Mm → Prop) : Prop :=
  (1 ≤ I 39 0 → r32 ((I 39 1 + 10) - 1) ∧ (0 ≤ ((I 39 1 + 10) - 1)) ∧ (0 ≤ (wrM I 39 1 (((I 39 1 + 10) - 1) % 10)) 39 1 ∧ (wrM I 39 1 (((I 39 1 + 10) - 1) % 10)) 39 1 < 10) ∧ V_Ca_copyFrom c1 (41 + 16 * (wrM I 39 1 (((I 39 1 + 10) - 1) % 10)) 39 1) ((wrM I 39 1 (((I 39 1 + 10) - 1) % 10))) (fun I25 => r32 (I25 39 0 - 1) ∧ Q ((wrM I25 39 0 (I25 39 0 - 1))))) ∧
    (I 39 0 < 1 → Q I)
def V_X_undo  (I : Mm) (Q : Int → Mm → Prop) : Prop :=
  (1 ≤ I 39 0 → V_Hi_bringBack 1 I (fun I21 => Q (I21 39 0) I21)) ∧
    (I 39 0 < 1 → Q (-1) I)
def V_X_isShelf (x0 : Int) (I : Mm) (Q : Int → Mm → Prop) : Prop :=
  (x0 < 0 → Q 0 I) ∧
    (0 ≤ x0 → (2 ≤ x0 → Q 0 I) ∧
    (x0 < 2 → Q 1 I))
def V_X_keep (x1 : Int) (I : Mm) (Q : Int → Mm → Prop) : Prop :=
  V_X_isShelf x1 I (fun z21 I22 => (¬ z21 = 0 → (0 ≤ x1 ∧ x1 < 2) ∧ V_Ca_copyFrom (202 + 16 * x1) 1 I22 (fun I24 => Q ((wrM I24 0 10 (bOr (I24 0 10) (bShl 1 x1))) (1 + 5) 0) ((wrM I24 0 10 (bOr (I24 0 10) (bShl 1 x1)))))) ∧
    (z21 = 0 → Q (-1) I22))
def V_X_isKept (x1 : Int) (I : Mm) (Q : Int → Mm → Prop) : Prop :=
  (¬ bAnd (bShr (I 0 10) x1) 1 = 1 → Q 0 I) ∧
    (bAnd (bShr (I 0 10) x1) 1 = 1 → Q 1 I)
def V_X_back (x1 : Int) (I : Mm) (Q : Int → Mm → Prop) : Prop :=
  V_X_isShelf x1 I (fun z21 I22 => (¬ z21 = 0 → V_X_isKept x1 I22 (fun z23 I24 => (¬ z23 = 0 → (0 ≤ x1 ∧ x1 < 2) ∧ V_Ca_copyFrom 1 (202 + 16 * x1) I24 (fun I26 => V_Hi_forget I26 (fun I27 => Q (I27 (1 + 5) 0) I27))) ∧
    (z23 = 0 → Q (-2) I24))) ∧
    (z21 = 0 → Q (-1) I22))
def V_X_rowOf (x0 : Int) (x1 : Int) (x2 : Int) (I : Mm) (Q : Int → Mm → Prop) : Prop :=
  (x1 < 1 → Q 0 I) ∧
    (1 ≤ x1 → (0 ≤ x0 → V_X_dayOf x0 x2 I (fun z21 I22 => (0 ≤ z21 ∧ 0 < x1) ∧ Q (z21 % x1) I22)) ∧
    (x0 < 0 → Q 0 I))
def V_Ca_rowAt (c : Int) (x1 : Int) (I : Mm) (Q : Int → Mm → Prop) : Prop :=
  V_Th_has (c + 5) x1 I (fun z21 I22 => (¬ z21 = 0 → (0 ≤ x1 ∧ x1 < 200) ∧ V_X_rowOf (I22 (c + 5 + 3) x1) (I22 c 5) (I22 c 6) I22 (fun z24 I25 => Q z24 I25)) ∧
    (z21 = 0 → Q (-1) I22))
def V_X_next (x1 : Int) (x2 : Int) (I : Mm) (Q : Int → Mm → Prop) : Prop :=
  V_Th_has (1 + 5) x1 I (fun z21 I22 => (¬ z21 = 0 → (x2 = 0 → (0 ≤ x1 ∧ x1 < 200) ∧ Q (I22 (1 + 5 + 1) x1) I22) ∧
    (x2 = 1 → (0 ≤ x1 ∧ x1 < 200) ∧ Q (I22 (1 + 5 + 2) x1) I22) ∧
    (x2 = 2 → (0 ≤ x1 ∧ x1 < 200) ∧ Q (I22 (1 + 5 + 3) x1) I22) ∧
    (x2 = 3 → V_Ca_rowAt 1 x1 I22 (fun z26 I27 => Q z26 I27)) ∧
    (x2 < 0 ∨ 3 < x2 → Q (-1) I22)) ∧
    (z21 = 0 → Q (-1) I22))
def L_Ca_countInRow_5 (c : Int) (x1 : Int) (x2 : Int) (Q : Int → Mm → Prop)  : Nat → Int → Int → Mm → Prop
  | 0, _, _, _ => False
  | n + 1, x3, x4, I => (x2 ≤ x4 → Q x3 I) ∧
    (x4 < x2 → V_Ca_rowAt c x4 I (fun z21 I22 => (¬ z21 = x1 → r32 (x4 + 1) ∧ L_Ca_countInRow_5 c x1 x2 Q n x3 (x4 + 1) I22) ∧
    (z21 = x1 → r32 (x3 + 1) ∧ r32 (x4 + 1) ∧ L_Ca_countInRow_5 c x1 x2 Q n (x3 + 1) (x4 + 1) I22)))
def V_Ca_countInRow (c : Int) (x1 : Int) (x2 : Int) (I : Mm) (Q : Int → Mm → Prop) : Prop :=
  ∃ f26 : Nat, L_Ca_countInRow_5 c x1 x2 Q f26 0 0 I
def V_X_of (x1 : Int) (x2 : Int) (I : Mm) (Q : Int → Mm → Prop) : Prop :=
  V_Th_placeOf (1 + 5) x1 I (fun z21 I22 => (¬ z21 = -1 → (x2 = 0 → Q z21 I22) ∧
    (x2 = 1 → (0 ≤ z21 ∧ z21 < 200) ∧ Q (I22 (1 + 5 + 2) z21) I22) ∧
    (x2 = 2 → (0 ≤ z21 ∧ z21 < 200) ∧ Q (I22 (1 + 5 + 3) z21) I22) ∧
    (x2 = 3 → V_Ca_rowAt 1 z21 I22 (fun z25 I26 => Q z25 I26)) ∧
    (x2 = 4 → V_Ca_rowAt 1 z21 I22 (fun z27 I28 => V_Ca_countInRow 1 z27 z21 I28 (fun z29 I30 => Q z29 I30))) ∧
    (x2 < 0 ∨ 4 < x2 → Q (-1) I22)) ∧
    (z21 = -1 → Q (-1) I22))
def L_Ca_placeInRow_5 (c : Int) (x1 : Int) (x2 : Int) (Q : Int → Mm → Prop)  : Nat → Int → Int → Mm → Prop
  | 0, _, _, _ => False
  | n + 1, x3, x4, I => (I (c + 5) 0 ≤ x4 → Q (-1) I) ∧
    (x4 < I (c + 5) 0 → V_Ca_rowAt c x4 I (fun z21 I22 => (¬ z21 = x1 → r32 (x4 + 1) ∧ L_Ca_placeInRow_5 c x1 x2 Q n x3 (x4 + 1) I22) ∧
    (z21 = x1 → (¬ x3 = x2 → r32 (x3 + 1) ∧ r32 (x4 + 1) ∧ L_Ca_placeInRow_5 c x1 x2 Q n (x3 + 1) (x4 + 1) I22) ∧
    (x3 = x2 → Q x4 I22))))
def V_Ca_placeInRow (c : Int) (x1 : Int) (x2 : Int) (I : Mm) (Q : Int → Mm → Prop) : Prop :=
  ∃ f26 : Nat, L_Ca_placeInRow_5 c x1 x2 Q f26 0 0 I
def V_X_row (x1 : Int) (x2 : Int) (I : Mm) (Q : Int → Mm → Prop) : Prop :=
  (x1 < 0 → Q (-1) I) ∧
    (0 ≤ x1 → (I 1 5 ≤ x1 → Q (-1) I) ∧
    (x1 < I 1 5 → (-1 ≤ x2 → (¬ x2 = -1 → V_Ca_placeInRow 1 x1 x2 I (fun z21 I22 => (¬ z21 = -1 → (0 ≤ z21 ∧ z21 < 200) ∧ Q (I22 (1 + 5 + 1) z21) I22) ∧
    (z21 = -1 → Q (-2) I22))) ∧
    (x2 = -1 → V_Ca_countInRow 1 x1 (I (1 + 5) 0) I (fun z24 I25 => Q z24 I25))) ∧
    (x2 < -1 → Q (-1) I)))
def L_X_lettersIn_4 (x0 : Int) (Q : Int → Mm → Prop)  : Nat → Int → Int → Mm → Prop
  | 0, _, _, _ => False
  | n + 1, x1, x2, I => (6 ≤ x2 → Q x1 I) ∧
    (x2 < 6 → (bAnd (bShr x0 (x2 * 5)) 31 = 0 → r32 (x2 + 1) ∧ L_X_lettersIn_4 x0 Q n x1 (x2 + 1) I) ∧
    (¬ bAnd (bShr x0 (x2 * 5)) 31 = 0 → r32 (x1 + 1) ∧ r32 (x2 + 1) ∧ L_X_lettersIn_4 x0 Q n (x1 + 1) (x2 + 1) I))
def V_X_lettersIn (x0 : Int) (I : Mm) (Q : Int → Mm → Prop) : Prop :=
  ∃ f24 : Nat, L_X_lettersIn_4 x0 Q f24 0 0 I
def V_X_letterAt (x0 : Int) (x1 : Int) (I : Mm) (Q : Int → Mm → Prop) : Prop :=
  V_X_lettersIn x0 I (fun z21 I22 => (x1 < 0 → Q (-1) I22) ∧
    (0 ≤ x1 → (x1 < z21 → r32 ((bAnd (bShr x0 (((z21 - 1) - x1) * 5)) 31 + 97) - 1) ∧ Q ((bAnd (bShr x0 (((z21 - 1) - x1) * 5)) 31 + 97) - 1) I22) ∧
    (z21 ≤ x1 → Q (-1) I22)))
def V_X_letter (x1 : Int) (x2 : Int) (I : Mm) (Q : Int → Mm → Prop) : Prop :=
  V_Nm_has (1 + 1) x1 I (fun z21 I22 => (z21 = 0 → Q (-1) I22) ∧
    (¬ z21 = 0 → (0 ≤ x1 ∧ x1 < 16) ∧ V_X_letterAt (I22 (1 + 1 + 1) x1) x2 I22 (fun z24 I25 => Q z24 I25)))
def V_Th_firstHourOf (c : Int) (x1 : Int) (I : Mm) (Q : Int → Mm → Prop) : Prop :=
  V_Th_firstOf c x1 I (fun z21 I22 => (¬ z21 = -1 → (0 ≤ z21 ∧ z21 < 200) ∧ Q (I22 (c + 3) z21) I22) ∧
    (z21 = -1 → Q (-2) I22))
def L_Ru_countOf_4 (c : Int) (x1 : Int) (Q : Int → Mm → Prop)  : Nat → Int → Int → Mm → Prop
  | 0, _, _, _ => False
  | n + 1, x2, x3, I => (I c 0 ≤ x3 → Q x2 I) ∧
    (x3 < I c 0 → (0 ≤ x3 ∧ x3 < 12) ∧ (¬ I (c + 1) x3 = x1 → r32 (x3 + 1) ∧ L_Ru_countOf_4 c x1 Q n x2 (x3 + 1) I) ∧
    (I (c + 1) x3 = x1 → r32 (x2 + 1) ∧ r32 (x3 + 1) ∧ L_Ru_countOf_4 c x1 Q n (x2 + 1) (x3 + 1) I))
def V_Ru_countOf (c : Int) (x1 : Int) (I : Mm) (Q : Int → Mm → Prop) : Prop :=
  ∃ f25 : Nat, L_Ru_countOf_4 c x1 Q f25 0 0 I
def V_X_named (x1 : Int) (x2 : Int) (I : Mm) (Q : Int → Mm → Prop) : Prop :=
  V_Nm_has (1 + 1) x1 I (fun z21 I22 => (¬ z21 = 0 → (x2 = 0 → V_Th_countOf (1 + 5) x1 I22 (fun z23 I24 => Q z23 I24)) ∧
    (x2 = 1 → V_Th_firstHourOf (1 + 5) x1 I22 (fun z25 I26 => Q z25 I26)) ∧
    (x2 = 2 → (0 ≤ x1 ∧ x1 < 16) ∧ Q (I22 (1 + 1 + 2) x1) I22) ∧
    (x2 = 3 → V_Ru_countOf (1 + 9) x1 I22 (fun z28 I29 => Q z28 I29)) ∧
    (x2 = 4 → (0 ≤ x1 ∧ x1 < 16) ∧ Q (I22 (1 + 1 + 3) x1) I22) ∧
    (x2 < 0 ∨ 4 < x2 → Q (-1) I22)) ∧
    (z21 = 0 → Q (-1) I22))
def V_X_ruled (x1 : Int) (x2 : Int) (I : Mm) (Q : Int → Mm → Prop) : Prop :=
  V_Ru_has (1 + 9) x1 I (fun z21 I22 => (¬ z21 = 0 → (x2 = 0 → (0 ≤ x1 ∧ x1 < 12) ∧ Q (I22 (1 + 9 + 1) x1) I22) ∧
    (x2 = 1 → (0 ≤ x1 ∧ x1 < 12) ∧ Q (I22 (1 + 9 + 2) x1) I22) ∧
    (x2 = 2 → (0 ≤ x1 ∧ x1 < 12) ∧ Q (I22 (1 + 9 + 3) x1) I22) ∧
    (x2 < 0 ∨ 2 < x2 → Q (-1) I22)) ∧
    (z21 = 0 → Q (-1) I22))
def V_Lo_at (c : Int) (x1 : Int) (x2 : Int) (I : Mm) (Q : Int → Mm → Prop) : Prop :=
  (x1 < 0 → Q (-1) I) ∧
    (0 ≤ x1 → (I c 0 ≤ x1 → Q (-1) I) ∧
    (x1 < I c 0 → (x2 < 0 → Q (-1) I) ∧
    (0 ≤ x2 → (x2 < 4 → r32 (((I c 1 + 50) - 1) - x1) ∧ (0 ≤ (((I c 1 + 50) - 1) - x1)) ∧ ∀ y23 : Int, y23 = (((I c 1 + 50) - 1) - x1) % 50 → (0 ≤ ((y23 * 4) + x2) ∧ ((y23 * 4) + x2) < 200) ∧ Q (I (c + 1) ((y23 * 4) + x2)) I) ∧
    (4 ≤ x2 → Q (-1) I))))
def V_X_log (x1 : Int) (x2 : Int) (I : Mm) (Q : Int → Mm → Prop) : Prop :=
  V_Lo_at (1 + 13) x1 x2 I (fun z21 I22 => Q z21 I22)
def V_X_total (x1 : Int) (I : Mm) (Q : Int → Mm → Prop) : Prop :=
  (x1 < 0 → Q (-1) I) ∧
    (0 ≤ x1 → (x1 < 8 → (0 ≤ x1 ∧ x1 < 8) ∧ Q (I (1 + 15) x1) I) ∧
    (8 ≤ x1 → Q (-1) I))
def L_X_skewIn_11 (x1 : Int) (x2 : Int) (x3 : Int) (x4 : Int) (Q : Int → Mm → Prop) (K32 : Mm → Prop) : Nat → Int → Mm → Prop
  | 0, _, _ => False
  | n + 1, x5, I => (x4 ≤ x5 → K32 I) ∧
    (x5 < x4 → (0 ≤ x5 ∧ x5 < 64) ∧ r32 (x5 + 1) ∧ L_X_skewIn_11 x1 x2 x3 x4 Q K32 n (x5 + 1) (wrM I 234 x5 0))
def L_X_skewIn_35 (x1 : Int) (x2 : Int) (x3 : Int) (x4 : Int) (Q : Int → Mm → Prop) (K84 : Mm → Prop) : Nat → Int → Mm → Prop
  | 0, _, _ => False
  | n + 1, x5, I => (I (1 + 5) 0 ≤ x5 → K84 I) ∧
    (x5 < I (1 + 5) 0 → (0 ≤ x5 ∧ x5 < 200) ∧ V_X_rowOf (I (1 + 5 + 3) x5) x4 x2 I (fun z26 I27 => (0 ≤ z26 ∧ z26 < 64) ∧ (0 ≤ z26 ∧ z26 < 64) ∧ r32 (I27 234 z26 + 1) ∧ r32 (x5 + 1) ∧ L_X_skewIn_35 x1 x2 x3 x4 Q K84 n (x5 + 1) (wrM I27 234 z26 (I27 234 z26 + 1))))
def L_X_skewIn_93 (x1 : Int) (x2 : Int) (x3 : Int) (x4 : Int) (Q : Int → Mm → Prop)  : Nat → Int → Int → Int → Mm → Prop
  | 0, _, _, _, _ => False
  | n + 1, x5, x6, x7, I => (x4 ≤ x7 → (x3 = 0 → (0 ≤ x5 ∧ x5 < 64) ∧ Q (I 234 x5) I) ∧
    (x3 = 1 → Q x5 I) ∧
    (¬ x3 = 0 ∧ ¬ x3 = 1 → Q x6 I)) ∧
    (x7 < x4 → (0 ≤ x7 ∧ x7 < 64) ∧ (0 ≤ x5 ∧ x5 < 64) ∧ (I 234 x7 ≤ I 234 x5 → (0 ≤ x7 ∧ x7 < 64) ∧ (¬ I 234 x7 = 0 → r32 (x7 + 1) ∧ L_X_skewIn_93 x1 x2 x3 x4 Q n x5 x6 (x7 + 1) I) ∧
    (I 234 x7 = 0 → r32 (x6 + 1) ∧ r32 (x7 + 1) ∧ L_X_skewIn_93 x1 x2 x3 x4 Q n x5 (x6 + 1) (x7 + 1) I)) ∧
    (I 234 x5 < I 234 x7 → (0 ≤ x7 ∧ x7 < 64) ∧ (¬ I 234 x7 = 0 → r32 (x7 + 1) ∧ L_X_skewIn_93 x1 x2 x3 x4 Q n x7 x6 (x7 + 1) I) ∧
    (I 234 x7 = 0 → r32 (x6 + 1) ∧ r32 (x7 + 1) ∧ L_X_skewIn_93 x1 x2 x3 x4 Q n x7 (x6 + 1) (x7 + 1) I)))
def V_X_skewIn (x1 : Int) (x2 : Int) (x3 : Int) (I : Mm) (Q : Int → Mm → Prop) : Prop :=
  ∃ f47 : Nat, L_X_skewIn_11 x1 x2 x3 (min x1 64) Q (fun I24 => ∃ f46 : Nat, L_X_skewIn_35 x1 x2 x3 (min x1 64) Q (fun I33 => ∃ f45 : Nat, L_X_skewIn_93 x1 x2 x3 (min x1 64) Q f45 0 0 0 I33) f46 0 I24) f47 0 I
def L_Th_mostWithin_21 (c : Int) (x1 : Int) (x2 : Int) (x3 : Int) (x4 : Int) (x6 : Int) (Q : Int → Mm → Prop) (K55 : Int → Mm → Prop) : Nat → Int → Mm → Prop
  | 0, _, _ => False
  | n + 1, x5, I => (I c 0 ≤ x5 → K55 x5 I) ∧
    (x5 < I c 0 → (0 ≤ x5 ∧ x5 < 200) ∧ (0 ≤ x6 ∧ x6 < 200) ∧ r32 (I (c + 3) x5 - I (c + 3) x6) ∧ (x1 ≤ I (c + 3) x5 - I (c + 3) x6 → K55 x5 I) ∧
    (I (c + 3) x5 - I (c + 3) x6 < x1 → r32 (x5 + 1) ∧ L_Th_mostWithin_21 c x1 x2 x3 x4 x6 Q K55 n (x5 + 1) I))
def L_Th_mostWithin_12 (c : Int) (x1 : Int) (x2 : Int) (Q : Int → Mm → Prop)  : Nat → Int → Int → Int → Int → Mm → Prop
  | 0, _, _, _, _, _ => False
  | n + 1, x3, x4, x5, x6, I => (I c 0 ≤ x6 → (¬ x2 = 0 → Q x4 I) ∧
    (x2 = 0 → Q x3 I)) ∧
    (x6 < I c 0 → ∃ f32 : Nat, L_Th_mostWithin_21 c x1 x2 x3 x4 x6 Q (fun y25 I26 => r32 (y25 - x6) ∧ (y25 - x6 ≤ x3 → r32 (x6 + 1) ∧ L_Th_mostWithin_12 c x1 x2 Q n x3 x4 y25 (x6 + 1) I26) ∧
    (x3 < y25 - x6 → (0 ≤ x6 ∧ x6 < 200) ∧ r32 (y25 - x6) ∧ r32 (x6 + 1) ∧ L_Th_mostWithin_12 c x1 x2 Q n (y25 - x6) (I26 (c + 3) x6) y25 (x6 + 1) I26)) f32 x5 I)
def V_Th_mostWithin (c : Int) (x1 : Int) (x2 : Int) (I : Mm) (Q : Int → Mm → Prop) : Prop :=
  ∃ f33 : Nat, L_Th_mostWithin_12 c x1 x2 Q f33 0 (-2) 0 0 I
def V_Th_meanGap (c : Int) (I : Mm) (Q : Int → Mm → Prop) : Prop :=
  (2 ≤ I c 0 → (0 ≤ (I c 0 - 1) ∧ (I c 0 - 1) < 200) ∧ r32 (I (c + 3) (I c 0 - 1) - I (c + 3) 0) ∧ r32 (I c 0 - 1) ∧ (0 ≤ (I (c + 3) (I c 0 - 1) - I (c + 3) 0) ∧ 0 < (I c 0 - 1)) ∧ Q ((I (c + 3) (I c 0 - 1) - I (c + 3) 0) / (I c 0 - 1)) I) ∧
    (I c 0 < 2 → Q 0 I)
def V_Th_gapBehind (c : Int) (x1 : Int) (I : Mm) (Q : Int → Mm → Prop) : Prop :=
  (x1 < 0 → Q 0 I) ∧
    (0 ≤ x1 → r32 (x1 + 1) ∧ (x1 + 1 < I c 0 → (0 ≤ (x1 + 1) ∧ (x1 + 1) < 200) ∧ (0 ≤ x1 ∧ x1 < 200) ∧ r32 (I (c + 3) (x1 + 1) - I (c + 3) x1) ∧ Q (I (c + 3) (x1 + 1) - I (c + 3) x1) I) ∧
    (I c 0 ≤ x1 + 1 → Q 0 I))
def L_Th_greatestGap_4 (c : Int) (Q : Int → Mm → Prop)  : Nat → Int → Int → Mm → Prop
  | 0, _, _, _ => False
  | n + 1, x1, x2, I => r32 (x2 + 1) ∧ (I c 0 ≤ x2 + 1 → Q x1 I) ∧
    (x2 + 1 < I c 0 → V_Th_gapBehind c x2 I (fun z22 I23 => r32 (x2 + 1) ∧ L_Th_greatestGap_4 c Q n (max x1 z22) (x2 + 1) I23))
def V_Th_greatestGap (c : Int) (I : Mm) (Q : Int → Mm → Prop) : Prop :=
  ∃ f25 : Nat, L_Th_greatestGap_4 c Q f25 0 0 I
def V_X_skew (x1 : Int) (I : Mm) (Q : Int → Mm → Prop) : Prop :=
  (x1 = 0 → V_X_skewIn (I 1 5) (I 1 6) x1 I (fun z21 I22 => Q z21 I22)) ∧
    (x1 = 1 → V_X_skewIn (I 1 5) (I 1 6) x1 I (fun z23 I24 => Q z23 I24)) ∧
    (x1 = 2 → V_X_skewIn (I 1 5) (I 1 6) x1 I (fun z25 I26 => Q z25 I26)) ∧
    (x1 = 3 → V_Th_mostWithin (1 + 5) 1 0 I (fun z27 I28 => Q z27 I28)) ∧
    (x1 = 4 → V_Th_meanGap (1 + 5) I (fun z29 I30 => Q z29 I30)) ∧
    (x1 = 5 → V_Th_greatestGap (1 + 5) I (fun z31 I32 => Q z31 I32)) ∧
    (x1 < 0 ∨ 5 < x1 → Q (-1) I)
def V_X_looks  (I : Mm) (Q : Int → Mm → Prop) : Prop :=
  (1 ≤ I (1 + 5) 0 → V_X_looksFrom (I 1 7) (I (1 + 5 + 3) 0) (I 1 5) (I 1 6) I (fun z21 I22 => Q z21 I22)) ∧
    (I (1 + 5) 0 < 1 → Q (-2) I)
def L_Ca_looksForAll_11 (c : Int) (x1 : Int) (x2 : Int) (Q : Int → Mm → Prop)  : Nat → Int → Int → Int → Mm → Prop
  | 0, _, _, _, _ => False
  | n + 1, x3, x4, x5, I => (I (c + 5) 0 ≤ x5 → Q x3 I) ∧
    (x5 < I (c + 5) 0 → (0 ≤ x5 ∧ x5 < 200) ∧ V_X_looksFrom x4 (I (c + 5 + 3) x5) x1 x2 I (fun z22 I23 => (0 ≤ x5 ∧ x5 < 200) ∧ r32 (x3 + z22) ∧ r32 (x5 + 1) ∧ L_Ca_looksForAll_11 c x1 x2 Q n (x3 + z22) (I23 (c + 5 + 3) x5) (x5 + 1) I23))
def V_Ca_looksForAll (c : Int) (x1 : Int) (x2 : Int) (I : Mm) (Q : Int → Mm → Prop) : Prop :=
  ∃ f27 : Nat, L_Ca_looksForAll_11 c x1 x2 Q f27 0 (I c 7) 0 I
def V_X_lookBy (x1 : Int) (x2 : Int) (I : Mm) (Q : Int → Mm → Prop) : Prop :=
  V_X_isRows x1 I (fun z21 I22 => (z21 = 0 → Q (-1) I22) ∧
    (¬ z21 = 0 → V_X_isWidth x2 I22 (fun z23 I24 => (z23 = 0 → Q (-1) I24) ∧
    (¬ z23 = 0 → V_Ca_looksForAll 1 x1 x2 I24 (fun z25 I26 => Q z25 I26)))))
def L_X_best_34 (x1 : Int) (x2 : Int) (Q : Int → Mm → Prop)  : Nat → Int → Int → Int → Mm → Prop
  | 0, _, _, _, _ => False
  | n + 1, x3, x4, x5, I => (67108864 < x5 → (¬ x2 = 0 → Q x4 I) ∧
    (x2 = 0 → Q x3 I)) ∧
    (x5 ≤ 67108864 → V_Ca_looksForAll 1 x1 x5 I (fun z25 I26 => (x4 ≤ z25 → r32 (x5 * 2) ∧ L_X_best_34 x1 x2 Q n x3 x4 (x5 * 2) I26) ∧
    (z25 < x4 → r32 (x5 * 2) ∧ L_X_best_34 x1 x2 Q n x5 z25 (x5 * 2) I26)))
def V_X_best (x1 : Int) (x2 : Int) (I : Mm) (Q : Int → Mm → Prop) : Prop :=
  V_X_isRows x1 I (fun z21 I22 => (z21 = 0 → Q (-1) I22) ∧
    (¬ z21 = 0 → (x2 < 0 → Q (-1) I22) ∧
    (0 ≤ x2 → (x2 ≤ 1 → V_Ca_looksForAll 1 x1 1 I22 (fun z23 I24 => ∃ f29 : Nat, L_X_best_34 x1 x2 Q f29 1 z23 2 I24)) ∧
    (1 < x2 → Q (-1) I22))))
def V_X_widthNow  (I : Mm) (Q : Int → Mm → Prop) : Prop :=
  V_Th_widthAnew (1 + 5) (I 1 6) I (fun z21 I22 => Q z21 I22)
def V_X_ahead (x1 : Int) (x2 : Int) (I : Mm) (Q : Int → Mm → Prop) : Prop :=
  (x1 < 1 → Q (-1) I) ∧
    (1 ≤ x1 → (300 < x1 → Q (-1) I) ∧
    (x1 ≤ 300 → (x2 < 0 → Q (-1) I) ∧
    (0 ≤ x2 → (x2 ≤ 4 → V_Ca_copyFrom 17 1 I (fun I21 => V_Ca_takeSome 17 x1 I21 (fun z22 I23 => (x1 ≤ z22 → (x2 = 3 → Q (I23 (17 + 5) 0) I23) ∧
    (x2 = 4 → r32 (I23 (17 + 15) 0 - I23 (1 + 15) 0) ∧ Q (I23 (17 + 15) 0 - I23 (1 + 15) 0) I23) ∧
    (¬ x2 = 3 ∧ ¬ x2 = 4 → V_Lo_at (17 + 13) 0 x2 I23 (fun z25 I26 => Q z25 I26))) ∧
    (z22 < x1 → Q (-2) I23)))) ∧
    (4 < x2 → Q (-1) I))))
def V_X_between (x1 : Int) (x2 : Int) (I : Mm) (Q : Int → Mm → Prop) : Prop :=
  (x1 < 0 → Q (-1) I) ∧
    (0 ≤ x1 → (x2 ≤ x1 → Q (-1) I) ∧
    (x1 < x2 → (x2 ≤ 1000000000 → V_Th_firstFrom (1 + 5) x2 I (fun z21 I22 => V_Th_firstFrom (1 + 5) x1 I22 (fun z23 I24 => r32 (z21 - z23) ∧ Q (z21 - z23) I24))) ∧
    (1000000000 < x2 → Q (-1) I)))
def V_X_isSpan (x0 : Int) (I : Mm) (Q : Int → Mm → Prop) : Prop :=
  (x0 < 1 → Q 0 I) ∧
    (1 ≤ x0 → (999999999 < x0 → Q 0 I) ∧
    (x0 ≤ 999999999 → Q 1 I))
def V_X_crowd (x1 : Int) (x2 : Int) (I : Mm) (Q : Int → Mm → Prop) : Prop :=
  V_X_isSpan x1 I (fun z21 I22 => (z21 = 0 → Q (-1) I22) ∧
    (¬ z21 = 0 → (x2 < 0 → Q (-1) I22) ∧
    (0 ≤ x2 → (x2 ≤ 1 → V_Th_mostWithin (1 + 5) x1 x2 I22 (fun z23 I24 => Q z23 I24)) ∧
    (1 < x2 → Q (-1) I22))))
def V_X_takenInTrial (x1 : Int) (I : Mm) (Q : Int → Mm → Prop) : Prop :=
  (x1 < 0 → Q 0 I) ∧
    (0 ≤ x1 → (x1 < 16 → (0 ≤ x1 ∧ x1 < 16) ∧ (0 ≤ x1 ∧ x1 < 16) ∧ r32 (I (17 + 1 + 2) x1 - I (1 + 1 + 2) x1) ∧ Q (I (17 + 1 + 2) x1 - I (1 + 1 + 2) x1) I) ∧
    (16 ≤ x1 → Q 0 I))
def L_X_busiest_65 (x1 : Int) (x2 : Int) (Q : Int → Mm → Prop)  : Nat → Int → Int → Mm → Prop
  | 0, _, _, _ => False
  | n + 1, x3, x4, I => (I (17 + 1) 0 ≤ x4 → (¬ x2 = 0 → V_X_takenInTrial x3 I (fun z24 I25 => Q z24 I25)) ∧
    (x2 = 0 → Q x3 I)) ∧
    (x4 < I (17 + 1) 0 → V_X_takenInTrial x4 I (fun z26 I27 => V_X_takenInTrial x3 I27 (fun z28 I29 => (z26 ≤ z28 → r32 (x4 + 1) ∧ L_X_busiest_65 x1 x2 Q n x3 (x4 + 1) I29) ∧
    (z28 < z26 → r32 (x4 + 1) ∧ L_X_busiest_65 x1 x2 Q n x4 (x4 + 1) I29))))
def V_X_busiest (x1 : Int) (x2 : Int) (I : Mm) (Q : Int → Mm → Prop) : Prop :=
  (x1 < 1 → Q (-1) I) ∧
    (1 ≤ x1 → (300 < x1 → Q (-1) I) ∧
    (x1 ≤ 300 → (x2 < 0 → Q (-1) I) ∧
    (0 ≤ x2 → (x2 ≤ 1 → (1 ≤ I (1 + 5) 0 → V_Ca_copyFrom 17 1 I (fun I21 => V_Ca_takeSome 17 x1 I21 (fun z22 I23 => ∃ f32 : Nat, L_X_busiest_65 x1 x2 Q f32 0 1 I23))) ∧
    (I (1 + 5) 0 < 1 → Q (-2) I)) ∧
    (1 < x2 → Q (-1) I))))
def V_Wa_priceOf (c1 : Int) (x2 : Int) (I : Mm) (Q : Int → Mm → Prop) : Prop :=
  (0 ≤ x2 ∧ x2 < 12) ∧ r32 ((I (c1 + 3) x2 * 32) + 1) ∧ Q ((I (c1 + 3) x2 * 32) + 1) I
def V_Wa_priceBy (c1 : Int) (x2 : Int) (I : Mm) (Q : Int → Mm → Prop) : Prop :=
  (0 ≤ x2 ∧ x2 < 12) ∧ (I (c1 + 2) x2 < 0 → Q 2000000000 I) ∧
    (0 ≤ I (c1 + 2) x2 → (16 ≤ I (c1 + 2) x2 → Q 2000000000 I) ∧
    (I (c1 + 2) x2 < 16 → (0 ≤ I (c1 + 2) x2 ∧ I (c1 + 2) x2 < 16) ∧ (¬ I 38 (I (c1 + 2) x2) = 2000000000 → (0 ≤ I (c1 + 2) x2 ∧ I (c1 + 2) x2 < 16) ∧ V_Wa_priceOf c1 x2 I (fun z24 I25 => r32 (I 38 (I (c1 + 2) x2) + z24) ∧ Q (I 38 (I (c1 + 2) x2) + z24) I25)) ∧
    (I 38 (I (c1 + 2) x2) = 2000000000 → Q 2000000000 I)))
def V_Wa_lower (x1 : Int) (x2 : Int) (I : Mm) (Q : Mm → Prop) : Prop :=
  (x1 < 0 → Q I) ∧
    (0 ≤ x1 → (16 ≤ x1 → Q I) ∧
    (x1 < 16 → (0 ≤ x1 ∧ x1 < 16) ∧ (0 ≤ x1 ∧ x1 < 16) ∧ Q ((wrM I 38 x1 (min (I 38 x1) x2)))))
def L_Wa_find_3 (c1 : Int) (x2 : Int) (x3 : Int) (Q : Int → Mm → Prop) (K35 : Mm → Prop) : Nat → Int → Mm → Prop
  | 0, _, _ => False
  | n + 1, x4, I => (16 ≤ x4 → K35 I) ∧
    (x4 < 16 → (¬ x4 = x3 → (0 ≤ x4 ∧ x4 < 16) ∧ r32 (x4 + 1) ∧ L_Wa_find_3 c1 x2 x3 Q K35 n (x4 + 1) (wrM I 38 x4 2000000000)) ∧
    (x4 = x3 → (0 ≤ x4 ∧ x4 < 16) ∧ r32 (x4 + 1) ∧ L_Wa_find_3 c1 x2 x3 Q K35 n (x4 + 1) (wrM I 38 x4 0)))
def L_Wa_find_48 (c1 : Int) (x2 : Int) (x3 : Int) (x4 : Int) (Q : Int → Mm → Prop) (K38 : Int → Mm → Prop) : Nat → Int → Mm → Prop
  | 0, _, _ => False
  | n + 1, x5, I => (I c1 0 ≤ x5 → r32 (x4 + 1) ∧ K38 (x4 + 1) I) ∧
    (x5 < I c1 0 → (0 ≤ x5 ∧ x5 < 12) ∧ V_Wa_priceBy c1 x5 I (fun z30 I31 => V_Wa_lower (I (c1 + 1) x5) z30 I31 (fun I32 => r32 (x5 + 1) ∧ L_Wa_find_48 c1 x2 x3 x4 Q K38 n (x5 + 1) I32)))
def L_Wa_find_38 (c1 : Int) (x2 : Int) (x3 : Int) (Q : Int → Mm → Prop) (K87 : Mm → Prop) : Nat → Int → Mm → Prop
  | 0, _, _ => False
  | n + 1, x4, I => (12 ≤ x4 → K87 I) ∧
    (x4 < 12 → ∃ f34 : Nat, L_Wa_find_48 c1 x2 x3 x4 Q (fun x4 I => L_Wa_find_38 c1 x2 x3 Q K87 n x4 I) f34 0 I)
def L_Wa_find_94 (c1 : Int) (x2 : Int) (x3 : Int) (Q : Int → Mm → Prop)  : Nat → Int → Int → Mm → Prop
  | 0, _, _, _ => False
  | n + 1, x4, x5, I => (I c1 0 ≤ x5 → Q x4 I) ∧
    (x5 < I c1 0 → (0 ≤ x5 ∧ x5 < 12) ∧ (¬ I (c1 + 1) x5 = x2 → r32 (x5 + 1) ∧ L_Wa_find_94 c1 x2 x3 Q n x4 (x5 + 1) I) ∧
    (I (c1 + 1) x5 = x2 → V_Wa_priceBy c1 x5 I (fun z38 I39 => r32 (x5 + 1) ∧ L_Wa_find_94 c1 x2 x3 Q n (min x4 z38) (x5 + 1) I39)))
def V_Wa_find (c1 : Int) (x2 : Int) (x3 : Int) (I : Mm) (Q : Int → Mm → Prop) : Prop :=
  ∃ f43 : Nat, L_Wa_find_3 c1 x2 x3 Q (fun I27 => ∃ f42 : Nat, L_Wa_find_38 c1 x2 x3 Q (fun I35 => ∃ f41 : Nat, L_Wa_find_94 c1 x2 x3 Q f41 2000000000 0 I35) f42 0 I27) f43 0 I
def V_Wa_hoursOf (c1 : Int) (x2 : Int) (x3 : Int) (I : Mm) (Q : Int → Mm → Prop) : Prop :=
  V_Wa_find c1 x2 x3 I (fun z21 I22 => (¬ z21 = 2000000000 → (0 ≤ z21) ∧ Q (z21 / 32) I22) ∧
    (z21 = 2000000000 → Q (-2) I22))
def V_X_soonest (x1 : Int) (x2 : Int) (I : Mm) (Q : Int → Mm → Prop) : Prop :=
  V_Nm_has (1 + 1) x1 I (fun z21 I22 => (z21 = 0 → Q (-1) I22) ∧
    (¬ z21 = 0 → V_Nm_has (1 + 1) x2 I22 (fun z23 I24 => (¬ z23 = 0 → V_Wa_hoursOf (1 + 9) x1 x2 I24 (fun z25 I26 => Q z25 I26)) ∧
    (z23 = 0 → Q (-1) I24))))
def V_X_leads (x1 : Int) (x2 : Int) (I : Mm) (Q : Int → Mm → Prop) : Prop :=
  V_X_soonest x1 x2 I (fun z21 I22 => (¬ z21 = -1 → (¬ z21 = -2 → Q 1 I22) ∧
    (z21 = -2 → Q 0 I22)) ∧
    (z21 = -1 → Q (-1) I22))
def L_X_day_38 (x1 : Int) (x2 : Int) (Q : Int → Mm → Prop)  : Nat → Int → Int → Mm → Prop
  | 0, _, _, _ => False
  | n + 1, x3, x4, I => (I (1 + 5) 0 ≤ x4 → Q x3 I) ∧
    (x4 < I (1 + 5) 0 → (0 ≤ x4 ∧ x4 < 200) ∧ V_X_dayOf (I (1 + 5 + 3) x4) (I 1 6) I (fun z24 I25 => (¬ z24 = x2 → r32 (x4 + 1) ∧ L_X_day_38 x1 x2 Q n x3 (x4 + 1) I25) ∧
    (z24 = x2 → r32 (x3 + 1) ∧ r32 (x4 + 1) ∧ L_X_day_38 x1 x2 Q n (x3 + 1) (x4 + 1) I25)))
def V_X_day (x1 : Int) (I : Mm) (Q : Int → Mm → Prop) : Prop :=
  (x1 < 0 → Q (-1) I) ∧
    (0 ≤ x1 → (x1 ≤ 999 → V_X_dayOf (I 1 7) (I 1 6) I (fun z21 I22 => r32 (z21 + x1) ∧ ∃ f30 : Nat, L_X_day_38 x1 (z21 + x1) Q f30 0 0 I22)) ∧
    (999 < x1 → Q (-1) I))
def L_Th_firstFree_9 (c : Int) (x1 : Int) (x2 : Int) (Q : Int → Mm → Prop)  : Nat → Int → Int → Mm → Prop
  | 0, _, _, _ => False
  | n + 1, x3, x4, I => (I c 0 ≤ x4 → Q x3 I) ∧
    (x4 < I c 0 → (0 ≤ x4 ∧ x4 < 200) ∧ r32 (I (c + 3) x4 - x3) ∧ (x1 ≤ I (c + 3) x4 - x3 → Q x3 I) ∧
    (I (c + 3) x4 - x3 < x1 → (0 ≤ x4 ∧ x4 < 200) ∧ r32 (I (c + 3) x4 + 1) ∧ r32 (x4 + 1) ∧ L_Th_firstFree_9 c x1 x2 Q n (I (c + 3) x4 + 1) (x4 + 1) I))
def V_Th_firstFree (c : Int) (x1 : Int) (x2 : Int) (I : Mm) (Q : Int → Mm → Prop) : Prop :=
  V_Th_firstFrom c x2 I (fun z21 I22 => ∃ f28 : Nat, L_Th_firstFree_9 c x1 x2 Q f28 x2 z21 I22)
def V_X_free (x1 : Int) (x2 : Int) (I : Mm) (Q : Int → Mm → Prop) : Prop :=
  V_X_isSpan x1 I (fun z21 I22 => (z21 = 0 → Q (-1) I22) ∧
    (¬ z21 = 0 → V_X_isHour x2 I22 (fun z23 I24 => (¬ z23 = 0 → V_Th_firstFree (1 + 5) x1 x2 I24 (fun z25 I26 => r32 ((z25 + x1) - 1) ∧ ((z25 + x1) - 1 ≤ 999999999 → Q z25 I26) ∧
    (999999999 < (z25 + x1) - 1 → Q (-2) I26))) ∧
    (z23 = 0 → Q (-1) I24))))
def L_Th_closest_16 (c : Int) (Q : Int → Mm → Prop)  : Nat → Int → Int → Mm → Prop
  | 0, _, _, _ => False
  | n + 1, x1, x2, I => r32 (x2 + 1) ∧ (I c 0 ≤ x2 + 1 → Q x1 I) ∧
    (x2 + 1 < I c 0 → V_Th_gapBehind c x2 I (fun z22 I23 => V_Th_gapBehind c x1 I23 (fun z24 I25 => (z24 ≤ z22 → r32 (x2 + 1) ∧ L_Th_closest_16 c Q n x1 (x2 + 1) I25) ∧
    (z22 < z24 → r32 (x2 + 1) ∧ L_Th_closest_16 c Q n x2 (x2 + 1) I25))))
def J_Th_closest_13 (c : Int) (Q : Int → Mm → Prop)  (t0 : Int) (I : Mm) : Prop :=
  ∃ f28 : Nat, L_Th_closest_16 c Q f28 t0 1 I
def V_Th_closest (c : Int) (I : Mm) (Q : Int → Mm → Prop) : Prop :=
  (2 ≤ I c 0 → J_Th_closest_13 c Q 0 I) ∧
    (I c 0 < 2 → J_Th_closest_13 c Q (-1) I)
def V_X_pair (x1 : Int) (I : Mm) (Q : Int → Mm → Prop) : Prop :=
  (x1 < 0 → Q (-1) I) ∧
    (0 ≤ x1 → (x1 ≤ 1 → V_Th_closest (1 + 5) I (fun z21 I22 => (¬ z21 = -1 → (¬ x1 = 0 → (0 ≤ z21 ∧ z21 < 200) ∧ Q (I22 (1 + 5 + 1) z21) I22) ∧
    (x1 = 0 → V_Th_gapBehind (1 + 5) z21 I22 (fun z24 I25 => Q z24 I25))) ∧
    (z21 = -1 → Q (-2) I22))) ∧
    (1 < x1 → Q (-1) I))
def L_X_when_40 (x1 : Int) (x2 : Int) (Q : Int → Mm → Prop)  : Nat → Int → Mm → Prop
  | 0, _, _ => False
  | n + 1, x3, I => (300 ≤ x3 → Q (-2) I) ∧
    (x3 < 300 → (I (17 + 5) 0 ≤ 0 → Q (-2) I) ∧
    (0 < I (17 + 5) 0 → V_Ca_takeFirst 17 I (fun I24 => V_X_takenInTrial x1 I24 (fun z25 I26 => (z25 < x2 → r32 (x3 + 1) ∧ L_X_when_40 x1 x2 Q n (x3 + 1) I26) ∧
    (x2 ≤ z25 → Q (I26 17 7) I26)))))
def V_X_when (x1 : Int) (x2 : Int) (I : Mm) (Q : Int → Mm → Prop) : Prop :=
  V_Nm_has (1 + 1) x1 I (fun z21 I22 => (z21 = 0 → Q (-1) I22) ∧
    (¬ z21 = 0 → (x2 < 1 → Q (-1) I22) ∧
    (1 ≤ x2 → (x2 ≤ 99 → V_Ca_copyFrom 17 1 I22 (fun I23 => ∃ f28 : Nat, L_X_when_40 x1 x2 Q f28 0 I23)) ∧
    (99 < x2 → Q (-1) I22))))
def L_Th_isLike_15 (c : Int) (c1 : Int) (Q : Int → Mm → Prop)  : Nat → Int → Mm → Prop
  | 0, _, _ => False
  | n + 1, x2, I => (I c 0 ≤ x2 → Q 1 I) ∧
    (x2 < I c 0 → (0 ≤ x2 ∧ x2 < 200) ∧ (0 ≤ x2 ∧ x2 < 200) ∧ (¬ I (c + 1) x2 = I (c1 + 1) x2 → Q 0 I) ∧
    (I (c + 1) x2 = I (c1 + 1) x2 → (0 ≤ x2 ∧ x2 < 200) ∧ (0 ≤ x2 ∧ x2 < 200) ∧ (¬ I (c + 2) x2 = I (c1 + 2) x2 → Q 0 I) ∧
    (I (c + 2) x2 = I (c1 + 2) x2 → (0 ≤ x2 ∧ x2 < 200) ∧ (0 ≤ x2 ∧ x2 < 200) ∧ (I (c + 3) x2 = I (c1 + 3) x2 → r32 (x2 + 1) ∧ L_Th_isLike_15 c c1 Q n (x2 + 1) I) ∧
    (¬ I (c + 3) x2 = I (c1 + 3) x2 → Q 0 I))))
def V_Th_isLike (c : Int) (c1 : Int) (I : Mm) (Q : Int → Mm → Prop) : Prop :=
  (I c 0 = I c1 0 → ∃ f28 : Nat, L_Th_isLike_15 c c1 Q f28 0 I) ∧
    (¬ I c 0 = I c1 0 → Q 0 I)
def L_Ru_isLike_15 (c : Int) (c1 : Int) (Q : Int → Mm → Prop)  : Nat → Int → Mm → Prop
  | 0, _, _ => False
  | n + 1, x2, I => (I c 0 ≤ x2 → Q 1 I) ∧
    (x2 < I c 0 → (0 ≤ x2 ∧ x2 < 12) ∧ (0 ≤ x2 ∧ x2 < 12) ∧ (¬ I (c + 1) x2 = I (c1 + 1) x2 → Q 0 I) ∧
    (I (c + 1) x2 = I (c1 + 1) x2 → (0 ≤ x2 ∧ x2 < 12) ∧ (0 ≤ x2 ∧ x2 < 12) ∧ (¬ I (c + 2) x2 = I (c1 + 2) x2 → Q 0 I) ∧
    (I (c + 2) x2 = I (c1 + 2) x2 → (0 ≤ x2 ∧ x2 < 12) ∧ (0 ≤ x2 ∧ x2 < 12) ∧ (¬ I (c + 3) x2 = I (c1 + 3) x2 → Q 0 I) ∧
    (I (c + 3) x2 = I (c1 + 3) x2 → r32 (x2 + 1) ∧ L_Ru_isLike_15 c c1 Q n (x2 + 1) I))))
def V_Ru_isLike (c : Int) (c1 : Int) (I : Mm) (Q : Int → Mm → Prop) : Prop :=
  (I c 0 = I c1 0 → ∃ f28 : Nat, L_Ru_isLike_15 c c1 Q f28 0 I) ∧
    (¬ I c 0 = I c1 0 → Q 0 I)
def V_X_same (x1 : Int) (x2 : Int) (I : Mm) (Q : Int → Mm → Prop) : Prop :=
  V_X_isShelf x1 I (fun z21 I22 => (z21 = 0 → Q (-1) I22) ∧
    (¬ z21 = 0 → (x2 < 0 → Q (-1) I22) ∧
    (0 ≤ x2 → (x2 ≤ 1 → V_X_isKept x1 I22 (fun z23 I24 => (¬ z23 = 0 → (0 ≤ x1 ∧ x1 < 2) ∧ (¬ x2 = 0 → V_Ru_isLike (1 + 9) (202 + 16 * x1 + 9) I24 (fun z26 I27 => (z26 = 0 → Q 0 I27) ∧
    (¬ z26 = 0 → Q 1 I27))) ∧
    (x2 = 0 → V_Th_isLike (1 + 5) (202 + 16 * x1 + 5) I24 (fun z28 I29 => (z28 = 0 → Q 0 I29) ∧
    (¬ z28 = 0 → Q 1 I29)))) ∧
    (z23 = 0 → Q (-2) I24))) ∧
    (1 < x2 → Q (-1) I22))))
def V_Te_put (x1 : Int) (I : Mm) (Q : Mm → Prop) : Prop :=
  (¬ I 36 1 = I 36 0 → r32 (I 36 1 + 1) ∧ Q ((wrM I 36 1 (I 36 1 + 1)))) ∧
    (I 36 1 = I 36 0 → r32 ((wrM I 36 2 x1) 36 1 + 1) ∧ Q ((wrM ((wrM I 36 2 x1)) 36 1 ((wrM I 36 2 x1) 36 1 + 1))))
def L_Te_putText_2 (w1 : Nat) (Q : Mm → Prop)  : Nat → Int → Mm → Prop
  | 0, _, _ => False
  | n + 1, x2, I => (slenI w1 ≤ x2 → Q I) ∧
    (x2 < slenI w1 → (0 ≤ x2 ∧ x2 < slenI w1) ∧ V_Te_put (sch w1 x2) I (fun I23 => r32 (x2 + 1) ∧ L_Te_putText_2 w1 Q n (x2 + 1) I23))
def V_Te_putText (w1 : Nat) (I : Mm) (Q : Mm → Prop) : Prop :=
  ∃ f25 : Nat, L_Te_putText_2 w1 Q f25 0 I
def J_Te_putNumber_18 (x1 : Int) (Q : Mm → Prop) (K3 : Int → Mm → Prop) (x2 : Int) (I : Mm) : Prop :=
  (0 ≤ x1 ∧ 0 < x2) ∧ (0 ≤ (x1 / x2)) ∧ r32 (48 + ((x1 / x2) % 10)) ∧ V_Te_put (48 + ((x1 / x2) % 10)) I (fun I24 => (0 ≤ x2) ∧ K3 (x2 / 10) I24)
def L_Te_putNumber_3 (x1 : Int) (Q : Mm → Prop)  : Nat → Int → Mm → Prop
  | 0, _, _ => False
  | n + 1, x2, I => (x2 < 1 → Q I) ∧
    (1 ≤ x2 → (x2 ≤ x1 → J_Te_putNumber_18 x1 Q (fun x2 I => L_Te_putNumber_3 x1 Q n x2 I) x2 I) ∧
    (x1 < x2 → (¬ x2 = 1 → (0 ≤ x2) ∧ L_Te_putNumber_3 x1 Q n (x2 / 10) I) ∧
    (x2 = 1 → J_Te_putNumber_18 x1 Q (fun x2 I => L_Te_putNumber_3 x1 Q n x2 I) x2 I)))
def V_Te_putNumber (x1 : Int) (I : Mm) (Q : Mm → Prop) : Prop :=
  ∃ f29 : Nat, L_Te_putNumber_3 x1 Q f29 1000000000 I
def L_Te_putName_25 (c1 : Int) (x2 : Int) (x3 : Int) (x4 : Int) (Q : Mm → Prop)  : Nat → Int → Mm → Prop
  | 0, _, _ => False
  | n + 1, x5, I => (x4 ≤ x5 → Q I) ∧
    (x5 < x4 → V_X_letterAt x3 x5 I (fun z26 I27 => V_Te_put z26 I27 (fun I28 => r32 (x5 + 1) ∧ L_Te_putName_25 c1 x2 x3 x4 Q n (x5 + 1) I28)))
def V_Te_putName (c1 : Int) (x2 : Int) (I : Mm) (Q : Mm → Prop) : Prop :=
  V_Nm_has c1 x2 I (fun z21 I22 => (¬ z21 = 0 → (0 ≤ x2 ∧ x2 < 16) ∧ V_X_lettersIn (I22 (c1 + 1) x2) I22 (fun z24 I25 => ∃ f30 : Nat, L_Te_putName_25 c1 x2 (I22 (c1 + 1) x2) z24 Q f30 0 I25)) ∧
    (z21 = 0 → Q I22))
def L_Te_write_35 (c1 : Int) (Q : Mm → Prop) (K91 : Mm → Prop) : Nat → Int → Mm → Prop
  | 0, _, _ => False
  | n + 1, x3, I => (I (c1 + 5) 0 ≤ x3 → K91 I) ∧
    (x3 < I (c1 + 5) 0 → V_Te_putText 10 I (fun I25 => (0 ≤ x3 ∧ x3 < 200) ∧ V_Te_putNumber (I25 (c1 + 5 + 3) x3) I25 (fun I27 => V_Te_putText 11 I27 (fun I28 => (0 ≤ x3 ∧ x3 < 200) ∧ V_Te_putName (c1 + 1) (I28 (c1 + 5 + 2) x3) I28 (fun I30 => r32 (x3 + 1) ∧ L_Te_write_35 c1 Q K91 n (x3 + 1) I30)))))
def L_Te_write_93 (c1 : Int) (Q : Mm → Prop)  : Nat → Int → Mm → Prop
  | 0, _, _ => False
  | n + 1, x3, I => (I (c1 + 9) 0 ≤ x3 → Q I) ∧
    (x3 < I (c1 + 9) 0 → V_Te_putText 12 I (fun I33 => (0 ≤ x3 ∧ x3 < 12) ∧ V_Te_putName (c1 + 1) (I33 (c1 + 9 + 1) x3) I33 (fun I35 => V_Te_putText 13 I35 (fun I36 => (0 ≤ x3 ∧ x3 < 12) ∧ V_Te_putNumber (I36 (c1 + 9 + 3) x3) I36 (fun I38 => V_Te_putText 11 I38 (fun I39 => (0 ≤ x3 ∧ x3 < 12) ∧ V_Te_putName (c1 + 1) (I39 (c1 + 9 + 2) x3) I39 (fun I41 => r32 (x3 + 1) ∧ L_Te_write_93 c1 Q n (x3 + 1) I41)))))))
def V_Te_write (c1 : Int) (I : Mm) (Q : Mm → Prop) : Prop :=
  V_Te_putText 8 I (fun I21 => V_Te_putNumber (I21 c1 5) I21 (fun I22 => V_Te_putText 9 I22 (fun I23 => V_Te_putNumber (I23 c1 6) I23 (fun I24 => ∃ f44 : Nat, L_Te_write_35 c1 Q (fun I32 => ∃ f43 : Nat, L_Te_write_93 c1 Q f43 0 I32) f44 0 I24))))
def V_Te_byteAt (c1 : Int) (x2 : Int) (I : Mm) (Q : Int → Mm → Prop) : Prop :=
  V_Te_write c1 ((wrM ((wrM ((wrM I 36 0 x2)) 36 1 0)) 36 2 (-2))) (fun I24 => (¬ x2 = -1 → Q (I24 36 2) I24) ∧
    (x2 = -1 → Q (I24 36 1) I24))
def V_X_told (x1 : Int) (I : Mm) (Q : Int → Mm → Prop) : Prop :=
  (-1 ≤ x1 → V_Te_byteAt 1 x1 I (fun z21 I22 => Q z21 I22)) ∧
    (x1 < -1 → Q (-1) I)
def V_X_share (x1 : Int) (I : Mm) (Q : Int → Mm → Prop) : Prop :=
  (x1 < 1 → Q (-1) I) ∧
    (1 ≤ x1 → (x1 ≤ 100 → (1 ≤ I (1 + 5) 0 → r32 ((I (1 + 5) 0 * x1) + 99) ∧ (0 ≤ ((I (1 + 5) 0 * x1) + 99)) ∧ (0 ≤ ((((I (1 + 5) 0 * x1) + 99) / 100) - 1) ∧ ((((I (1 + 5) 0 * x1) + 99) / 100) - 1) < 200) ∧ Q (I (1 + 5 + 3) ((((I (1 + 5) 0 * x1) + 99) / 100) - 1)) I) ∧
    (I (1 + 5) 0 < 1 → Q (-2) I)) ∧
    (100 < x1 → Q (-1) I))
def L_X_bestRows_34 (x1 : Int) (x2 : Int) (Q : Int → Mm → Prop)  : Nat → Int → Int → Int → Mm → Prop
  | 0, _, _, _, _ => False
  | n + 1, x3, x4, x5, I => (64 < x5 → (¬ x2 = 0 → Q x4 I) ∧
    (x2 = 0 → Q x3 I)) ∧
    (x5 ≤ 64 → V_Ca_looksForAll 1 x5 x1 I (fun z25 I26 => (x4 ≤ z25 → r32 (x5 * 2) ∧ L_X_bestRows_34 x1 x2 Q n x3 x4 (x5 * 2) I26) ∧
    (z25 < x4 → r32 (x5 * 2) ∧ L_X_bestRows_34 x1 x2 Q n x5 z25 (x5 * 2) I26)))
def V_X_bestRows (x1 : Int) (x2 : Int) (I : Mm) (Q : Int → Mm → Prop) : Prop :=
  V_X_isWidth x1 I (fun z21 I22 => (z21 = 0 → Q (-1) I22) ∧
    (¬ z21 = 0 → (x2 < 0 → Q (-1) I22) ∧
    (0 ≤ x2 → (x2 ≤ 1 → V_Ca_looksForAll 1 2 x1 I22 (fun z23 I24 => ∃ f29 : Nat, L_X_bestRows_34 x1 x2 Q f29 2 z23 4 I24)) ∧
    (1 < x2 → Q (-1) I22))))
def V_X_skewBy (x1 : Int) (x2 : Int) (x3 : Int) (I : Mm) (Q : Int → Mm → Prop) : Prop :=
  V_X_isRows x1 I (fun z21 I22 => (z21 = 0 → Q (-1) I22) ∧
    (¬ z21 = 0 → V_X_isWidth x2 I22 (fun z23 I24 => (z23 = 0 → Q (-1) I24) ∧
    (¬ z23 = 0 → (x3 < 0 → Q (-1) I24) ∧
    (0 ≤ x3 → (x3 ≤ 2 → V_X_skewIn x1 x2 x3 I24 (fun z25 I26 => Q z25 I26)) ∧
    (2 < x3 → Q (-1) I24))))))
def J_Th_longestOfOneName_41 (c : Int) (x1 : Int) (Q : Int → Mm → Prop) (K11 : Int → Int → Int → Int → Mm → Prop) (x2 : Int) (x3 : Int) (x4 : Int) (x5 : Int) (I : Mm) : Prop :=
  r32 ((x5 - x4) + 1) ∧ ((x5 - x4) + 1 ≤ x2 → r32 (x5 + 1) ∧ K11 x2 x3 x4 (x5 + 1) I) ∧
    (x2 < (x5 - x4) + 1 → (0 ≤ x4 ∧ x4 < 200) ∧ r32 ((x5 - x4) + 1) ∧ r32 (x5 + 1) ∧ K11 ((x5 - x4) + 1) (I (c + 1) x4) x4 (x5 + 1) I)
def L_Th_longestOfOneName_11 (c : Int) (x1 : Int) (Q : Int → Mm → Prop)  : Nat → Int → Int → Int → Int → Mm → Prop
  | 0, _, _, _, _, _ => False
  | n + 1, x2, x3, x4, x5, I => (I c 0 ≤ x5 → (¬ x1 = 0 → Q x3 I) ∧
    (x1 = 0 → Q x2 I)) ∧
    (x5 < I c 0 → (0 ≤ x5 ∧ x5 < 200) ∧ (0 ≤ x4 ∧ x4 < 200) ∧ (I (c + 2) x5 = I (c + 2) x4 → J_Th_longestOfOneName_41 c x1 Q (fun x2 x3 x4 x5 I => L_Th_longestOfOneName_11 c x1 Q n x2 x3 x4 x5 I) x2 x3 x4 x5 I) ∧
    (¬ I (c + 2) x5 = I (c + 2) x4 → J_Th_longestOfOneName_41 c x1 Q (fun x2 x3 x4 x5 I => L_Th_longestOfOneName_11 c x1 Q n x2 x3 x4 x5 I) x2 x3 x5 x5 I))
def V_Th_longestOfOneName (c : Int) (x1 : Int) (I : Mm) (Q : Int → Mm → Prop) : Prop :=
  ∃ f30 : Nat, L_Th_longestOfOneName_11 c x1 Q f30 0 (-2) 0 0 I
def V_X_longest (x1 : Int) (I : Mm) (Q : Int → Mm → Prop) : Prop :=
  (x1 < 0 → Q (-1) I) ∧
    (0 ≤ x1 → (x1 ≤ 1 → V_Th_longestOfOneName (1 + 5) x1 I (fun z21 I22 => Q z21 I22)) ∧
    (1 < x1 → Q (-1) I))
def L_Wa_ruleOfPrice_3 (c1 : Int) (x2 : Int) (x3 : Int) (Q : Int → Mm → Prop)  : Nat → Int → Mm → Prop
  | 0, _, _ => False
  | n + 1, x4, I => (I c1 0 ≤ x4 → Q (-1) I) ∧
    (x4 < I c1 0 → (0 ≤ x4 ∧ x4 < 12) ∧ (¬ I (c1 + 1) x4 = x2 → r32 (x4 + 1) ∧ L_Wa_ruleOfPrice_3 c1 x2 x3 Q n (x4 + 1) I) ∧
    (I (c1 + 1) x4 = x2 → V_Wa_priceBy c1 x4 I (fun z23 I24 => (¬ z23 = x3 → r32 (x4 + 1) ∧ L_Wa_ruleOfPrice_3 c1 x2 x3 Q n (x4 + 1) I24) ∧
    (z23 = x3 → Q x4 I24))))
def V_Wa_ruleOfPrice (c1 : Int) (x2 : Int) (x3 : Int) (I : Mm) (Q : Int → Mm → Prop) : Prop :=
  ∃ f26 : Nat, L_Wa_ruleOfPrice_3 c1 x2 x3 Q f26 0 I
def L_Wa_ruleAt_54 (c1 : Int) (x2 : Int) (x3 : Int) (x4 : Int) (Q : Int → Mm → Prop)  : Nat → Int → Int → Int → Int → Mm → Prop
  | 0, _, _, _, _, _ => False
  | n + 1, x5, x7, x8, x9, I => (x4 < x9 → Q x8 I) ∧
    (x9 ≤ x4 → V_Wa_ruleOfPrice c1 x7 x5 I (fun z24 I25 => V_Ru_has c1 z24 I25 (fun z26 I27 => (¬ z26 = 0 → (0 ≤ z24 ∧ z24 < 12) ∧ V_Wa_priceOf c1 z24 I27 (fun z29 I30 => r32 (x5 - z29) ∧ r32 (x9 + 1) ∧ L_Wa_ruleAt_54 c1 x2 x3 x4 Q n (x5 - z29) (I27 (c1 + 2) z24) z24 (x9 + 1) I30)) ∧
    (z26 = 0 → Q (-2) I27))))
def V_Wa_ruleAt (c1 : Int) (x2 : Int) (x3 : Int) (x4 : Int) (I : Mm) (Q : Int → Mm → Prop) : Prop :=
  V_Wa_find c1 x2 x3 I (fun z21 I22 => (¬ z21 = 2000000000 → (0 ≤ z21) ∧ (¬ x4 = -1 → (x4 < z21 % 32 → ∃ f33 : Nat, L_Wa_ruleAt_54 c1 x2 x3 x4 Q f33 z21 x2 (-1) 0 I22) ∧
    (z21 % 32 ≤ x4 → Q (-2) I22)) ∧
    (x4 = -1 → Q (z21 % 32) I22)) ∧
    (z21 = 2000000000 → Q (-2) I22))
def V_X_way (x1 : Int) (x2 : Int) (x3 : Int) (I : Mm) (Q : Int → Mm → Prop) : Prop :=
  V_Nm_has (1 + 1) x1 I (fun z21 I22 => (z21 = 0 → Q (-1) I22) ∧
    (¬ z21 = 0 → V_Nm_has (1 + 1) x2 I22 (fun z23 I24 => (z23 = 0 → Q (-1) I24) ∧
    (¬ z23 = 0 → (-1 ≤ x3 → V_Wa_ruleAt (1 + 9) x1 x2 x3 I24 (fun z25 I26 => Q z25 I26)) ∧
    (x3 < -1 → Q (-1) I24)))))
def V_X_by (x1 : Int) (x2 : Int) (I : Mm) (Q : Int → Mm → Prop) : Prop :=
  V_X_isHour x1 I (fun z21 I22 => (z21 = 0 → Q (-1) I22) ∧
    (¬ z21 = 0 → (x2 < 0 → Q (-1) I22) ∧
    (0 ≤ x2 → (x2 ≤ 2 → V_Ca_copyFrom 17 1 I22 (fun I23 => V_Ca_takeDue 17 x1 300 I23 (fun z24 I25 => (x2 = 0 → Q z24 I25) ∧
    (x2 = 1 → r32 (I25 (17 + 15) 0 - I25 (1 + 15) 0) ∧ Q (I25 (17 + 15) 0 - I25 (1 + 15) 0) I25) ∧
    (¬ x2 = 0 ∧ ¬ x2 = 1 → Q (I25 (17 + 5) 0) I25)))) ∧
    (2 < x2 → Q (-1) I22))))
def L_Th_digestFrom_5 (c : Int) (x1 : Int) (Q : Int → Mm → Prop)  : Nat → Int → Int → Mm → Prop
  | 0, _, _, _ => False
  | n + 1, x3, x5, I => (I c 0 ≤ x5 → Q x3 I) ∧
    (x5 < I c 0 → (0 ≤ x5 ∧ x5 < 200) ∧ (0 ≤ x5 ∧ x5 < 200) ∧ (0 ≤ x5 ∧ x5 < 200) ∧ r32 (x5 + 1) ∧ L_Th_digestFrom_5 c x1 Q n ((31 * ((31 * ((31 * x3) + I (c + 1) x5)) + I (c + 2) x5)) + I (c + 3) x5) (x5 + 1) I)
def V_Th_digestFrom (c : Int) (x1 : Int) (I : Mm) (Q : Int → Mm → Prop) : Prop :=
  ∃ f25 : Nat, L_Th_digestFrom_5 c x1 Q f25 x1 0 I
def V_X_digest  (I : Mm) (Q : Int → Mm → Prop) : Prop :=
  V_Th_digestFrom (1 + 5) 17 I (fun z21 I22 => Q z21 I22)
def V_X_count (x1 : Int) (I : Mm) (Q : Int → Mm → Prop) : Prop :=
  (x1 = 0 → Q (I (1 + 5) 0) I) ∧
    (x1 = 1 → Q (I 1 5) I) ∧
    (x1 = 2 → Q (I 1 6) I) ∧
    (x1 = 3 → Q (I 1 7) I) ∧
    (x1 = 4 → Q (I (1 + 1) 0) I) ∧
    (x1 = 5 → Q (I (1 + 9) 0) I) ∧
    (x1 = 6 → Q (I 39 0) I) ∧
    (x1 = 7 → Q (I 33 0) I) ∧
    (x1 = 8 → Q (I 0 10) I) ∧
    (x1 = 9 → Q (I 1 8) I) ∧
    (x1 < 0 ∨ 9 < x1 → Q (-1) I)
def L_M_begins_2 (r0 : Int) (Q : Mm → Prop)  : Nat → Int → Mm → Prop
  | 0, _, _ => False
  | n + 1, x1, I => (980 ≤ x1 → Q ((wrM ((wrM I r0 1 4)) r0 2 10))) ∧
    (x1 < 980 → (0 ≤ x1 ∧ x1 < 980) ∧ r32 (x1 + 1) ∧ L_M_begins_2 r0 Q n (x1 + 1) (wrM I r0 x1 0))
def V_M_begins (r0 : Int) (I : Mm) (Q : Mm → Prop) : Prop :=
  ∃ f26 : Nat, L_M_begins_2 r0 Q f26 0 I
def V_M_in (x0 : Int) (x2 : Int) (x4 : Int) (I : Mm) (Q : Int → Mm → Prop) : Prop :=
  (x0 < x2 → Q 0 I) ∧
    (x2 ≤ x0 → (x4 < x0 → Q 0 I) ∧
    (x0 ≤ x4 → Q 1 I))
def V_M_isName (x1 : Int) (I : Mm) (Q : Int → Mm → Prop) : Prop :=
  r32 (I 237 4 - 1) ∧ V_M_in x1 0 (I 237 4 - 1) I (fun z22 I23 => (z22 = 0 ∨ z22 = 1) ∧ Q z22 I23)
def L_M_keepsAct_54  (Q : Mm → Prop)  : Nat → Int → Mm → Prop
  | 0, _, _ => False
  | n + 1, x1, I => (980 ≤ x1 → r32 (I 236 3 + 1) ∧ Q ((wrM I 236 3 (I 236 3 + 1)))) ∧
    (x1 < 980 → (0 ≤ x1 ∧ x1 < 980) ∧ (0 ≤ ((980 * I 236 3) + x1) ∧ ((980 * I 236 3) + x1) < 9800) ∧ r32 (x1 + 1) ∧ L_M_keepsAct_54 Q n (x1 + 1) (wrM I 239 ((980 * I 236 3) + x1) (I 237 x1)))
def J_M_keepsAct_52  (Q : Mm → Prop)   (I : Mm) : Prop :=
  ∃ f27 : Nat, L_M_keepsAct_54 Q f27 0 I
def L_M_keepsAct_13  (Q : Mm → Prop) (K42 : Mm → Prop) : Nat → Int → Mm → Prop
  | 0, _, _ => False
  | n + 1, x1, I => (9800 ≤ x1 → K42 I) ∧
    (x1 < 9800 → (0 ≤ x1 ∧ x1 < 9800) ∧ (0 ≤ (x1 - 980) ∧ (x1 - 980) < 9800) ∧ r32 (x1 + 1) ∧ L_M_keepsAct_13 Q K42 n (x1 + 1) (wrM I 239 (x1 - 980) (I 239 x1)))
def V_M_keepsAct  (I : Mm) (Q : Mm → Prop) : Prop :=
  (¬ I 236 3 = 10 → J_M_keepsAct_52 Q I) ∧
    (I 236 3 = 10 → ∃ f37 : Nat, L_M_keepsAct_13 Q (fun I33 => r32 (I33 236 3 - 1) ∧ J_M_keepsAct_52 Q (wrM I33 236 3 (I33 236 3 - 1))) f37 980 I)
def L_M_widthAnew_69 (x1 : Int) (x2 : Int) (Q : Int → Mm → Prop) (K133 : Int → Int → Mm → Prop) : Nat → Int → Int → Int → Mm → Prop
  | 0, _, _, _, _ => False
  | n + 1, x3, x5, x6, I => (x1 ≤ x6 → K133 x3 x5 I) ∧
    (x6 < x1 → (0 ≤ (780 + x6) ∧ (780 + x6) < 980) ∧ (0 ≤ ((780 + x6) - 1) ∧ ((780 + x6) - 1) < 980) ∧ ∀ y28 : Int, y28 = I 237 (780 + x6) - I 237 ((780 + x6) - 1) → r32 y28 ∧ r64 (2 * x2) ∧ (y28 ≤ 2 * x2 → r32 (x5 + 1) ∧ r32 (x6 + 1) ∧ L_M_widthAnew_69 x1 x2 Q K133 n (x3 + y28) (x5 + 1) (x6 + 1) I) ∧
    (2 * x2 < y28 → r32 (x6 + 1) ∧ L_M_widthAnew_69 x1 x2 Q K133 n x3 x5 (x6 + 1) I))
def J_M_widthAnew_22  (Q : Int → Mm → Prop)  (t0 : Int) (I : Mm) : Prop :=
  (2 ≤ t0 → (0 ≤ ((780 + t0) - 1) ∧ ((780 + t0) - 1) < 980) ∧ r32 (I 237 ((780 + t0) - 1) - I 237 780) ∧ r32 (t0 - 1) ∧ (0 ≤ (I 237 ((780 + t0) - 1) - I 237 780) ∧ 0 < (t0 - 1)) ∧ ∀ y25 : Int, y25 = (I 237 ((780 + t0) - 1) - I 237 780) / (t0 - 1) → ∃ f42 : Nat, L_M_widthAnew_69 t0 y25 Q (fun y34 y35 I36 => (r64 y34 ∧ r64 y35 ∧ 0 ≤ y34 ∧ 0 < y35) ∧ r64 (3 * (y34 / y35)) ∧ (1 ≤ 3 * (y34 / y35) → (3 * (y34 / y35) ≤ 99999999 → r32 (3 * (y34 / y35)) ∧ Q (3 * (y34 / y35)) I36) ∧
    (99999999 < 3 * (y34 / y35) → r32 99999999 ∧ Q 99999999 I36)) ∧
    (3 * (y34 / y35) < 1 → r32 1 ∧ Q 1 I36)) f42 0 0 1 I) ∧
    (t0 < 2 → Q (I 237 2) I)
def V_M_widthAnew  (I : Mm) (Q : Int → Mm → Prop) : Prop :=
  (10 ≤ I 237 0 → J_M_widthAnew_22 Q 10 I) ∧
    (I 237 0 < 10 → J_M_widthAnew_22 Q (I 237 0) I)
def V_M_laysAnew (x1 : Int) (I : Mm) (Q : Mm → Prop) : Prop :=
  V_M_widthAnew I (fun z21 I22 => r32 ((wrM ((wrM I22 237 1 x1)) 237 2 z21) 237 9 + (wrM ((wrM I22 237 1 x1)) 237 2 z21) 237 0) ∧ Q ((wrM ((wrM ((wrM I22 237 1 x1)) 237 2 z21)) 237 9 ((wrM ((wrM I22 237 1 x1)) 237 2 z21) 237 9 + (wrM ((wrM I22 237 1 x1)) 237 2 z21) 237 0))))
def V_M_grows  (I : Mm) (Q : Mm → Prop) : Prop :=
  r32 (2 * I 237 1) ∧ (I 237 0 ≤ 2 * I 237 1 → Q I) ∧
    (2 * I 237 1 < I 237 0 → (I 237 1 < 64 → r32 (2 * I 237 1) ∧ V_M_laysAnew (2 * I 237 1) I (fun I23 => r32 (I23 237 11 + 1) ∧ Q ((wrM I23 237 11 (I23 237 11 + 1))))) ∧
    (64 ≤ I 237 1 → Q I))
def J_M_comes_64 (x1 : Int) (x2 : Int) (x3 : Int) (Q : Mm → Prop) (K8 : Int → Mm → Prop) (x4 : Int) (I : Mm) : Prop :=
  (0 ≤ ((380 + x4) - 1) ∧ ((380 + x4) - 1) < 980) ∧ (0 ≤ (380 + x4) ∧ (380 + x4) < 980) ∧ (0 ≤ ((580 + x4) - 1) ∧ ((580 + x4) - 1) < 980) ∧ (0 ≤ (580 + x4) ∧ (580 + x4) < 980) ∧ (0 ≤ ((780 + x4) - 1) ∧ ((780 + x4) - 1) < 980) ∧ (0 ≤ (780 + x4) ∧ (780 + x4) < 980) ∧ r32 (x4 + (-1)) ∧ K8 (x4 + (-1)) (wrM ((wrM ((wrM I 237 (380 + x4) (I 237 ((380 + x4) - 1)))) 237 (580 + x4) ((wrM I 237 (380 + x4) (I 237 ((380 + x4) - 1))) 237 ((580 + x4) - 1)))) 237 (780 + x4) ((wrM ((wrM I 237 (380 + x4) (I 237 ((380 + x4) - 1)))) 237 (580 + x4) ((wrM I 237 (380 + x4) (I 237 ((380 + x4) - 1))) 237 ((580 + x4) - 1))) 237 ((780 + x4) - 1)))
def L_M_comes_8 (x1 : Int) (x2 : Int) (x3 : Int) (Q : Mm → Prop) (K142 : Int → Mm → Prop) : Nat → Int → Mm → Prop
  | 0, _, _ => False
  | n + 1, x4, I => (x4 ≤ 0 → K142 x4 I) ∧
    (0 < x4 → (0 ≤ ((780 + x4) - 1) ∧ ((780 + x4) - 1) < 980) ∧ (x3 < I 237 ((780 + x4) - 1) → J_M_comes_64 x1 x2 x3 Q (fun x4 I => L_M_comes_8 x1 x2 x3 Q K142 n x4 I) x4 I) ∧
    (I 237 ((780 + x4) - 1) ≤ x3 → (0 ≤ ((780 + x4) - 1) ∧ ((780 + x4) - 1) < 980) ∧ (¬ I 237 ((780 + x4) - 1) = x3 → K142 x4 I) ∧
    (I 237 ((780 + x4) - 1) = x3 → (0 ≤ ((380 + x4) - 1) ∧ ((380 + x4) - 1) < 980) ∧ (I 237 ((380 + x4) - 1) ≤ x1 → K142 x4 I) ∧
    (x1 < I 237 ((380 + x4) - 1) → J_M_comes_64 x1 x2 x3 Q (fun x4 I => L_M_comes_8 x1 x2 x3 Q K142 n x4 I) x4 I))))
def V_M_comes (x1 : Int) (x2 : Int) (x3 : Int) (I : Mm) (Q : Mm → Prop) : Prop :=
  ∃ f47 : Nat, L_M_comes_8 x1 x2 x3 Q (fun y36 I37 => (0 ≤ (380 + y36) ∧ (380 + y36) < 980) ∧ (0 ≤ (580 + y36) ∧ (580 + y36) < 980) ∧ (0 ≤ (780 + y36) ∧ (780 + y36) < 980) ∧ r32 ((wrM ((wrM ((wrM I37 237 (380 + y36) x1)) 237 (580 + y36) x2)) 237 (780 + y36) x3) 237 0 + 1) ∧ V_M_grows ((wrM ((wrM ((wrM ((wrM I37 237 (380 + y36) x1)) 237 (580 + y36) x2)) 237 (780 + y36) x3)) 237 0 ((wrM ((wrM ((wrM I37 237 (380 + y36) x1)) 237 (580 + y36) x2)) 237 (780 + y36) x3) 237 0 + 1))) (fun I46 => Q I46)) f47 (I 237 0) I
def V_M_comesNew (x1 : Int) (x2 : Int) (I : Mm) (Q : Int → Mm → Prop) : Prop :=
  V_M_comes (I 237 6) x1 x2 I (fun I21 => r32 (I21 237 6 + 1) ∧ r32 ((wrM I21 237 6 (I21 237 6 + 1)) 237 6 - 1) ∧ Q ((wrM I21 237 6 (I21 237 6 + 1)) 237 6 - 1) ((wrM I21 237 6 (I21 237 6 + 1))))
def V_M_push (x1 : Int) (x2 : Int) (I : Mm) (Q : Int → Mm → Prop) : Prop :=
  V_M_isName x1 I (fun z21 I22 => (z21 = 0 → Q (-1) I22) ∧
    (¬ z21 = 0 → V_M_in x2 0 999999999 I22 (fun z23 I24 => (¬ z23 = 0 → (I24 237 3 ≤ x2 → (¬ I24 237 0 = 200 → V_M_keepsAct I24 (fun I25 => V_M_comesNew x1 x2 I25 (fun z26 I27 => Q z26 I27))) ∧
    (I24 237 0 = 200 → Q (-3) I24)) ∧
    (x2 < I24 237 3 → Q (-2) I24)) ∧
    (z23 = 0 → Q (-1) I24))))
def V_M_looksTo (x0 : Int) (x1 : Int) (x2 : Int) (x3 : Int) (I : Mm) (Q : Int → Mm → Prop) : Prop :=
  (0 ≤ x1 ∧ 0 < x3) ∧ (0 ≤ x0 ∧ 0 < x3) ∧ r32 ((x1 / x3) - (x0 / x3)) ∧ (x2 ≤ (x1 / x3) - (x0 / x3) → r32 (2 * x2) ∧ Q (2 * x2) I) ∧
    ((x1 / x3) - (x0 / x3) < x2 → r32 (((x1 / x3) - (x0 / x3)) + 1) ∧ Q (((x1 / x3) - (x0 / x3)) + 1) I)
def V_M_looksNow  (I : Mm) (Q : Int → Mm → Prop) : Prop :=
  V_M_looksTo (I 237 3) (I 237 780) (I 237 1) (I 237 2) I (fun z21 I22 => Q z21 I22)
def V_M_shrinks  (I : Mm) (Q : Mm → Prop) : Prop :=
  r32 (2 * I 237 0) ∧ (I 237 1 ≤ 2 * I 237 0 → Q I) ∧
    (2 * I 237 0 < I 237 1 → (2 < I 237 1 → (0 ≤ I 237 1) ∧ V_M_laysAnew (I 237 1 / 2) I (fun I23 => r32 (I23 237 12 + 1) ∧ Q ((wrM I23 237 12 (I23 237 12 + 1))))) ∧
    (I 237 1 ≤ 2 → Q I))
def L_M_leaves_12 (x1 : Int) (Q : Mm → Prop)  : Nat → Int → Mm → Prop
  | 0, _, _ => False
  | n + 1, x2, I => (I 237 0 ≤ x2 → V_M_shrinks I (fun I23 => Q I23)) ∧
    (x2 < I 237 0 → (0 ≤ ((380 + x2) + 1) ∧ ((380 + x2) + 1) < 980) ∧ (0 ≤ (380 + x2) ∧ (380 + x2) < 980) ∧ (0 ≤ ((580 + x2) + 1) ∧ ((580 + x2) + 1) < 980) ∧ (0 ≤ (580 + x2) ∧ (580 + x2) < 980) ∧ (0 ≤ ((780 + x2) + 1) ∧ ((780 + x2) + 1) < 980) ∧ (0 ≤ (780 + x2) ∧ (780 + x2) < 980) ∧ r32 (x2 + 1) ∧ L_M_leaves_12 x1 Q n (x2 + 1) (wrM ((wrM ((wrM I 237 (380 + x2) (I 237 ((380 + x2) + 1)))) 237 (580 + x2) ((wrM I 237 (380 + x2) (I 237 ((380 + x2) + 1))) 237 ((580 + x2) + 1)))) 237 (780 + x2) ((wrM ((wrM I 237 (380 + x2) (I 237 ((380 + x2) + 1)))) 237 (580 + x2) ((wrM I 237 (380 + x2) (I 237 ((380 + x2) + 1))) 237 ((580 + x2) + 1))) 237 ((780 + x2) + 1))))
def V_M_leaves (x1 : Int) (I : Mm) (Q : Mm → Prop) : Prop :=
  r32 (I 237 0 - 1) ∧ ∃ f34 : Nat, L_M_leaves_12 x1 Q f34 x1 (wrM I 237 0 (I 237 0 - 1))
def J_M_brings_55 (x1 : Int) (Q : Mm → Prop)  (x2 : Int) (I : Mm) : Prop :=
  r32 (I 237 14 + 1) ∧ (0 ≤ (32 + x2) ∧ (32 + x2) < 980) ∧ (0 ≤ (32 + x2) ∧ (32 + x2) < 980) ∧ r32 ((wrM I 237 14 (I 237 14 + 1)) 237 (32 + x2) + 1) ∧ Q ((wrM ((wrM I 237 14 (I 237 14 + 1))) 237 (32 + x2) ((wrM I 237 14 (I 237 14 + 1)) 237 (32 + x2) + 1)))
def V_M_brings (x1 : Int) (I : Mm) (Q : Mm → Prop) : Prop :=
  (0 ≤ ((144 + (3 * x1)) + 1) ∧ ((144 + (3 * x1)) + 1) < 980) ∧ ∀ y22 : Int, y22 = I 237 ((144 + (3 * x1)) + 1) → (0 ≤ ((144 + (3 * x1)) + 2) ∧ ((144 + (3 * x1)) + 2) < 980) ∧ ∀ y24 : Int, y24 = I 237 3 + I 237 ((144 + (3 * x1)) + 2) → (I 237 0 = 200 → J_M_brings_55 x1 Q y22 I) ∧
    (¬ I 237 0 = 200 → r32 y24 ∧ (y24 ≤ 999999999 → V_M_comesNew y22 y24 I (fun z33 I34 => Q I34)) ∧
    (999999999 < y24 → J_M_brings_55 x1 Q y22 I))
def L_M_takes_138 (x1 : Int) (Q : Int → Mm → Prop) (K171 : Mm → Prop) : Nat → Int → Mm → Prop
  | 0, _, _ => False
  | n + 1, x2, I => (x2 < 4 → K171 I) ∧
    (4 ≤ x2 → (0 ≤ ((180 + x2) - 4) ∧ ((180 + x2) - 4) < 980) ∧ (0 ≤ (180 + x2) ∧ (180 + x2) < 980) ∧ r32 (x2 + (-1)) ∧ L_M_takes_138 x1 Q K171 n (x2 + (-1)) (wrM I 237 (180 + x2) (I 237 ((180 + x2) - 4))))
def L_M_takes_263 (x1 : Int) (x2 : Int) (Q : Int → Mm → Prop)  : Nat → Int → Mm → Prop
  | 0, _, _ => False
  | n + 1, x3, I => (I 237 5 ≤ x3 → Q x1 I) ∧
    (x3 < I 237 5 → (0 ≤ (144 + (3 * x3)) ∧ (144 + (3 * x3)) < 980) ∧ (¬ I 237 (144 + (3 * x3)) = x2 → r32 (x3 + 1) ∧ L_M_takes_263 x1 x2 Q n (x3 + 1) I) ∧
    (I 237 (144 + (3 * x3)) = x2 → V_M_brings x3 I (fun I54 => r32 (x3 + 1) ∧ L_M_takes_263 x1 x2 Q n (x3 + 1) I54)))
def J_M_takes_250  (Q : Int → Mm → Prop)  (x1 : Int) (t1 : Int) (t2 : Int) (I : Mm) : Prop :=
  (0 ≤ t1 ∧ t1 < 980) ∧ V_M_leaves 0 ((wrM I 237 t1 t2)) (fun I51 => ∃ f56 : Nat, L_M_takes_263 x1 ((wrM I 237 t1 t2) 236 7) Q f56 0 I51)
def J_M_takes_80  (Q : Int → Mm → Prop)  (x1 : Int) (t1 : Int) (t2 : Int) (t3 : Int) (I : Mm) : Prop :=
  (0 ≤ t1 ∧ t1 < 980) ∧ r32 (t2 + t3) ∧ r32 ((wrM ((wrM I 237 t1 (t2 + t3))) 237 3 ((wrM I 237 t1 (t2 + t3)) 237 780)) 237 8 + x1) ∧ r32 ((wrM ((wrM ((wrM I 237 t1 (t2 + t3))) 237 3 ((wrM I 237 t1 (t2 + t3)) 237 780))) 237 8 ((wrM ((wrM I 237 t1 (t2 + t3))) 237 3 ((wrM I 237 t1 (t2 + t3)) 237 780)) 237 8 + x1)) 237 13 + 1) ∧ (0 ≤ (16 + (wrM ((wrM ((wrM ((wrM I 237 t1 (t2 + t3))) 237 3 ((wrM I 237 t1 (t2 + t3)) 237 780))) 237 8 ((wrM ((wrM I 237 t1 (t2 + t3))) 237 3 ((wrM I 237 t1 (t2 + t3)) 237 780)) 237 8 + x1))) 237 13 ((wrM ((wrM ((wrM I 237 t1 (t2 + t3))) 237 3 ((wrM I 237 t1 (t2 + t3)) 237 780))) 237 8 ((wrM ((wrM I 237 t1 (t2 + t3))) 237 3 ((wrM I 237 t1 (t2 + t3)) 237 780)) 237 8 + x1)) 237 13 + 1)) 236 7) ∧ (16 + (wrM ((wrM ((wrM ((wrM I 237 t1 (t2 + t3))) 237 3 ((wrM I 237 t1 (t2 + t3)) 237 780))) 237 8 ((wrM ((wrM I 237 t1 (t2 + t3))) 237 3 ((wrM I 237 t1 (t2 + t3)) 237 780)) 237 8 + x1))) 237 13 ((wrM ((wrM ((wrM I 237 t1 (t2 + t3))) 237 3 ((wrM I 237 t1 (t2 + t3)) 237 780))) 237 8 ((wrM ((wrM I 237 t1 (t2 + t3))) 237 3 ((wrM I 237 t1 (t2 + t3)) 237 780)) 237 8 + x1)) 237 13 + 1)) 236 7) < 980) ∧ (0 ≤ (16 + (wrM ((wrM ((wrM ((wrM I 237 t1 (t2 + t3))) 237 3 ((wrM I 237 t1 (t2 + t3)) 237 780))) 237 8 ((wrM ((wrM I 237 t1 (t2 + t3))) 237 3 ((wrM I 237 t1 (t2 + t3)) 237 780)) 237 8 + x1))) 237 13 ((wrM ((wrM ((wrM I 237 t1 (t2 + t3))) 237 3 ((wrM I 237 t1 (t2 + t3)) 237 780))) 237 8 ((wrM ((wrM I 237 t1 (t2 + t3))) 237 3 ((wrM I 237 t1 (t2 + t3)) 237 780)) 237 8 + x1)) 237 13 + 1)) 236 7) ∧ (16 + (wrM ((wrM ((wrM ((wrM I 237 t1 (t2 + t3))) 237 3 ((wrM I 237 t1 (t2 + t3)) 237 780))) 237 8 ((wrM ((wrM I 237 t1 (t2 + t3))) 237 3 ((wrM I 237 t1 (t2 + t3)) 237 780)) 237 8 + x1))) 237 13 ((wrM ((wrM ((wrM I 237 t1 (t2 + t3))) 237 3 ((wrM I 237 t1 (t2 + t3)) 237 780))) 237 8 ((wrM ((wrM I 237 t1 (t2 + t3))) 237 3 ((wrM I 237 t1 (t2 + t3)) 237 780)) 237 8 + x1)) 237 13 + 1)) 236 7) < 980) ∧ r32 ((wrM ((wrM ((wrM ((wrM I 237 t1 (t2 + t3))) 237 3 ((wrM I 237 t1 (t2 + t3)) 237 780))) 237 8 ((wrM ((wrM I 237 t1 (t2 + t3))) 237 3 ((wrM I 237 t1 (t2 + t3)) 237 780)) 237 8 + x1))) 237 13 ((wrM ((wrM ((wrM I 237 t1 (t2 + t3))) 237 3 ((wrM I 237 t1 (t2 + t3)) 237 780))) 237 8 ((wrM ((wrM I 237 t1 (t2 + t3))) 237 3 ((wrM I 237 t1 (t2 + t3)) 237 780)) 237 8 + x1)) 237 13 + 1)) 237 (16 + (wrM ((wrM ((wrM ((wrM I 237 t1 (t2 + t3))) 237 3 ((wrM I 237 t1 (t2 + t3)) 237 780))) 237 8 ((wrM ((wrM I 237 t1 (t2 + t3))) 237 3 ((wrM I 237 t1 (t2 + t3)) 237 780)) 237 8 + x1))) 237 13 ((wrM ((wrM ((wrM I 237 t1 (t2 + t3))) 237 3 ((wrM I 237 t1 (t2 + t3)) 237 780))) 237 8 ((wrM ((wrM I 237 t1 (t2 + t3))) 237 3 ((wrM I 237 t1 (t2 + t3)) 237 780)) 237 8 + x1)) 237 13 + 1)) 236 7) + 1) ∧ ∃ f60 : Nat, L_M_takes_138 x1 Q (fun I44 => (50 ≤ (wrM ((wrM ((wrM ((wrM I44 237 180 (I44 236 6))) 237 181 ((wrM I44 237 180 (I44 236 6)) 236 7))) 237 182 ((wrM ((wrM I44 237 180 (I44 236 6))) 237 181 ((wrM I44 237 180 (I44 236 6)) 236 7)) 237 3))) 237 183 x1) 237 7 → J_M_takes_250 Q x1 7 50 (wrM ((wrM ((wrM ((wrM I44 237 180 (I44 236 6))) 237 181 ((wrM I44 237 180 (I44 236 6)) 236 7))) 237 182 ((wrM ((wrM I44 237 180 (I44 236 6))) 237 181 ((wrM I44 237 180 (I44 236 6)) 236 7)) 237 3))) 237 183 x1)) ∧
    ((wrM ((wrM ((wrM ((wrM I44 237 180 (I44 236 6))) 237 181 ((wrM I44 237 180 (I44 236 6)) 236 7))) 237 182 ((wrM ((wrM I44 237 180 (I44 236 6))) 237 181 ((wrM I44 237 180 (I44 236 6)) 236 7)) 237 3))) 237 183 x1) 237 7 < 50 → r32 ((wrM ((wrM ((wrM ((wrM I44 237 180 (I44 236 6))) 237 181 ((wrM I44 237 180 (I44 236 6)) 236 7))) 237 182 ((wrM ((wrM I44 237 180 (I44 236 6))) 237 181 ((wrM I44 237 180 (I44 236 6)) 236 7)) 237 3))) 237 183 x1) 237 7 + 1) ∧ J_M_takes_250 Q x1 7 ((wrM ((wrM ((wrM ((wrM I44 237 180 (I44 236 6))) 237 181 ((wrM I44 237 180 (I44 236 6)) 236 7))) 237 182 ((wrM ((wrM I44 237 180 (I44 236 6))) 237 181 ((wrM I44 237 180 (I44 236 6)) 236 7)) 237 3))) 237 183 x1) 237 7 + 1) (wrM ((wrM ((wrM ((wrM I44 237 180 (I44 236 6))) 237 181 ((wrM I44 237 180 (I44 236 6)) 236 7))) 237 182 ((wrM ((wrM I44 237 180 (I44 236 6))) 237 181 ((wrM I44 237 180 (I44 236 6)) 236 7)) 237 3))) 237 183 x1))) f60 199 (wrM ((wrM ((wrM ((wrM ((wrM I 237 t1 (t2 + t3))) 237 3 ((wrM I 237 t1 (t2 + t3)) 237 780))) 237 8 ((wrM ((wrM I 237 t1 (t2 + t3))) 237 3 ((wrM I 237 t1 (t2 + t3)) 237 780)) 237 8 + x1))) 237 13 ((wrM ((wrM ((wrM I 237 t1 (t2 + t3))) 237 3 ((wrM I 237 t1 (t2 + t3)) 237 780))) 237 8 ((wrM ((wrM I 237 t1 (t2 + t3))) 237 3 ((wrM I 237 t1 (t2 + t3)) 237 780)) 237 8 + x1)) 237 13 + 1))) 237 (16 + (wrM ((wrM ((wrM ((wrM I 237 t1 (t2 + t3))) 237 3 ((wrM I 237 t1 (t2 + t3)) 237 780))) 237 8 ((wrM ((wrM I 237 t1 (t2 + t3))) 237 3 ((wrM I 237 t1 (t2 + t3)) 237 780)) 237 8 + x1))) 237 13 ((wrM ((wrM ((wrM I 237 t1 (t2 + t3))) 237 3 ((wrM I 237 t1 (t2 + t3)) 237 780))) 237 8 ((wrM ((wrM I 237 t1 (t2 + t3))) 237 3 ((wrM I 237 t1 (t2 + t3)) 237 780)) 237 8 + x1)) 237 13 + 1)) 236 7) ((wrM ((wrM ((wrM ((wrM I 237 t1 (t2 + t3))) 237 3 ((wrM I 237 t1 (t2 + t3)) 237 780))) 237 8 ((wrM ((wrM I 237 t1 (t2 + t3))) 237 3 ((wrM I 237 t1 (t2 + t3)) 237 780)) 237 8 + x1))) 237 13 ((wrM ((wrM ((wrM I 237 t1 (t2 + t3))) 237 3 ((wrM I 237 t1 (t2 + t3)) 237 780))) 237 8 ((wrM ((wrM I 237 t1 (t2 + t3))) 237 3 ((wrM I 237 t1 (t2 + t3)) 237 780)) 237 8 + x1)) 237 13 + 1)) 237 (16 + (wrM ((wrM ((wrM ((wrM I 237 t1 (t2 + t3))) 237 3 ((wrM I 237 t1 (t2 + t3)) 237 780))) 237 8 ((wrM ((wrM I 237 t1 (t2 + t3))) 237 3 ((wrM I 237 t1 (t2 + t3)) 237 780)) 237 8 + x1))) 237 13 ((wrM ((wrM ((wrM I 237 t1 (t2 + t3))) 237 3 ((wrM I 237 t1 (t2 + t3)) 237 780))) 237 8 ((wrM ((wrM I 237 t1 (t2 + t3))) 237 3 ((wrM I 237 t1 (t2 + t3)) 237 780)) 237 8 + x1)) 237 13 + 1)) 236 7) + 1))
def V_M_takes  (I : Mm) (Q : Int → Mm → Prop) : Prop :=
  V_M_looksNow I (fun z21 I22 => (0 ≤ (wrM ((wrM I22 236 6 (I22 237 380))) 236 7 ((wrM I22 236 6 (I22 237 380)) 237 580)) 237 780 ∧ 0 < (wrM ((wrM I22 236 6 (I22 237 380))) 236 7 ((wrM I22 236 6 (I22 237 380)) 237 580)) 237 2) ∧ (0 ≤ (wrM ((wrM I22 236 6 (I22 237 380))) 236 7 ((wrM I22 236 6 (I22 237 380)) 237 580)) 237 3 ∧ 0 < (wrM ((wrM I22 236 6 (I22 237 380))) 236 7 ((wrM I22 236 6 (I22 237 380)) 237 580)) 237 2) ∧ r32 (((wrM ((wrM I22 236 6 (I22 237 380))) 236 7 ((wrM I22 236 6 (I22 237 380)) 237 580)) 237 780 / (wrM ((wrM I22 236 6 (I22 237 380))) 236 7 ((wrM I22 236 6 (I22 237 380)) 237 580)) 237 2) - ((wrM ((wrM I22 236 6 (I22 237 380))) 236 7 ((wrM I22 236 6 (I22 237 380)) 237 580)) 237 3 / (wrM ((wrM I22 236 6 (I22 237 380))) 236 7 ((wrM I22 236 6 (I22 237 380)) 237 580)) 237 2)) ∧ ((wrM ((wrM I22 236 6 (I22 237 380))) 236 7 ((wrM I22 236 6 (I22 237 380)) 237 580)) 237 1 ≤ ((wrM ((wrM I22 236 6 (I22 237 380))) 236 7 ((wrM I22 236 6 (I22 237 380)) 237 580)) 237 780 / (wrM ((wrM I22 236 6 (I22 237 380))) 236 7 ((wrM I22 236 6 (I22 237 380)) 237 580)) 237 2) - ((wrM ((wrM I22 236 6 (I22 237 380))) 236 7 ((wrM I22 236 6 (I22 237 380)) 237 580)) 237 3 / (wrM ((wrM I22 236 6 (I22 237 380))) 236 7 ((wrM I22 236 6 (I22 237 380)) 237 580)) 237 2) → J_M_takes_80 Q z21 10 ((wrM ((wrM I22 236 6 (I22 237 380))) 236 7 ((wrM I22 236 6 (I22 237 380)) 237 580)) 237 10) 1 (wrM ((wrM I22 236 6 (I22 237 380))) 236 7 ((wrM I22 236 6 (I22 237 380)) 237 580))) ∧
    (((wrM ((wrM I22 236 6 (I22 237 380))) 236 7 ((wrM I22 236 6 (I22 237 380)) 237 580)) 237 780 / (wrM ((wrM I22 236 6 (I22 237 380))) 236 7 ((wrM I22 236 6 (I22 237 380)) 237 580)) 237 2) - ((wrM ((wrM I22 236 6 (I22 237 380))) 236 7 ((wrM I22 236 6 (I22 237 380)) 237 580)) 237 3 / (wrM ((wrM I22 236 6 (I22 237 380))) 236 7 ((wrM I22 236 6 (I22 237 380)) 237 580)) 237 2) < (wrM ((wrM I22 236 6 (I22 237 380))) 236 7 ((wrM I22 236 6 (I22 237 380)) 237 580)) 237 1 → J_M_takes_80 Q z21 10 ((wrM ((wrM I22 236 6 (I22 237 380))) 236 7 ((wrM I22 236 6 (I22 237 380)) 237 580)) 237 10) 0 (wrM ((wrM I22 236 6 (I22 237 380))) 236 7 ((wrM I22 236 6 (I22 237 380)) 237 580))))
def L_M_take_32 (x1 : Int) (Q : Int → Mm → Prop)  : Nat → Int → Mm → Prop
  | 0, _, _ => False
  | n + 1, x2, I => (x1 ≤ x2 → Q x2 I) ∧
    (x2 < x1 → (I 237 0 ≤ 0 → Q x2 I) ∧
    (0 < I 237 0 → V_M_takes I (fun z24 I25 => r32 (x2 + 1) ∧ L_M_take_32 x1 Q n (x2 + 1) I25)))
def V_M_take (x1 : Int) (I : Mm) (Q : Int → Mm → Prop) : Prop :=
  V_M_in x1 1 99 I (fun z21 I22 => (¬ z21 = 0 → (¬ I22 237 0 = 0 → V_M_keepsAct I22 (fun I23 => ∃ f27 : Nat, L_M_take_32 x1 Q f27 0 I23)) ∧
    (I22 237 0 = 0 → Q (-2) I22)) ∧
    (z21 = 0 → Q (-1) I22))
def L_M_until_44 (x1 : Int) (Q : Int → Mm → Prop)  : Nat → Int → Mm → Prop
  | 0, _, _ => False
  | n + 1, x2, I => (999 ≤ x2 → Q x2 I) ∧
    (x2 < 999 → (I 237 0 ≤ 0 → Q x2 I) ∧
    (0 < I 237 0 → (x1 < I 237 780 → Q x2 I) ∧
    (I 237 780 ≤ x1 → V_M_takes I (fun z24 I25 => r32 (x2 + 1) ∧ L_M_until_44 x1 Q n (x2 + 1) I25))))
def V_M_until (x1 : Int) (I : Mm) (Q : Int → Mm → Prop) : Prop :=
  V_M_in x1 0 999999999 I (fun z21 I22 => (¬ z21 = 0 → (I22 237 0 = 0 → Q (-2) I22) ∧
    (¬ I22 237 0 = 0 → (I22 237 780 ≤ x1 → V_M_keepsAct I22 (fun I23 => ∃ f27 : Nat, L_M_until_44 x1 Q f27 0 I23)) ∧
    (x1 < I22 237 780 → Q (-2) I22))) ∧
    (z21 = 0 → Q (-1) I22))
def L_M_placeOf_2 (x1 : Int) (Q : Int → Mm → Prop)  : Nat → Int → Mm → Prop
  | 0, _, _ => False
  | n + 1, x2, I => (I 237 0 ≤ x2 → Q (-1) I) ∧
    (x2 < I 237 0 → (0 ≤ (380 + x2) ∧ (380 + x2) < 980) ∧ (¬ I 237 (380 + x2) = x1 → r32 (x2 + 1) ∧ L_M_placeOf_2 x1 Q n (x2 + 1) I) ∧
    (I 237 (380 + x2) = x1 → Q x2 I))
def V_M_placeOf (x1 : Int) (I : Mm) (Q : Int → Mm → Prop) : Prop :=
  ∃ f23 : Nat, L_M_placeOf_2 x1 Q f23 0 I
def V_M_cancel (x1 : Int) (I : Mm) (Q : Int → Mm → Prop) : Prop :=
  V_M_placeOf x1 I (fun z21 I22 => (0 ≤ z21 → V_M_keepsAct I22 (fun I23 => r32 (I23 237 15 + 1) ∧ V_M_leaves z21 ((wrM I23 237 15 (I23 237 15 + 1))) (fun I26 => Q (I26 237 0) I26))) ∧
    (z21 < 0 → Q (-1) I22))
def L_M_waiting_4 (x1 : Int) (Q : Int → Mm → Prop)  : Nat → Int → Int → Mm → Prop
  | 0, _, _, _ => False
  | n + 1, x2, x3, I => (I 237 0 ≤ x3 → Q x2 I) ∧
    (x3 < I 237 0 → (0 ≤ (580 + x3) ∧ (580 + x3) < 980) ∧ (¬ I 237 (580 + x3) = x1 → r32 (x2 + 0) ∧ r32 (x3 + 1) ∧ L_M_waiting_4 x1 Q n (x2 + 0) (x3 + 1) I) ∧
    (I 237 (580 + x3) = x1 → r32 (x2 + 1) ∧ r32 (x3 + 1) ∧ L_M_waiting_4 x1 Q n (x2 + 1) (x3 + 1) I))
def V_M_waiting (x1 : Int) (I : Mm) (Q : Int → Mm → Prop) : Prop :=
  ∃ f26 : Nat, L_M_waiting_4 x1 Q f26 0 0 I
def L_M_firstOf_2 (x1 : Int) (Q : Int → Mm → Prop)  : Nat → Int → Mm → Prop
  | 0, _, _ => False
  | n + 1, x2, I => (I 237 0 ≤ x2 → Q (-1) I) ∧
    (x2 < I 237 0 → (0 ≤ (580 + x2) ∧ (580 + x2) < 980) ∧ (¬ I 237 (580 + x2) = x1 → r32 (x2 + 1) ∧ L_M_firstOf_2 x1 Q n (x2 + 1) I) ∧
    (I 237 (580 + x2) = x1 → Q x2 I))
def V_M_firstOf (x1 : Int) (I : Mm) (Q : Int → Mm → Prop) : Prop :=
  ∃ f23 : Nat, L_M_firstOf_2 x1 Q f23 0 I
def L_M_clear_33 (x1 : Int) (Q : Int → Mm → Prop)  : Nat → Int → Int → Mm → Prop
  | 0, _, _, _ => False
  | n + 1, x2, x3, I => (x3 < 0 → Q x2 I) ∧
    (0 ≤ x3 → r32 (I 237 15 + 1) ∧ V_M_leaves x3 ((wrM I 237 15 (I 237 15 + 1))) (fun I30 => V_M_firstOf x1 I30 (fun z31 I32 => r32 (x2 + 1) ∧ L_M_clear_33 x1 Q n (x2 + 1) z31 I32)))
def V_M_clear (x1 : Int) (I : Mm) (Q : Int → Mm → Prop) : Prop :=
  V_M_isName x1 I (fun z21 I22 => (¬ z21 = 0 → V_M_waiting x1 I22 (fun z23 I24 => (¬ z23 = 0 → V_M_keepsAct I24 (fun I25 => V_M_firstOf x1 I25 (fun z26 I27 => ∃ f34 : Nat, L_M_clear_33 x1 Q f34 0 z26 I27))) ∧
    (z23 = 0 → Q (-2) I24))) ∧
    (z21 = 0 → Q (-1) I22))
def V_M_putsOff (x1 : Int) (x2 : Int) (I : Mm) (Q : Mm → Prop) : Prop :=
  V_M_placeOf x1 I (fun z21 I22 => (0 ≤ (580 + z21) ∧ (580 + z21) < 980) ∧ V_M_leaves z21 I22 (fun I24 => V_M_comes x1 (I22 237 (580 + z21)) x2 I24 (fun I25 => Q I25)))
def V_M_postpone (x1 : Int) (x2 : Int) (I : Mm) (Q : Int → Mm → Prop) : Prop :=
  V_M_placeOf x1 I (fun z21 I22 => (z21 < 0 → Q (-1) I22) ∧
    (0 ≤ z21 → V_M_in x2 0 999999999 I22 (fun z23 I24 => (¬ z23 = 0 → (I24 237 3 ≤ x2 → (0 ≤ (780 + z21) ∧ (780 + z21) < 980) ∧ (¬ I24 237 (780 + z21) = x2 → V_M_keepsAct I24 (fun I26 => V_M_putsOff x1 x2 I26 (fun I27 => Q (I24 237 (780 + z21)) I27))) ∧
    (I24 237 (780 + z21) = x2 → Q (-3) I24)) ∧
    (x2 < I24 237 3 → Q (-2) I24)) ∧
    (z23 = 0 → Q (-1) I24))))
def L_M_series_112 (x1 : Int) (x2 : Int) (x3 : Int) (x4 : Int) (x5 : Int) (Q : Int → Mm → Prop)  : Nat → Int → Mm → Prop
  | 0, _, _ => False
  | n + 1, x6, I => (x4 ≤ x6 → Q x5 I) ∧
    (x6 < x4 → r32 (x3 + (x2 * x6)) ∧ V_M_comesNew x1 (x3 + (x2 * x6)) I (fun z34 I35 => r32 (x6 + 1) ∧ L_M_series_112 x1 x2 x3 x4 x5 Q n (x6 + 1) I35))
def V_M_series (x1 : Int) (x2 : Int) (x3 : Int) (x4 : Int) (I : Mm) (Q : Int → Mm → Prop) : Prop :=
  V_M_isName x1 I (fun z21 I22 => (z21 = 0 → Q (-1) I22) ∧
    (¬ z21 = 0 → V_M_in x2 1 999999 I22 (fun z23 I24 => (z23 = 0 → Q (-1) I24) ∧
    (¬ z23 = 0 → V_M_in x3 0 999999999 I24 (fun z25 I26 => (z25 = 0 → Q (-1) I26) ∧
    (¬ z25 = 0 → V_M_in x4 1 50 I26 (fun z27 I28 => (¬ z27 = 0 → (I28 237 3 ≤ x3 → r32 (I28 237 0 + x4) ∧ (200 < I28 237 0 + x4 → Q (-3) I28) ∧
    (I28 237 0 + x4 ≤ 200 → r32 (x4 - 1) ∧ r64 (x3 + (x2 * (x4 - 1))) ∧ (x3 + (x2 * (x4 - 1)) ≤ 999999999 → V_M_keepsAct I28 (fun I32 => ∃ f37 : Nat, L_M_series_112 x1 x2 x3 x4 (I32 237 6) Q f37 0 I32)) ∧
    (999999999 < x3 + (x2 * (x4 - 1)) → Q (-3) I28))) ∧
    (x3 < I28 237 3 → Q (-2) I28)) ∧
    (z27 = 0 → Q (-1) I28))))))))
def L_M_shift_27 (x1 : Int) (x2 : Int) (Q : Int → Mm → Prop) (K99 : Int → Mm → Prop) : Nat → Int → Int → Mm → Prop
  | 0, _, _, _ => False
  | n + 1, x3, x4, I => (I 237 0 ≤ x4 → K99 x3 I) ∧
    (x4 < I 237 0 → (0 ≤ (580 + x4) ∧ (580 + x4) < 980) ∧ (I 237 (580 + x4) = x1 → (0 ≤ (380 + x4) ∧ (380 + x4) < 980) ∧ (0 ≤ x3 ∧ x3 < 200) ∧ (0 ≤ (780 + x4) ∧ (780 + x4) < 980) ∧ (0 ≤ x3 ∧ x3 < 200) ∧ r32 (x3 + 1) ∧ r32 (x4 + 1) ∧ L_M_shift_27 x1 x2 Q K99 n (x3 + 1) (x4 + 1) (wrM ((wrM I 242 x3 (I 237 (380 + x4)))) 243 x3 ((wrM I 242 x3 (I 237 (380 + x4))) 237 (780 + x4)))) ∧
    (¬ I 237 (580 + x4) = x1 → r32 (x4 + 1) ∧ L_M_shift_27 x1 x2 Q K99 n x3 (x4 + 1) I))
def L_M_shift_131 (x1 : Int) (x2 : Int) (x3 : Int) (Q : Int → Mm → Prop)  : Nat → Int → Mm → Prop
  | 0, _, _ => False
  | n + 1, x4, I => (x3 ≤ x4 → Q x3 I) ∧
    (x4 < x3 → (0 ≤ x4 ∧ x4 < 200) ∧ (0 ≤ x4 ∧ x4 < 200) ∧ r32 (I 243 x4 + x2) ∧ V_M_putsOff (I 242 x4) (I 243 x4 + x2) I (fun I43 => r32 (x4 + 1) ∧ L_M_shift_131 x1 x2 x3 Q n (x4 + 1) I43))
def V_M_shift (x1 : Int) (x2 : Int) (I : Mm) (Q : Int → Mm → Prop) : Prop :=
  V_M_isName x1 I (fun z21 I22 => (z21 = 0 → Q (-1) I22) ∧
    (¬ z21 = 0 → V_M_in x2 1 999999 I22 (fun z23 I24 => (¬ z23 = 0 → ∃ f46 : Nat, L_M_shift_27 x1 x2 Q (fun y35 I36 => (¬ y35 = 0 → (0 ≤ (y35 - 1) ∧ (y35 - 1) < 200) ∧ r32 (I36 243 (y35 - 1) + x2) ∧ (I36 243 (y35 - 1) + x2 ≤ 999999999 → V_M_keepsAct I36 (fun I39 => ∃ f45 : Nat, L_M_shift_131 x1 x2 y35 Q f45 0 I39)) ∧
    (999999999 < I36 243 (y35 - 1) + x2 → Q (-3) I36)) ∧
    (y35 = 0 → Q (-2) I36)) f46 0 0 I24) ∧
    (z23 = 0 → Q (-1) I24))))
def V_M_adds (x1 : Int) (x2 : Int) (x3 : Int) (I : Mm) (Q : Mm → Prop) : Prop :=
  (0 ≤ (144 + (3 * I 237 5)) ∧ (144 + (3 * I 237 5)) < 980) ∧ (0 ≤ ((144 + (3 * I 237 5)) + 1) ∧ ((144 + (3 * I 237 5)) + 1) < 980) ∧ (0 ≤ ((144 + (3 * I 237 5)) + 2) ∧ ((144 + (3 * I 237 5)) + 2) < 980) ∧ r32 ((wrM ((wrM ((wrM I 237 (144 + (3 * I 237 5)) x1)) 237 ((144 + (3 * I 237 5)) + 1) x2)) 237 ((144 + (3 * I 237 5)) + 2) x3) 237 5 + 1) ∧ Q ((wrM ((wrM ((wrM ((wrM I 237 (144 + (3 * I 237 5)) x1)) 237 ((144 + (3 * I 237 5)) + 1) x2)) 237 ((144 + (3 * I 237 5)) + 2) x3)) 237 5 ((wrM ((wrM ((wrM I 237 (144 + (3 * I 237 5)) x1)) 237 ((144 + (3 * I 237 5)) + 1) x2)) 237 ((144 + (3 * I 237 5)) + 2) x3) 237 5 + 1)))
def V_M_rule (x1 : Int) (x2 : Int) (x3 : Int) (I : Mm) (Q : Int → Mm → Prop) : Prop :=
  V_M_isName x1 I (fun z21 I22 => (z21 = 0 → Q (-1) I22) ∧
    (¬ z21 = 0 → V_M_isName x2 I22 (fun z23 I24 => (z23 = 0 → Q (-1) I24) ∧
    (¬ z23 = 0 → V_M_in x3 1 999999 I24 (fun z25 I26 => (¬ z25 = 0 → (¬ I26 237 5 = 12 → V_M_keepsAct I26 (fun I27 => V_M_adds x1 x2 x3 I27 (fun I28 => r32 (I28 237 5 - 1) ∧ Q (I28 237 5 - 1) I28))) ∧
    (I26 237 5 = 12 → Q (-2) I26)) ∧
    (z25 = 0 → Q (-1) I26))))))
def V_M_isRule (x1 : Int) (I : Mm) (Q : Int → Mm → Prop) : Prop :=
  r32 (I 237 5 - 1) ∧ V_M_in x1 0 (I 237 5 - 1) I (fun z22 I23 => (z22 = 0 ∨ z22 = 1) ∧ Q z22 I23)
def L_M_unrule_32 (x1 : Int) (Q : Int → Mm → Prop)  : Nat → Int → Mm → Prop
  | 0, _, _ => False
  | n + 1, x2, I => r32 (144 + (3 * I 237 5)) ∧ (144 + (3 * I 237 5) ≤ x2 → Q (I 237 5) I) ∧
    (x2 < 144 + (3 * I 237 5) → (0 ≤ (x2 + 3) ∧ (x2 + 3) < 980) ∧ (0 ≤ x2 ∧ x2 < 980) ∧ r32 (x2 + 1) ∧ L_M_unrule_32 x1 Q n (x2 + 1) (wrM I 237 x2 (I 237 (x2 + 3))))
def V_M_unrule (x1 : Int) (I : Mm) (Q : Int → Mm → Prop) : Prop :=
  V_M_isRule x1 I (fun z21 I22 => (¬ z21 = 0 → V_M_keepsAct I22 (fun I23 => r32 (I23 237 5 - 1) ∧ r32 (144 + (3 * x1)) ∧ ∃ f32 : Nat, L_M_unrule_32 x1 Q f32 (144 + (3 * x1)) (wrM I23 237 5 (I23 237 5 - 1)))) ∧
    (z21 = 0 → Q (-1) I22))
def V_M_areRows (x0 : Int) (I : Mm) (Q : Int → Mm → Prop) : Prop :=
  (x0 = 2 → Q 1 I) ∧
    (¬ x0 = 2 → (x0 = 4 → Q 1 I) ∧
    (¬ x0 = 4 → (x0 = 8 → Q 1 I) ∧
    (¬ x0 = 8 → (x0 = 16 → Q 1 I) ∧
    (¬ x0 = 16 → (x0 = 32 → Q 1 I) ∧
    (¬ x0 = 32 → (¬ x0 = 64 → Q 0 I) ∧
    (x0 = 64 → Q 1 I))))))
def J_M_resizes_21 (x1 : Int) (x2 : Int) (Q : Mm → Prop)   (I : Mm) : Prop :=
  r32 ((wrM ((wrM I 237 1 x1)) 237 2 x2) 237 9 + (wrM ((wrM I 237 1 x1)) 237 2 x2) 237 0) ∧ Q ((wrM ((wrM ((wrM I 237 1 x1)) 237 2 x2)) 237 9 ((wrM ((wrM I 237 1 x1)) 237 2 x2) 237 9 + (wrM ((wrM I 237 1 x1)) 237 2 x2) 237 0)))
def V_M_resizes (x1 : Int) (x2 : Int) (I : Mm) (Q : Mm → Prop) : Prop :=
  (¬ I 237 1 = x1 → J_M_resizes_21 x1 x2 Q I) ∧
    (I 237 1 = x1 → (¬ I 237 2 = x2 → J_M_resizes_21 x1 x2 Q I) ∧
    (I 237 2 = x2 → Q I))
def J_M_resize_46 (x1 : Int) (x2 : Int) (Q : Int → Mm → Prop)  (x3 : Int) (I : Mm) : Prop :=
  V_M_keepsAct I (fun I25 => V_M_resizes x1 x2 I25 (fun I26 => Q x3 I26))
def V_M_resize (x1 : Int) (x2 : Int) (I : Mm) (Q : Int → Mm → Prop) : Prop :=
  V_M_areRows x1 I (fun z21 I22 => (z21 = 0 → Q (-1) I22) ∧
    (¬ z21 = 0 → V_M_in x2 1 99999999 I22 (fun z23 I24 => (¬ z23 = 0 → (¬ I24 237 1 = x1 → J_M_resize_46 x1 x2 Q (I24 237 1) I24) ∧
    (I24 237 1 = x1 → (¬ I24 237 2 = x2 → J_M_resize_46 x1 x2 Q (I24 237 1) I24) ∧
    (I24 237 2 = x2 → Q (-2) I24))) ∧
    (z23 = 0 → Q (-1) I24))))
def L_M_undo_21  (Q : Int → Mm → Prop)  : Nat → Int → Mm → Prop
  | 0, _, _ => False
  | n + 1, x1, I => (980 ≤ x1 → Q (I 236 3) I) ∧
    (x1 < 980 → (0 ≤ ((980 * I 236 3) + x1) ∧ ((980 * I 236 3) + x1) < 9800) ∧ (0 ≤ x1 ∧ x1 < 980) ∧ r32 (x1 + 1) ∧ L_M_undo_21 Q n (x1 + 1) (wrM I 237 x1 (I 239 ((980 * I 236 3) + x1))))
def V_M_undo  (I : Mm) (Q : Int → Mm → Prop) : Prop :=
  (¬ I 236 3 = 0 → r32 (I 236 3 - 1) ∧ ∃ f27 : Nat, L_M_undo_21 Q f27 0 (wrM I 236 3 (I 236 3 - 1))) ∧
    (I 236 3 = 0 → Q (-1) I)
def L_M_keep_14 (x1 : Int) (Q : Int → Mm → Prop)  : Nat → Int → Mm → Prop
  | 0, _, _ => False
  | n + 1, x2, I => (980 ≤ x2 → (0 ≤ x1 ∧ x1 < 2) ∧ Q ((wrM I 241 x1 1) 237 0) ((wrM I 241 x1 1))) ∧
    (x2 < 980 → (0 ≤ x2 ∧ x2 < 980) ∧ (0 ≤ ((980 * x1) + x2) ∧ ((980 * x1) + x2) < 1960) ∧ r32 (x2 + 1) ∧ L_M_keep_14 x1 Q n (x2 + 1) (wrM I 240 ((980 * x1) + x2) (I 237 x2)))
def V_M_keep (x1 : Int) (I : Mm) (Q : Int → Mm → Prop) : Prop :=
  V_M_in x1 0 1 I (fun z21 I22 => (¬ z21 = 0 → ∃ f29 : Nat, L_M_keep_14 x1 Q f29 0 I22) ∧
    (z21 = 0 → Q (-1) I22))
def L_M_back_26 (x1 : Int) (Q : Int → Mm → Prop)  : Nat → Int → Mm → Prop
  | 0, _, _ => False
  | n + 1, x2, I => (980 ≤ x2 → Q ((wrM I 236 3 0) 237 0) ((wrM I 236 3 0))) ∧
    (x2 < 980 → (0 ≤ ((980 * x1) + x2) ∧ ((980 * x1) + x2) < 1960) ∧ (0 ≤ x2 ∧ x2 < 980) ∧ r32 (x2 + 1) ∧ L_M_back_26 x1 Q n (x2 + 1) (wrM I 237 x2 (I 240 ((980 * x1) + x2))))
def V_M_back (x1 : Int) (I : Mm) (Q : Int → Mm → Prop) : Prop :=
  V_M_in x1 0 1 I (fun z21 I22 => (¬ z21 = 0 → (0 ≤ x1 ∧ x1 < 2) ∧ (¬ I22 241 x1 = 0 → ∃ f29 : Nat, L_M_back_26 x1 Q f29 0 I22) ∧
    (I22 241 x1 = 0 → Q (-2) I22)) ∧
    (z21 = 0 → Q (-1) I22))
def V_M_rowOf (x1 : Int) (I : Mm) (Q : Int → Mm → Prop) : Prop :=
  (0 ≤ (780 + x1) ∧ (780 + x1) < 980) ∧ (0 ≤ I 237 (780 + x1) ∧ 0 < I 237 2) ∧ (0 ≤ (I 237 (780 + x1) / I 237 2) ∧ 0 < I 237 1) ∧ Q ((I 237 (780 + x1) / I 237 2) % I 237 1) I
def V_M_next (x1 : Int) (x2 : Int) (I : Mm) (Q : Int → Mm → Prop) : Prop :=
  r32 (I 237 0 - 1) ∧ V_M_in x1 0 (I 237 0 - 1) I (fun z22 I23 => (¬ z22 = 0 → (x2 = 0 → (0 ≤ (380 + x1) ∧ (380 + x1) < 980) ∧ Q (I23 237 (380 + x1)) I23) ∧
    (x2 = 1 → (0 ≤ (580 + x1) ∧ (580 + x1) < 980) ∧ Q (I23 237 (580 + x1)) I23) ∧
    (x2 = 2 → (0 ≤ (780 + x1) ∧ (780 + x1) < 980) ∧ Q (I23 237 (780 + x1)) I23) ∧
    (x2 = 3 → V_M_rowOf x1 I23 (fun z27 I28 => Q z27 I28)) ∧
    (x2 < 0 ∨ 3 < x2 → Q (-1) I23)) ∧
    (z22 = 0 → Q (-1) I23))
def L_M_aheadInRow_4 (x1 : Int) (Q : Int → Mm → Prop)  : Nat → Int → Int → Mm → Prop
  | 0, _, _, _ => False
  | n + 1, x2, x3, I => (x1 ≤ x3 → Q x2 I) ∧
    (x3 < x1 → V_M_rowOf x3 I (fun z21 I22 => V_M_rowOf x1 I22 (fun z23 I24 => (¬ z21 = z23 → r32 (x2 + 0) ∧ r32 (x3 + 1) ∧ L_M_aheadInRow_4 x1 Q n (x2 + 0) (x3 + 1) I24) ∧
    (z21 = z23 → r32 (x2 + 1) ∧ r32 (x3 + 1) ∧ L_M_aheadInRow_4 x1 Q n (x2 + 1) (x3 + 1) I24))))
def V_M_aheadInRow (x1 : Int) (I : Mm) (Q : Int → Mm → Prop) : Prop :=
  ∃ f29 : Nat, L_M_aheadInRow_4 x1 Q f29 0 0 I
def V_M_of (x1 : Int) (x2 : Int) (I : Mm) (Q : Int → Mm → Prop) : Prop :=
  V_M_placeOf x1 I (fun z21 I22 => (0 ≤ z21 → (¬ x2 = 0 → (¬ x2 = 4 → V_M_in x2 1 3 I22 (fun z23 I24 => (z23 = 0 → Q (-1) I24) ∧
    (¬ z23 = 0 → V_M_next z21 x2 I24 (fun z25 I26 => Q z25 I26)))) ∧
    (x2 = 4 → V_M_aheadInRow z21 I22 (fun z27 I28 => Q z27 I28))) ∧
    (x2 = 0 → Q z21 I22)) ∧
    (z21 < 0 → Q (-1) I22))
def L_M_row_30 (x1 : Int) (x2 : Int) (Q : Int → Mm → Prop)  : Nat → Int → Int → Mm → Prop
  | 0, _, _, _ => False
  | n + 1, x3, x4, I => (I 237 0 ≤ x4 → (¬ x2 = -1 → Q (-2) I) ∧
    (x2 = -1 → Q x3 I)) ∧
    (x4 < I 237 0 → V_M_rowOf x4 I (fun z24 I25 => (z24 = x1 → (¬ x3 = x2 → r32 (x3 + 1) ∧ r32 (x4 + 1) ∧ L_M_row_30 x1 x2 Q n (x3 + 1) (x4 + 1) I25) ∧
    (x3 = x2 → (0 ≤ (380 + x4) ∧ (380 + x4) < 980) ∧ Q (I25 237 (380 + x4)) I25)) ∧
    (¬ z24 = x1 → r32 (x4 + 1) ∧ L_M_row_30 x1 x2 Q n x3 (x4 + 1) I25)))
def V_M_row (x1 : Int) (x2 : Int) (I : Mm) (Q : Int → Mm → Prop) : Prop :=
  r32 (I 237 1 - 1) ∧ V_M_in x1 0 (I 237 1 - 1) I (fun z22 I23 => (z22 = 0 → Q (-1) I23) ∧
    (¬ z22 = 0 → (-1 ≤ x2 → ∃ f30 : Nat, L_M_row_30 x1 x2 Q f30 0 0 I23) ∧
    (x2 < -1 → Q (-1) I23)))
def L_M_letters_2 (x1 : Int) (Q : Int → Mm → Prop)  : Nat → Int → Mm → Prop
  | 0, _, _ => False
  | n + 1, x2, I => (6 ≤ x2 → Q x2 I) ∧
    (x2 < 6 → (0 ≤ ((48 + (6 * x1)) + x2) ∧ ((48 + (6 * x1)) + x2) < 980) ∧ (I 237 ((48 + (6 * x1)) + x2) ≤ 0 → Q x2 I) ∧
    (0 < I 237 ((48 + (6 * x1)) + x2) → r32 (x2 + 1) ∧ L_M_letters_2 x1 Q n (x2 + 1) I))
def V_M_letters (x1 : Int) (I : Mm) (Q : Int → Mm → Prop) : Prop :=
  ∃ f23 : Nat, L_M_letters_2 x1 Q f23 0 I
def V_M_letter (x1 : Int) (x2 : Int) (I : Mm) (Q : Int → Mm → Prop) : Prop :=
  V_M_isName x1 I (fun z21 I22 => (z21 = 0 → Q (-1) I22) ∧
    (¬ z21 = 0 → V_M_letters x1 I22 (fun z23 I24 => r32 (z23 - 1) ∧ V_M_in x2 0 (z23 - 1) I24 (fun z26 I27 => (z26 = 0 → Q (-1) I27) ∧
    (¬ z26 = 0 → (0 ≤ ((48 + (6 * x1)) + x2) ∧ ((48 + (6 * x1)) + x2) < 980) ∧ Q (I27 237 ((48 + (6 * x1)) + x2)) I27)))))
def L_M_rulesOf_4 (x1 : Int) (Q : Int → Mm → Prop)  : Nat → Int → Int → Mm → Prop
  | 0, _, _, _ => False
  | n + 1, x2, x3, I => (I 237 5 ≤ x3 → Q x2 I) ∧
    (x3 < I 237 5 → (0 ≤ (144 + (3 * x3)) ∧ (144 + (3 * x3)) < 980) ∧ (¬ I 237 (144 + (3 * x3)) = x1 → r32 (x2 + 0) ∧ r32 (x3 + 1) ∧ L_M_rulesOf_4 x1 Q n (x2 + 0) (x3 + 1) I) ∧
    (I 237 (144 + (3 * x3)) = x1 → r32 (x2 + 1) ∧ r32 (x3 + 1) ∧ L_M_rulesOf_4 x1 Q n (x2 + 1) (x3 + 1) I))
def V_M_rulesOf (x1 : Int) (I : Mm) (Q : Int → Mm → Prop) : Prop :=
  ∃ f26 : Nat, L_M_rulesOf_4 x1 Q f26 0 0 I
def V_M_named (x1 : Int) (x2 : Int) (I : Mm) (Q : Int → Mm → Prop) : Prop :=
  V_M_isName x1 I (fun z21 I22 => (¬ z21 = 0 → (x2 = 0 → V_M_waiting x1 I22 (fun z23 I24 => Q z23 I24)) ∧
    (x2 = 1 → V_M_firstOf x1 I22 (fun z25 I26 => (0 ≤ z25 → V_M_firstOf x1 I26 (fun z27 I28 => (0 ≤ (780 + z27) ∧ (780 + z27) < 980) ∧ Q (I28 237 (780 + z27)) I28)) ∧
    (z25 < 0 → Q (-2) I26))) ∧
    (x2 = 2 → (0 ≤ (16 + x1) ∧ (16 + x1) < 980) ∧ Q (I22 237 (16 + x1)) I22) ∧
    (x2 = 3 → V_M_rulesOf x1 I22 (fun z31 I32 => Q z31 I32)) ∧
    (x2 = 4 → (0 ≤ (32 + x1) ∧ (32 + x1) < 980) ∧ Q (I22 237 (32 + x1)) I22) ∧
    (x2 < 0 ∨ 4 < x2 → Q (-1) I22)) ∧
    (z21 = 0 → Q (-1) I22))
def V_M_ruled (x1 : Int) (x2 : Int) (I : Mm) (Q : Int → Mm → Prop) : Prop :=
  V_M_isRule x1 I (fun z21 I22 => (z21 = 0 → Q (-1) I22) ∧
    (¬ z21 = 0 → V_M_in x2 0 2 I22 (fun z23 I24 => (z23 = 0 → Q (-1) I24) ∧
    (¬ z23 = 0 → (0 ≤ ((144 + (3 * x1)) + x2) ∧ ((144 + (3 * x1)) + x2) < 980) ∧ Q (I24 237 ((144 + (3 * x1)) + x2)) I24))))
def V_M_log (x1 : Int) (x2 : Int) (I : Mm) (Q : Int → Mm → Prop) : Prop :=
  r32 (I 237 7 - 1) ∧ V_M_in x1 0 (I 237 7 - 1) I (fun z22 I23 => (z22 = 0 → Q (-1) I23) ∧
    (¬ z22 = 0 → V_M_in x2 0 3 I23 (fun z24 I25 => (z24 = 0 → Q (-1) I25) ∧
    (¬ z24 = 0 → (0 ≤ ((180 + (4 * x1)) + x2) ∧ ((180 + (4 * x1)) + x2) < 980) ∧ Q (I25 237 ((180 + (4 * x1)) + x2)) I25))))
def V_M_total (x1 : Int) (I : Mm) (Q : Int → Mm → Prop) : Prop :=
  V_M_in x1 0 7 I (fun z21 I22 => (z21 = 0 → Q (-1) I22) ∧
    (¬ z21 = 0 → (0 ≤ (8 + x1) ∧ (8 + x1) < 980) ∧ Q (I22 237 (8 + x1)) I22))
def V_M_count (x1 : Int) (I : Mm) (Q : Int → Mm → Prop) : Prop :=
  (x1 = 0 → Q (I 237 0) I) ∧
    (x1 = 1 → Q (I 237 1) I) ∧
    (x1 = 2 → Q (I 237 2) I) ∧
    (x1 = 3 → Q (I 237 3) I) ∧
    (x1 = 4 → Q (I 237 4) I) ∧
    (x1 = 5 → Q (I 237 5) I) ∧
    (x1 = 6 → Q (I 236 3) I) ∧
    (x1 = 7 → Q (I 236 16) I) ∧
    (x1 = 8 → (I 241 0 = 0 → (I 241 1 = 0 → r32 (0 + 0) ∧ Q (0 + 0) I) ∧
    (¬ I 241 1 = 0 → r32 (0 + 2) ∧ Q (0 + 2) I)) ∧
    (¬ I 241 0 = 0 → (I 241 1 = 0 → r32 (1 + 0) ∧ Q (1 + 0) I) ∧
    (¬ I 241 1 = 0 → r32 (1 + 2) ∧ Q (1 + 2) I))) ∧
    (x1 = 9 → Q (I 237 6) I) ∧
    (x1 < 0 ∨ 9 < x1 → Q (-1) I)
def L_M_mostIn_7 (x1 : Int) (Q : Int → Mm → Prop)  : Nat → Int → Int → Int → Mm → Prop
  | 0, _, _, _, _ => False
  | n + 1, x2, x3, x4, I => (I 237 1 ≤ x4 → (x1 = 0 → Q x2 I) ∧
    (¬ x1 = 0 → Q x3 I)) ∧
    (x4 < I 237 1 → V_M_row x4 (-1) I (fun z21 I22 => (x2 < z21 → r32 (x4 + 1) ∧ L_M_mostIn_7 x1 Q n z21 x4 (x4 + 1) I22) ∧
    (z21 ≤ x2 → r32 (x4 + 1) ∧ L_M_mostIn_7 x1 Q n x2 x3 (x4 + 1) I22)))
def V_M_mostIn (x1 : Int) (I : Mm) (Q : Int → Mm → Prop) : Prop :=
  ∃ f25 : Nat, L_M_mostIn_7 x1 Q f25 0 0 0 I
def L_M_bare_4  (Q : Int → Mm → Prop)  : Nat → Int → Int → Mm → Prop
  | 0, _, _, _ => False
  | n + 1, x1, x2, I => (I 237 1 ≤ x2 → Q x1 I) ∧
    (x2 < I 237 1 → V_M_row x2 (-1) I (fun z21 I22 => (¬ z21 = 0 → r32 (x1 + 0) ∧ r32 (x2 + 1) ∧ L_M_bare_4 Q n (x1 + 0) (x2 + 1) I22) ∧
    (z21 = 0 → r32 (x1 + 1) ∧ r32 (x2 + 1) ∧ L_M_bare_4 Q n (x1 + 1) (x2 + 1) I22)))
def V_M_bare  (I : Mm) (Q : Int → Mm → Prop) : Prop :=
  ∃ f27 : Nat, L_M_bare_4 Q f27 0 0 I
def J_M_mostAlike_52  (Q : Int → Mm → Prop) (K6 : Int → Int → Int → Mm → Prop) (x1 : Int) (x3 : Int) (t0 : Int) (I : Mm) : Prop :=
  (t0 ≤ x1 → r32 (x3 + 1) ∧ K6 x1 t0 (x3 + 1) I) ∧
    (x1 < t0 → r32 (x3 + 1) ∧ K6 t0 t0 (x3 + 1) I)
def J_M_mostAlike_51  (Q : Int → Mm → Prop) (K6 : Int → Int → Int → Mm → Prop) (x1 : Int) (x3 : Int) (I : Mm) : Prop :=
  J_M_mostAlike_52 Q K6 x1 x3 1 I
def L_M_mostAlike_6  (Q : Int → Mm → Prop)  : Nat → Int → Int → Int → Mm → Prop
  | 0, _, _, _, _ => False
  | n + 1, x1, x2, x3, I => (I 237 0 ≤ x3 → Q x1 I) ∧
    (x3 < I 237 0 → (x3 ≤ 0 → J_M_mostAlike_51 Q (fun x1 x2 x3 I => L_M_mostAlike_6 Q n x1 x2 x3 I) x1 x3 I) ∧
    (0 < x3 → (0 ≤ (780 + x3) ∧ (780 + x3) < 980) ∧ (0 ≤ ((780 + x3) - 1) ∧ ((780 + x3) - 1) < 980) ∧ (¬ I 237 (780 + x3) = I 237 ((780 + x3) - 1) → J_M_mostAlike_51 Q (fun x1 x2 x3 I => L_M_mostAlike_6 Q n x1 x2 x3 I) x1 x3 I) ∧
    (I 237 (780 + x3) = I 237 ((780 + x3) - 1) → r32 (x2 + 1) ∧ J_M_mostAlike_52 Q (fun x1 x2 x3 I => L_M_mostAlike_6 Q n x1 x2 x3 I) x1 x3 (x2 + 1) I)))
def V_M_mostAlike  (I : Mm) (Q : Int → Mm → Prop) : Prop :=
  ∃ f30 : Nat, L_M_mostAlike_6 Q f30 0 0 0 I
def V_M_gapAt (x1 : Int) (I : Mm) (Q : Int → Mm → Prop) : Prop :=
  (0 ≤ ((780 + x1) + 1) ∧ ((780 + x1) + 1) < 980) ∧ (0 ≤ (780 + x1) ∧ (780 + x1) < 980) ∧ r32 (I 237 ((780 + x1) + 1) - I 237 (780 + x1)) ∧ Q (I 237 ((780 + x1) + 1) - I 237 (780 + x1)) I
def L_M_greatestGap_4  (Q : Int → Mm → Prop)  : Nat → Int → Int → Mm → Prop
  | 0, _, _, _ => False
  | n + 1, x1, x2, I => r32 (x2 + 1) ∧ (I 237 0 ≤ x2 + 1 → Q x1 I) ∧
    (x2 + 1 < I 237 0 → V_M_gapAt x2 I (fun z22 I23 => (z22 ≤ x1 → r32 (x2 + 1) ∧ L_M_greatestGap_4 Q n x1 (x2 + 1) I23) ∧
    (x1 < z22 → V_M_gapAt x2 I23 (fun z25 I26 => r32 (x2 + 1) ∧ L_M_greatestGap_4 Q n z25 (x2 + 1) I26))))
def V_M_greatestGap  (I : Mm) (Q : Int → Mm → Prop) : Prop :=
  ∃ f28 : Nat, L_M_greatestGap_4 Q f28 0 0 I
def V_M_skew (x1 : Int) (I : Mm) (Q : Int → Mm → Prop) : Prop :=
  (x1 = 0 → V_M_mostIn 0 I (fun z21 I22 => Q z21 I22)) ∧
    (x1 = 1 → V_M_mostIn 1 I (fun z23 I24 => Q z23 I24)) ∧
    (x1 = 2 → V_M_bare I (fun z25 I26 => Q z25 I26)) ∧
    (x1 = 3 → V_M_mostAlike I (fun z27 I28 => Q z27 I28)) ∧
    (x1 = 4 → (2 ≤ I 237 0 → (0 ≤ ((780 + I 237 0) - 1) ∧ ((780 + I 237 0) - 1) < 980) ∧ r32 (I 237 ((780 + I 237 0) - 1) - I 237 780) ∧ r32 (I 237 0 - 1) ∧ (0 ≤ (I 237 ((780 + I 237 0) - 1) - I 237 780) ∧ 0 < (I 237 0 - 1)) ∧ Q ((I 237 ((780 + I 237 0) - 1) - I 237 780) / (I 237 0 - 1)) I) ∧
    (I 237 0 < 2 → Q 0 I)) ∧
    (x1 = 5 → V_M_greatestGap I (fun z33 I34 => Q z33 I34)) ∧
    (x1 < 0 ∨ 5 < x1 → Q (-1) I)
def V_M_looks  (I : Mm) (Q : Int → Mm → Prop) : Prop :=
  (¬ I 237 0 = 0 → V_M_looksNow I (fun z21 I22 => Q z21 I22)) ∧
    (I 237 0 = 0 → Q (-2) I)
def L_M_looksBy_13 (x1 : Int) (x2 : Int) (Q : Int → Mm → Prop)  : Nat → Int → Int → Int → Mm → Prop
  | 0, _, _, _, _ => False
  | n + 1, x3, x4, x5, I => (I 237 0 ≤ x5 → Q x4 I) ∧
    (x5 < I 237 0 → (0 ≤ (780 + x5) ∧ (780 + x5) < 980) ∧ V_M_looksTo x3 (I 237 (780 + x5)) x1 x2 I (fun z22 I23 => (0 ≤ (780 + x5) ∧ (780 + x5) < 980) ∧ r32 (x4 + z22) ∧ r32 (x5 + 1) ∧ L_M_looksBy_13 x1 x2 Q n (I23 237 (780 + x5)) (x4 + z22) (x5 + 1) I23))
def V_M_looksBy (x1 : Int) (x2 : Int) (I : Mm) (Q : Int → Mm → Prop) : Prop :=
  ∃ f27 : Nat, L_M_looksBy_13 x1 x2 Q f27 (I 237 3) 0 0 I
def V_M_lookBy (x1 : Int) (x2 : Int) (I : Mm) (Q : Int → Mm → Prop) : Prop :=
  V_M_areRows x1 I (fun z21 I22 => (z21 = 0 → Q (-1) I22) ∧
    (¬ z21 = 0 → V_M_in x2 1 99999999 I22 (fun z23 I24 => (z23 = 0 → Q (-1) I24) ∧
    (¬ z23 = 0 → V_M_looksBy x1 x2 I24 (fun z25 I26 => Q z25 I26)))))
def L_M_best_24 (x1 : Int) (x2 : Int) (Q : Int → Mm → Prop)  : Nat → Int → Int → Mm → Prop
  | 0, _, _, _ => False
  | n + 1, x3, x4, I => (27 ≤ x4 → (¬ x2 = 0 → V_M_looksBy x1 x3 I (fun z25 I26 => Q z25 I26)) ∧
    (x2 = 0 → Q x3 I)) ∧
    (x4 < 27 → V_M_looksBy x1 (bShl 1 x4) I (fun z27 I28 => V_M_looksBy x1 x3 I28 (fun z29 I30 => (z29 ≤ z27 → r32 (x4 + 1) ∧ L_M_best_24 x1 x2 Q n x3 (x4 + 1) I30) ∧
    (z27 < z29 → r32 (x4 + 1) ∧ L_M_best_24 x1 x2 Q n (bShl 1 x4) (x4 + 1) I30))))
def V_M_best (x1 : Int) (x2 : Int) (I : Mm) (Q : Int → Mm → Prop) : Prop :=
  V_M_areRows x1 I (fun z21 I22 => (z21 = 0 → Q (-1) I22) ∧
    (¬ z21 = 0 → V_M_in x2 0 1 I22 (fun z23 I24 => (¬ z23 = 0 → ∃ f33 : Nat, L_M_best_24 x1 x2 Q f33 1 1 I24) ∧
    (z23 = 0 → Q (-1) I24))))
def V_M_widthNow  (I : Mm) (Q : Int → Mm → Prop) : Prop :=
  V_M_widthAnew I (fun z21 I22 => Q z21 I22)
def L_M_keepsAside_2  (Q : Mm → Prop)  : Nat → Int → Mm → Prop
  | 0, _, _ => False
  | n + 1, x1, I => (980 ≤ x1 → Q I) ∧
    (x1 < 980 → (0 ≤ x1 ∧ x1 < 980) ∧ (0 ≤ x1 ∧ x1 < 980) ∧ r32 (x1 + 1) ∧ L_M_keepsAside_2 Q n (x1 + 1) (wrM I 238 x1 (I 237 x1)))
def V_M_keepsAside  (I : Mm) (Q : Mm → Prop) : Prop :=
  ∃ f25 : Nat, L_M_keepsAside_2 Q f25 0 I
def L_M_isAgain_2  (Q : Mm → Prop)  : Nat → Int → Mm → Prop
  | 0, _, _ => False
  | n + 1, x1, I => (980 ≤ x1 → Q I) ∧
    (x1 < 980 → (0 ≤ x1 ∧ x1 < 980) ∧ (0 ≤ x1 ∧ x1 < 980) ∧ r32 (x1 + 1) ∧ L_M_isAgain_2 Q n (x1 + 1) (wrM I 237 x1 (I 238 x1)))
def V_M_isAgain  (I : Mm) (Q : Mm → Prop) : Prop :=
  ∃ f25 : Nat, L_M_isAgain_2 Q f25 0 I
def L_M_ahead_35 (x1 : Int) (x2 : Int) (Q : Int → Mm → Prop) (K63 : Int → Int → Mm → Prop) : Nat → Int → Int → Mm → Prop
  | 0, _, _, _ => False
  | n + 1, x3, x4, I => (x1 ≤ x4 → K63 x3 x4 I) ∧
    (x4 < x1 → (I 237 0 ≤ 0 → K63 x3 x4 I) ∧
    (0 < I 237 0 → V_M_takes I (fun z26 I27 => r32 (x3 + z26) ∧ r32 (x4 + 1) ∧ L_M_ahead_35 x1 x2 Q K63 n (x3 + z26) (x4 + 1) I27)))
def V_M_ahead (x1 : Int) (x2 : Int) (I : Mm) (Q : Int → Mm → Prop) : Prop :=
  V_M_in x1 1 300 I (fun z21 I22 => (z21 = 0 → Q (-1) I22) ∧
    (¬ z21 = 0 → V_M_in x2 0 4 I22 (fun z23 I24 => (¬ z23 = 0 → V_M_keepsAside I24 (fun I25 => ∃ f34 : Nat, L_M_ahead_35 x1 x2 Q (fun y30 y31 I32 => V_M_isAgain I32 (fun I33 => (x1 ≤ y31 → (¬ x2 = 0 → (¬ x2 = 1 → (¬ x2 = 2 → (¬ x2 = 3 → Q y30 I33) ∧
    (x2 = 3 → Q (I32 237 0) I33)) ∧
    (x2 = 2 → Q (I32 237 3) I33)) ∧
    (x2 = 1 → Q (I33 236 7) I33)) ∧
    (x2 = 0 → Q (I33 236 6) I33)) ∧
    (y31 < x1 → Q (-2) I33))) f34 0 0 I25)) ∧
    (z23 = 0 → Q (-1) I24))))
def L_M_busiest_38 (x1 : Int) (x2 : Int) (Q : Int → Mm → Prop) (K57 : Mm → Prop) : Nat → Int → Mm → Prop
  | 0, _, _ => False
  | n + 1, x3, I => (16 ≤ x3 → K57 I) ∧
    (x3 < 16 → (0 ≤ x3 ∧ x3 < 16) ∧ r32 (x3 + 1) ∧ L_M_busiest_38 x1 x2 Q K57 n (x3 + 1) (wrM I 244 x3 0))
def L_M_busiest_63 (x1 : Int) (x2 : Int) (Q : Int → Mm → Prop) (K102 : Mm → Prop) : Nat → Int → Mm → Prop
  | 0, _, _ => False
  | n + 1, x3, I => (x1 ≤ x3 → K102 I) ∧
    (x3 < x1 → (I 237 0 ≤ 0 → K102 I) ∧
    (0 < I 237 0 → V_M_takes I (fun z30 I31 => (0 ≤ I31 236 7 ∧ I31 236 7 < 16) ∧ (0 ≤ I31 236 7 ∧ I31 236 7 < 16) ∧ r32 (I31 244 (I31 236 7) + 1) ∧ r32 (x3 + 1) ∧ L_M_busiest_63 x1 x2 Q K102 n (x3 + 1) (wrM I31 244 (I31 236 7) (I31 244 (I31 236 7) + 1)))))
def L_M_busiest_111 (x1 : Int) (x2 : Int) (Q : Int → Mm → Prop)  : Nat → Int → Int → Mm → Prop
  | 0, _, _, _ => False
  | n + 1, x3, x4, I => (16 ≤ x4 → (¬ x2 = 0 → (0 ≤ x3 ∧ x3 < 16) ∧ Q (I 244 x3) I) ∧
    (x2 = 0 → Q x3 I)) ∧
    (x4 < 16 → (0 ≤ x4 ∧ x4 < 16) ∧ (0 ≤ x3 ∧ x3 < 16) ∧ (I 244 x4 ≤ I 244 x3 → r32 (x4 + 1) ∧ L_M_busiest_111 x1 x2 Q n x3 (x4 + 1) I) ∧
    (I 244 x3 < I 244 x4 → r32 (x4 + 1) ∧ L_M_busiest_111 x1 x2 Q n x4 (x4 + 1) I))
def V_M_busiest (x1 : Int) (x2 : Int) (I : Mm) (Q : Int → Mm → Prop) : Prop :=
  V_M_in x1 1 300 I (fun z21 I22 => (z21 = 0 → Q (-1) I22) ∧
    (¬ z21 = 0 → V_M_in x2 0 1 I22 (fun z23 I24 => (¬ z23 = 0 → (¬ I24 237 0 = 0 → ∃ f46 : Nat, L_M_busiest_38 x1 x2 Q (fun I28 => V_M_keepsAside I28 (fun I29 => ∃ f45 : Nat, L_M_busiest_63 x1 x2 Q (fun I37 => V_M_isAgain I37 (fun I38 => ∃ f44 : Nat, L_M_busiest_111 x1 x2 Q f44 0 1 I38)) f45 0 I29)) f46 0 I24) ∧
    (I24 237 0 = 0 → Q (-2) I24)) ∧
    (z23 = 0 → Q (-1) I24))))
def L_M_when_35 (x1 : Int) (x2 : Int) (x4 : Int) (Q : Int → Mm → Prop) (K85 : Int → Mm → Prop) : Nat → Int → Int → Mm → Prop
  | 0, _, _, _ => False
  | n + 1, x3, x5, I => (300 ≤ x5 → K85 x3 I) ∧
    (x5 < 300 → (I 237 0 ≤ 0 → K85 x3 I) ∧
    (0 < I 237 0 → (x2 ≤ x3 → K85 x3 I) ∧
    (x3 < x2 → V_M_takes I (fun z26 I27 => (¬ I27 236 7 = x1 → r32 (x3 + 0) ∧ r32 (x5 + 1) ∧ L_M_when_35 x1 x2 x4 Q K85 n (x3 + 0) (x5 + 1) I27) ∧
    (I27 236 7 = x1 → r32 (x3 + 1) ∧ r32 (x5 + 1) ∧ L_M_when_35 x1 x2 x4 Q K85 n (x3 + 1) (x5 + 1) I27)))))
def V_M_when (x1 : Int) (x2 : Int) (I : Mm) (Q : Int → Mm → Prop) : Prop :=
  V_M_isName x1 I (fun z21 I22 => (z21 = 0 → Q (-1) I22) ∧
    (¬ z21 = 0 → V_M_in x2 1 99 I22 (fun z23 I24 => (¬ z23 = 0 → V_M_keepsAside I24 (fun I25 => ∃ f36 : Nat, L_M_when_35 x1 x2 (-2) Q (fun y32 I33 => (¬ y32 = x2 → V_M_isAgain I33 (fun I34 => Q (-2) I34)) ∧
    (y32 = x2 → V_M_isAgain I33 (fun I35 => Q (I33 237 3) I35))) f36 0 0 I25)) ∧
    (z23 = 0 → Q (-1) I24))))
def L_M_dueIn_6 (x1 : Int) (x3 : Int) (Q : Int → Mm → Prop)  : Nat → Int → Int → Mm → Prop
  | 0, _, _, _ => False
  | n + 1, x5, x6, I => (I 237 0 ≤ x6 → Q x5 I) ∧
    (x6 < I 237 0 → (0 ≤ (780 + x6) ∧ (780 + x6) < 980) ∧ (I 237 (780 + x6) < x1 → r32 (x5 + 0) ∧ r32 (x6 + 1) ∧ L_M_dueIn_6 x1 x3 Q n (x5 + 0) (x6 + 1) I) ∧
    (x1 ≤ I 237 (780 + x6) → (0 ≤ (780 + x6) ∧ (780 + x6) < 980) ∧ (x3 ≤ I 237 (780 + x6) → r32 (x5 + 0) ∧ r32 (x6 + 1) ∧ L_M_dueIn_6 x1 x3 Q n (x5 + 0) (x6 + 1) I) ∧
    (I 237 (780 + x6) < x3 → r32 (x5 + 1) ∧ r32 (x6 + 1) ∧ L_M_dueIn_6 x1 x3 Q n (x5 + 1) (x6 + 1) I)))
def V_M_dueIn (x1 : Int) (x3 : Int) (I : Mm) (Q : Int → Mm → Prop) : Prop :=
  ∃ f29 : Nat, L_M_dueIn_6 x1 x3 Q f29 0 0 I
def V_M_between (x1 : Int) (x2 : Int) (I : Mm) (Q : Int → Mm → Prop) : Prop :=
  V_M_in x1 0 1000000000 I (fun z21 I22 => (z21 = 0 → Q (-1) I22) ∧
    (¬ z21 = 0 → V_M_in x2 0 1000000000 I22 (fun z23 I24 => (z23 = 0 → Q (-1) I24) ∧
    (¬ z23 = 0 → (x2 ≤ x1 → Q (-1) I24) ∧
    (x1 < x2 → V_M_dueIn x1 x2 I24 (fun z25 I26 => Q z25 I26))))))
def L_M_crowd_33 (x1 : Int) (x2 : Int) (Q : Int → Mm → Prop)  : Nat → Int → Int → Int → Mm → Prop
  | 0, _, _, _, _ => False
  | n + 1, x3, x4, x5, I => (I 237 0 ≤ x5 → (¬ x2 = 0 → Q x4 I) ∧
    (x2 = 0 → Q x3 I)) ∧
    (x5 < I 237 0 → (0 ≤ (780 + x5) ∧ (780 + x5) < 980) ∧ (0 ≤ (780 + x5) ∧ (780 + x5) < 980) ∧ r64 (I 237 (780 + x5) + x1) ∧ V_M_dueIn (I 237 (780 + x5)) (I 237 (780 + x5) + x1) I (fun z28 I29 => (x3 < z28 → (0 ≤ (780 + x5) ∧ (780 + x5) < 980) ∧ r32 (x5 + 1) ∧ L_M_crowd_33 x1 x2 Q n z28 (I29 237 (780 + x5)) (x5 + 1) I29) ∧
    (z28 ≤ x3 → r32 (x5 + 1) ∧ L_M_crowd_33 x1 x2 Q n x3 x4 (x5 + 1) I29)))
def V_M_crowd (x1 : Int) (x2 : Int) (I : Mm) (Q : Int → Mm → Prop) : Prop :=
  V_M_in x1 1 999999999 I (fun z21 I22 => (z21 = 0 → Q (-1) I22) ∧
    (¬ z21 = 0 → V_M_in x2 0 1 I22 (fun z23 I24 => (¬ z23 = 0 → ∃ f33 : Nat, L_M_crowd_33 x1 x2 Q f33 0 (-2) 0 I24) ∧
    (z23 = 0 → Q (-1) I24))))
def L_M_day_18 (x1 : Int) (Q : Int → Mm → Prop)  : Nat → Int → Int → Mm → Prop
  | 0, _, _, _ => False
  | n + 1, x2, x3, I => (I 237 0 ≤ x3 → Q x2 I) ∧
    (x3 < I 237 0 → (0 ≤ (780 + x3) ∧ (780 + x3) < 980) ∧ (0 ≤ I 237 (780 + x3) ∧ 0 < I 237 2) ∧ (0 ≤ I 237 3 ∧ 0 < I 237 2) ∧ r32 ((I 237 3 / I 237 2) + x1) ∧ (¬ I 237 (780 + x3) / I 237 2 = (I 237 3 / I 237 2) + x1 → r32 (x2 + 0) ∧ r32 (x3 + 1) ∧ L_M_day_18 x1 Q n (x2 + 0) (x3 + 1) I) ∧
    (I 237 (780 + x3) / I 237 2 = (I 237 3 / I 237 2) + x1 → r32 (x2 + 1) ∧ r32 (x3 + 1) ∧ L_M_day_18 x1 Q n (x2 + 1) (x3 + 1) I))
def V_M_day (x1 : Int) (I : Mm) (Q : Int → Mm → Prop) : Prop :=
  V_M_in x1 0 999 I (fun z21 I22 => (¬ z21 = 0 → ∃ f31 : Nat, L_M_day_18 x1 Q f31 0 0 I22) ∧
    (z21 = 0 → Q (-1) I22))
def L_M_free_32 (x1 : Int) (x2 : Int) (Q : Int → Mm → Prop) (K101 : Int → Mm → Prop) : Nat → Int → Int → Mm → Prop
  | 0, _, _, _ => False
  | n + 1, x3, x5, I => (I 237 0 ≤ x5 → K101 x3 I) ∧
    (x5 < I 237 0 → (0 ≤ (780 + x5) ∧ (780 + x5) < 980) ∧ r64 x3 ∧ (I 237 (780 + x5) < x3 → r32 (x5 + 1) ∧ L_M_free_32 x1 x2 Q K101 n x3 (x5 + 1) I) ∧
    (x3 ≤ I 237 (780 + x5) → (0 ≤ (780 + x5) ∧ (780 + x5) < 980) ∧ r64 (x3 + x1) ∧ (x3 + x1 ≤ I 237 (780 + x5) → r32 (x5 + 1) ∧ L_M_free_32 x1 x2 Q K101 n x3 (x5 + 1) I) ∧
    (I 237 (780 + x5) < x3 + x1 → (0 ≤ (780 + x5) ∧ (780 + x5) < 980) ∧ r32 (x5 + 1) ∧ L_M_free_32 x1 x2 Q K101 n (I 237 (780 + x5) + 1) (x5 + 1) I)))
def V_M_free (x1 : Int) (x2 : Int) (I : Mm) (Q : Int → Mm → Prop) : Prop :=
  V_M_in x1 1 999999999 I (fun z21 I22 => (z21 = 0 → Q (-1) I22) ∧
    (¬ z21 = 0 → V_M_in x2 0 999999999 I22 (fun z23 I24 => (¬ z23 = 0 → ∃ f37 : Nat, L_M_free_32 x1 x2 Q (fun y33 I34 => r64 ((y33 + x1) - 1) ∧ ((y33 + x1) - 1 ≤ 999999999 → r32 y33 ∧ Q y33 I34) ∧
    (999999999 < (y33 + x1) - 1 → Q (-2) I34)) f37 x2 0 I24) ∧
    (z23 = 0 → Q (-1) I24))))
def L_M_pair_29 (x1 : Int) (Q : Int → Mm → Prop) (K66 : Int → Mm → Prop) : Nat → Int → Int → Mm → Prop
  | 0, _, _, _ => False
  | n + 1, x2, x3, I => r32 (x3 + 1) ∧ (I 237 0 ≤ x3 + 1 → K66 x2 I) ∧
    (x3 + 1 < I 237 0 → V_M_gapAt x3 I (fun z24 I25 => V_M_gapAt x2 I25 (fun z26 I27 => (z26 ≤ z24 → r32 (x3 + 1) ∧ L_M_pair_29 x1 Q K66 n x2 (x3 + 1) I27) ∧
    (z24 < z26 → r32 (x3 + 1) ∧ L_M_pair_29 x1 Q K66 n x3 (x3 + 1) I27))))
def V_M_pair (x1 : Int) (I : Mm) (Q : Int → Mm → Prop) : Prop :=
  V_M_in x1 0 1 I (fun z21 I22 => (¬ z21 = 0 → (2 ≤ I22 237 0 → ∃ f35 : Nat, L_M_pair_29 x1 Q (fun y30 I31 => (¬ x1 = 0 → (0 ≤ (380 + y30) ∧ (380 + y30) < 980) ∧ Q (I31 237 (380 + y30)) I31) ∧
    (x1 = 0 → V_M_gapAt y30 I31 (fun z33 I34 => Q z33 I34))) f35 0 1 I22) ∧
    (I22 237 0 < 2 → Q (-2) I22)) ∧
    (z21 = 0 → Q (-1) I22))
def V_M_nearer (x1 : Int) (x2 : Int) (I : Mm) (Q : Int → Mm → Prop) : Prop :=
  (0 ≤ x1 ∧ x1 < 16) ∧ (I 245 x1 < 0 → (0 ≤ x1 ∧ x1 < 16) ∧ Q 1 ((wrM I 245 x1 x2))) ∧
    (0 ≤ I 245 x1 → (0 ≤ x1 ∧ x1 < 16) ∧ (x2 < I 245 x1 → (0 ≤ x1 ∧ x1 < 16) ∧ Q 1 ((wrM I 245 x1 x2))) ∧
    (I 245 x1 ≤ x2 → Q 0 I))
def L_M_spreads_2 (x1 : Int) (Q : Mm → Prop) (K21 : Mm → Prop) : Nat → Int → Mm → Prop
  | 0, _, _ => False
  | n + 1, x2, I => (16 ≤ x2 → K21 I) ∧
    (x2 < 16 → (0 ≤ x2 ∧ x2 < 16) ∧ r32 (x2 + 1) ∧ L_M_spreads_2 x1 Q K21 n (x2 + 1) (wrM I 245 x2 (-1)))
def J_M_spreads_114 (x1 : Int) (Q : Mm → Prop) (K31 : Int → Int → Mm → Prop) (x2 : Int) (x3 : Int) (x4 : Int) (x5 : Int) (x6 : Int) (I : Mm) : Prop :=
  (0 ≤ x4 ∧ x4 < 16) ∧ (I 245 x4 < 0 → r32 (x3 + 1) ∧ K31 x2 (x3 + 1) I) ∧
    (0 ≤ I 245 x4 → (0 ≤ x4 ∧ x4 < 16) ∧ r32 (I 245 x4 + x6) ∧ V_M_nearer x5 (I 245 x4 + x6) I (fun z34 I35 => (¬ z34 = 0 → r32 (x3 + 1) ∧ K31 1 (x3 + 1) I35) ∧
    (z34 = 0 → (x2 = 0 → r32 (x3 + 1) ∧ K31 0 (x3 + 1) I35) ∧
    (¬ x2 = 0 → r32 (x3 + 1) ∧ K31 1 (x3 + 1) I35))))
def J_M_spreads_113 (x1 : Int) (Q : Mm → Prop) (K31 : Int → Int → Mm → Prop) (x3 : Int) (x4 : Int) (x5 : Int) (x6 : Int) (t0 : Int) (I : Mm) : Prop :=
  J_M_spreads_114 x1 Q K31 t0 x3 x4 x5 x6 I
def J_M_spreads_108 (x1 : Int) (Q : Mm → Prop) (K31 : Int → Int → Mm → Prop) (x3 : Int) (x4 : Int) (x5 : Int) (x6 : Int) (I : Mm) : Prop :=
  J_M_spreads_113 x1 Q K31 x3 x4 x5 x6 1 I
def L_M_spreads_31 (x1 : Int) (Q : Mm → Prop) (K23 : Int → Mm → Prop) : Nat → Int → Int → Mm → Prop
  | 0, _, _, _ => False
  | n + 1, x2, x3, I => (I 237 5 ≤ x3 → K23 x2 I) ∧
    (x3 < I 237 5 → (0 ≤ (144 + (3 * x3)) ∧ (144 + (3 * x3)) < 980) ∧ (0 ≤ ((144 + (3 * x3)) + 1) ∧ ((144 + (3 * x3)) + 1) < 980) ∧ ∀ y27 : Int, y27 = I 237 ((144 + (3 * x3)) + 1) → (0 ≤ ((144 + (3 * x3)) + 2) ∧ ((144 + (3 * x3)) + 2) < 980) ∧ ∀ y29 : Int, y29 = I 237 ((144 + (3 * x3)) + 2) → (¬ I 237 (144 + (3 * x3)) = x1 → J_M_spreads_114 x1 Q (fun x2 x3 I => L_M_spreads_31 x1 Q K23 n x2 x3 I) x2 x3 (I 237 (144 + (3 * x3))) y27 y29 I) ∧
    (I 237 (144 + (3 * x3)) = x1 → V_M_nearer y27 y29 I (fun z40 I41 => (¬ z40 = 0 → J_M_spreads_108 x1 Q (fun x2 x3 I => L_M_spreads_31 x1 Q K23 n x2 x3 I) x3 (I 237 (144 + (3 * x3))) y27 y29 I41) ∧
    (z40 = 0 → (x2 = 0 → J_M_spreads_113 x1 Q (fun x2 x3 I => L_M_spreads_31 x1 Q K23 n x2 x3 I) x3 (I 237 (144 + (3 * x3))) y27 y29 0 I41) ∧
    (¬ x2 = 0 → J_M_spreads_108 x1 Q (fun x2 x3 I => L_M_spreads_31 x1 Q K23 n x2 x3 I) x3 (I 237 (144 + (3 * x3))) y27 y29 I41)))))
def L_M_spreads_23 (x1 : Int) (Q : Mm → Prop)  : Nat → Int → Mm → Prop
  | 0, _, _ => False
  | n + 1, x2, I => (x2 = 0 → Q I) ∧
    (¬ x2 = 0 → ∃ f47 : Nat, L_M_spreads_31 x1 Q (fun x2 I => L_M_spreads_23 x1 Q n x2 I) f47 0 0 I)
def V_M_spreads (x1 : Int) (I : Mm) (Q : Mm → Prop) : Prop :=
  ∃ f49 : Nat, L_M_spreads_2 x1 Q (fun I24 => ∃ f48 : Nat, L_M_spreads_23 x1 Q f48 1 I24) f49 0 I
def V_M_leads (x1 : Int) (x2 : Int) (I : Mm) (Q : Int → Mm → Prop) : Prop :=
  V_M_isName x1 I (fun z21 I22 => (z21 = 0 → Q (-1) I22) ∧
    (¬ z21 = 0 → V_M_isName x2 I22 (fun z23 I24 => (¬ z23 = 0 → V_M_spreads x1 I24 (fun I25 => (0 ≤ x2 ∧ x2 < 16) ∧ (I25 245 x2 < 0 → Q 0 I25) ∧
    (0 ≤ I25 245 x2 → Q 1 I25))) ∧
    (z23 = 0 → Q (-1) I24))))
def V_M_soonest (x1 : Int) (x2 : Int) (I : Mm) (Q : Int → Mm → Prop) : Prop :=
  V_M_isName x1 I (fun z21 I22 => (z21 = 0 → Q (-1) I22) ∧
    (¬ z21 = 0 → V_M_isName x2 I22 (fun z23 I24 => (¬ z23 = 0 → V_M_spreads x1 I24 (fun I25 => (0 ≤ x2 ∧ x2 < 16) ∧ (I25 245 x2 < 0 → Q (-2) I25) ∧
    (0 ≤ I25 245 x2 → (0 ≤ x2 ∧ x2 < 16) ∧ Q (I25 245 x2) I25))) ∧
    (z23 = 0 → Q (-1) I24))))
def L_M_areAlike_3 (x1 : Int) (x2 : Int) (x3 : Int) (Q : Int → Mm → Prop)  : Nat → Int → Mm → Prop
  | 0, _, _ => False
  | n + 1, x4, I => r32 (x2 + x3) ∧ (x2 + x3 ≤ x4 → Q 1 I) ∧
    (x4 < x2 + x3 → (0 ≤ (x1 + x4) ∧ (x1 + x4) < 1960) ∧ (0 ≤ x4 ∧ x4 < 980) ∧ (I 240 (x1 + x4) = I 237 x4 → r32 (x4 + 1) ∧ L_M_areAlike_3 x1 x2 x3 Q n (x4 + 1) I) ∧
    (¬ I 240 (x1 + x4) = I 237 x4 → Q 0 I))
def V_M_areAlike (x1 : Int) (x2 : Int) (x3 : Int) (I : Mm) (Q : Int → Mm → Prop) : Prop :=
  ∃ f25 : Nat, L_M_areAlike_3 x1 x2 x3 Q f25 x2 I
def V_M_same (x1 : Int) (x2 : Int) (I : Mm) (Q : Int → Mm → Prop) : Prop :=
  V_M_in x1 0 1 I (fun z21 I22 => (z21 = 0 → Q (-1) I22) ∧
    (¬ z21 = 0 → V_M_in x2 0 1 I22 (fun z23 I24 => (¬ z23 = 0 → (0 ≤ x1 ∧ x1 < 2) ∧ (¬ I24 241 x1 = 0 → (¬ x2 = 0 → r32 (980 * x1) ∧ V_M_areAlike (980 * x1) 5 1 I24 (fun z27 I28 => (z27 = 0 → Q 0 I28) ∧
    (¬ z27 = 0 → r32 (3 * I28 237 5) ∧ V_M_areAlike (980 * x1) 144 (3 * I28 237 5) I28 (fun z30 I31 => (z30 = 0 → Q 0 I31) ∧
    (¬ z30 = 0 → Q 1 I31))))) ∧
    (x2 = 0 → r32 (980 * x1) ∧ V_M_areAlike (980 * x1) 0 1 I24 (fun z33 I34 => (z33 = 0 → Q 0 I34) ∧
    (¬ z33 = 0 → V_M_areAlike (980 * x1) 380 (I34 237 0) I34 (fun z35 I36 => (z35 = 0 → Q 0 I36) ∧
    (¬ z35 = 0 → V_M_areAlike (980 * x1) 580 (I36 237 0) I36 (fun z37 I38 => (z37 = 0 → Q 0 I38) ∧
    (¬ z37 = 0 → V_M_areAlike (980 * x1) 780 (I38 237 0) I38 (fun z39 I40 => (z39 = 0 → Q 0 I40) ∧
    (¬ z39 = 0 → Q 1 I40)))))))))) ∧
    (I24 241 x1 = 0 → Q (-2) I24)) ∧
    (z23 = 0 → Q (-1) I24))))
def V_M_spell (x1 : Int) (I : Mm) (Q : Mm → Prop) : Prop :=
  (¬ I 236 12 = I 236 13 → r32 (I 236 12 + 1) ∧ Q ((wrM I 236 12 (I 236 12 + 1)))) ∧
    (I 236 12 = I 236 13 → r32 ((wrM I 236 14 x1) 236 12 + 1) ∧ Q ((wrM ((wrM I 236 14 x1)) 236 12 ((wrM I 236 14 x1) 236 12 + 1))))
def L_M_spells_2 (w1 : Nat) (Q : Mm → Prop)  : Nat → Int → Mm → Prop
  | 0, _, _ => False
  | n + 1, x2, I => (slenI w1 ≤ x2 → Q I) ∧
    (x2 < slenI w1 → (0 ≤ x2 ∧ x2 < slenI w1) ∧ V_M_spell (sch w1 x2) I (fun I23 => r32 (x2 + 1) ∧ L_M_spells_2 w1 Q n (x2 + 1) I23))
def V_M_spells (w1 : Nat) (I : Mm) (Q : Mm → Prop) : Prop :=
  ∃ f25 : Nat, L_M_spells_2 w1 Q f25 0 I
def V_M_spellNumber : Nat → Int → Mm → (Mm → Prop) → Prop
  | 0, _, _, _ => False
  | d + 1, x1, I, Q => (x1 ≤ 9 → (0 ≤ x1) ∧ r32 (48 + (x1 % 10)) ∧ V_M_spell (48 + (x1 % 10)) I (fun I23 => Q I23)) ∧
    (9 < x1 → (0 ≤ x1) ∧ V_M_spellNumber d (x1 / 10) I (fun I25 => (0 ≤ x1) ∧ r32 (48 + (x1 % 10)) ∧ V_M_spell (48 + (x1 % 10)) I25 (fun I28 => Q I28)))
def L_M_spellName_2 (x1 : Int) (Q : Mm → Prop)  : Nat → Int → Mm → Prop
  | 0, _, _ => False
  | n + 1, x2, I => V_M_letters x1 I (fun z21 I22 => (z21 ≤ x2 → Q I22) ∧
    (x2 < z21 → (0 ≤ ((48 + (6 * x1)) + x2) ∧ ((48 + (6 * x1)) + x2) < 980) ∧ V_M_spell (I22 237 ((48 + (6 * x1)) + x2)) I22 (fun I24 => r32 (x2 + 1) ∧ L_M_spellName_2 x1 Q n (x2 + 1) I24)))
def V_M_spellName (x1 : Int) (I : Mm) (Q : Mm → Prop) : Prop :=
  ∃ f26 : Nat, L_M_spellName_2 x1 Q f26 0 I
def L_M_spellAll_35  (Q : Mm → Prop) (K92 : Mm → Prop) : Nat → Int → Mm → Prop
  | 0, _, _ => False
  | n + 1, x1, I => (I 237 0 ≤ x1 → K92 I) ∧
    (x1 < I 237 0 → V_M_spells 10 I (fun I25 => (0 ≤ (780 + x1) ∧ (780 + x1) < 980) ∧ V_M_spellNumber 12 (I25 237 (780 + x1)) I25 (fun I27 => V_M_spell 32 I27 (fun I28 => (0 ≤ (580 + x1) ∧ (580 + x1) < 980) ∧ V_M_spellName (I28 237 (580 + x1)) I28 (fun I30 => r32 (x1 + 1) ∧ L_M_spellAll_35 Q K92 n (x1 + 1) I30)))))
def L_M_spellAll_94  (Q : Mm → Prop)  : Nat → Int → Mm → Prop
  | 0, _, _ => False
  | n + 1, x1, I => (I 237 5 ≤ x1 → Q I) ∧
    (x1 < I 237 5 → V_M_spells 12 I (fun I33 => (0 ≤ (144 + (3 * x1)) ∧ (144 + (3 * x1)) < 980) ∧ V_M_spellName (I33 237 (144 + (3 * x1))) I33 (fun I35 => V_M_spells 13 I35 (fun I36 => (0 ≤ ((144 + (3 * x1)) + 2) ∧ ((144 + (3 * x1)) + 2) < 980) ∧ V_M_spellNumber 12 (I36 237 ((144 + (3 * x1)) + 2)) I36 (fun I38 => V_M_spell 32 I38 (fun I39 => (0 ≤ ((144 + (3 * x1)) + 1) ∧ ((144 + (3 * x1)) + 1) < 980) ∧ V_M_spellName (I39 237 ((144 + (3 * x1)) + 1)) I39 (fun I41 => r32 (x1 + 1) ∧ L_M_spellAll_94 Q n (x1 + 1) I41)))))))
def V_M_spellAll  (I : Mm) (Q : Mm → Prop) : Prop :=
  V_M_spells 8 I (fun I21 => V_M_spellNumber 12 (I21 237 1) I21 (fun I22 => V_M_spells 9 I22 (fun I23 => V_M_spellNumber 12 (I23 237 2) I23 (fun I24 => ∃ f44 : Nat, L_M_spellAll_35 Q (fun I32 => ∃ f43 : Nat, L_M_spellAll_94 Q f43 0 I32) f44 0 I24))))
def V_M_told (x1 : Int) (I : Mm) (Q : Int → Mm → Prop) : Prop :=
  (-1 ≤ x1 → V_M_spellAll ((wrM ((wrM ((wrM I 236 12 0)) 236 13 x1)) 236 14 (-2))) (fun I24 => (¬ x1 = -1 → Q (I24 236 14) I24) ∧
    (x1 = -1 → Q (I24 236 12) I24))) ∧
    (x1 < -1 → Q (-1) I)
def L_M_digest_6  (Q : Int → Mm → Prop)  : Nat → Int → Int → Mm → Prop
  | 0, _, _, _ => False
  | n + 1, x1, x3, I => (I 237 0 ≤ x3 → Q x1 I) ∧
    (x3 < I 237 0 → (0 ≤ (380 + x3) ∧ (380 + x3) < 980) ∧ (0 ≤ (580 + x3) ∧ (580 + x3) < 980) ∧ (0 ≤ (780 + x3) ∧ (780 + x3) < 980) ∧ r32 (x3 + 1) ∧ L_M_digest_6 Q n ((31 * ((31 * ((31 * x1) + I 237 (380 + x3))) + I 237 (580 + x3))) + I 237 (780 + x3)) (x3 + 1) I)
def V_M_digest  (I : Mm) (Q : Int → Mm → Prop) : Prop :=
  ∃ f25 : Nat, L_M_digest_6 Q f25 17 0 I
def L_M_laysFour_3 (x1 : Int) (Q : Mm → Prop)  : Nat → Int → Mm → Prop
  | 0, _, _ => False
  | n + 1, x2, I => (x2 < 0 → Q I) ∧
    (0 ≤ x2 → (0 ≤ I 236 16 ∧ I 236 16 < 400) ∧ r32 ((wrM I 246 (I 236 16) (bByte (bShr x1 x2))) 236 16 + 1) ∧ r32 (x2 + (-8)) ∧ L_M_laysFour_3 x1 Q n (x2 + (-8)) (wrM ((wrM I 246 (I 236 16) (bByte (bShr x1 x2)))) 236 16 ((wrM I 246 (I 236 16) (bByte (bShr x1 x2))) 236 16 + 1)))
def V_M_laysFour (x1 : Int) (I : Mm) (Q : Mm → Prop) : Prop :=
  ∃ f26 : Nat, L_M_laysFour_3 x1 Q f26 24 I
def V_M_feed (x1 : Int) (x2 : Int) (x3 : Int) (x4 : Int) (x5 : Int) (I : Mm) (Q : Int → Mm → Prop) : Prop :=
  (I 236 16 ≤ 380 → V_M_laysFour x1 I (fun I21 => V_M_laysFour x2 I21 (fun I22 => V_M_laysFour x3 I22 (fun I23 => V_M_laysFour x4 I23 (fun I24 => V_M_laysFour x5 I24 (fun I25 => Q (I25 236 16) I25)))))) ∧
    (380 < I 236 16 → Q (-1) I)
def V_M_end (x1 : Int) (I : Mm) (Q : Int → Mm → Prop) : Prop :=
  V_M_in x1 0 (I 236 16) I (fun z21 I22 => (¬ z21 = 0 → Q x1 ((wrM I22 236 16 x1))) ∧
    (z21 = 0 → Q (-1) I22))
def V_M_byteAt (x1 : Int) (I : Mm) (Q : Int → Mm → Prop) : Prop :=
  (I 236 16 ≤ x1 → Q (-1) I) ∧
    (x1 < I 236 16 → (0 ≤ x1 ∧ x1 < 400) ∧ Q (bAnd (I 246 x1) 255) I)
def L_M_nextByte_0  (Q : Int → Mm → Prop)  : Nat → Mm → Prop
  | 0, _ => False
  | n + 1, I => V_M_byteAt (I 236 17) I (fun z21 I22 => (¬ z21 = 32 → V_M_byteAt (I22 236 17) I22 (fun z23 I24 => Q z23 I24)) ∧
    (z21 = 32 → r32 (I22 236 17 + 1) ∧ L_M_nextByte_0 Q n (wrM I22 236 17 (I22 236 17 + 1))))
def V_M_nextByte  (I : Mm) (Q : Int → Mm → Prop) : Prop :=
  ∃ f27 : Nat, L_M_nextByte_0 Q f27 I
def L_M_takesWord_22 (w1 : Nat) (x2 : Int) (Q : Int → Mm → Prop) (K51 : Int → Mm → Prop) : Nat → Int → Mm → Prop
  | 0, _, _ => False
  | n + 1, x3, I => (slenI w1 ≤ x3 → K51 x3 I) ∧
    (x3 < slenI w1 → r32 (x2 + x3) ∧ V_M_byteAt (x2 + x3) I (fun z25 I26 => (0 ≤ x3 ∧ x3 < slenI w1) ∧ (¬ z25 = sch w1 x3 → K51 x3 I26) ∧
    (z25 = sch w1 x3 → r32 (x3 + 1) ∧ L_M_takesWord_22 w1 x2 Q K51 n (x3 + 1) I26)))
def J_M_takesWord_19 (w1 : Nat) (Q : Int → Mm → Prop)  (t0 : Int) (I : Mm) : Prop :=
  ∃ f40 : Nat, L_M_takesWord_22 w1 t0 Q (fun y29 I30 => (¬ y29 = slenI w1 → Q 0 I30) ∧
    (y29 = slenI w1 → r32 (t0 + y29) ∧ V_M_byteAt (t0 + y29) I30 (fun z33 I34 => V_M_in z33 97 122 I34 (fun z35 I36 => (¬ z35 = 0 → Q 0 I36) ∧
    (z35 = 0 → r32 (I36 236 17 + slenI w1) ∧ Q 1 ((wrM I36 236 17 (I36 236 17 + slenI w1)))))))) f40 0 I
def V_M_takesWord (w1 : Nat) (I : Mm) (Q : Int → Mm → Prop) : Prop :=
  V_M_nextByte I (fun z21 I22 => (¬ z21 = -1 → J_M_takesWord_19 w1 Q (I22 236 17) I22) ∧
    (z21 = -1 → J_M_takesWord_19 w1 Q (I22 236 16) I22))
def V_M_fails (x1 : Int) (x2 : Int) (I : Mm) (Q : Int → Mm → Prop) : Prop :=
  r32 ((8 * x2) + x1) ∧ Q 0 ((wrM I 236 18 ((8 * x2) + x1)))
def L_M_readsNumber_37 (x1 : Int) (x2 : Int) (Q : Int → Mm → Prop) (K99 : Int → Mm → Prop) : Nat → Int → Mm → Prop
  | 0, _, _ => False
  | n + 1, x3, I => V_M_byteAt (I 236 17) I (fun z26 I27 => V_M_in z26 48 57 I27 (fun z28 I29 => (z28 = 0 → K99 x3 I29) ∧
    (¬ z28 = 0 → r64 x3 ∧ (10000000000 ≤ x3 → r32 (I29 236 17 + 1) ∧ L_M_readsNumber_37 x1 x2 Q K99 n x3 (wrM I29 236 17 (I29 236 17 + 1))) ∧
    (x3 < 10000000000 → V_M_byteAt (I29 236 17) I29 (fun z33 I34 => r32 (I34 236 17 + 1) ∧ L_M_readsNumber_37 x1 x2 Q K99 n (((10 * x3) + z33) - 48) (wrM I34 236 17 (I34 236 17 + 1)))))))
def J_M_readsNumber_116 (x1 : Int) (x2 : Int) (Q : Int → Mm → Prop)  (x3 : Int) (t1 : Int) (I : Mm) : Prop :=
  r64 x3 ∧ V_M_in x3 x1 x2 ((wrM I 236 19 t1)) (fun z42 I43 => (¬ z42 = 0 → Q 1 I43) ∧
    (z42 = 0 → V_M_fails 2 (I43 236 20) I43 (fun z44 I45 => (z44 = 0 → Q 0 I45) ∧
    (¬ z44 = 0 → Q 1 I45))))
def V_M_readsNumber (x1 : Int) (x2 : Int) (I : Mm) (Q : Int → Mm → Prop) : Prop :=
  V_M_nextByte I (fun z21 I22 => V_M_in z21 48 57 I22 (fun z23 I24 => (¬ z23 = 0 → ∃ f49 : Nat, L_M_readsNumber_37 x1 x2 Q (fun y37 I38 => r64 y37 ∧ (y37 ≤ 2000000000 → r32 y37 ∧ J_M_readsNumber_116 x1 x2 Q y37 y37 I38) ∧
    (2000000000 < y37 → J_M_readsNumber_116 x1 x2 Q y37 2000000000 I38)) f49 0 (wrM I24 236 20 (I24 236 17))) ∧
    (z23 = 0 → V_M_fails 1 (I24 236 17) I24 (fun z50 I51 => (z50 = 0 ∨ z50 = 1) ∧ Q z50 I51))))
def V_M_readsRows  (I : Mm) (Q : Int → Mm → Prop) : Prop :=
  V_M_readsNumber 2 64 I (fun z21 I22 => (¬ z21 = 0 → V_M_areRows (I22 236 19) I22 (fun z23 I24 => (¬ z23 = 0 → V_M_resizes (I24 236 19) (I24 237 2) I24 (fun I25 => Q 1 I25)) ∧
    (z23 = 0 → V_M_fails 2 (I24 236 20) I24 (fun z26 I27 => (z26 = 0 ∨ z26 = 1) ∧ Q z26 I27)))) ∧
    (z21 = 0 → Q 0 I22))
def V_M_readsWide  (I : Mm) (Q : Int → Mm → Prop) : Prop :=
  V_M_readsNumber 1 99999999 I (fun z21 I22 => (¬ z21 = 0 → V_M_resizes (I22 237 1) (I22 236 19) I22 (fun I23 => Q 1 I23)) ∧
    (z21 = 0 → Q 0 I22))
def L_M_isNamed_14 (x1 : Int) (x2 : Int) (x3 : Int) (Q : Int → Mm → Prop)  : Nat → Int → Mm → Prop
  | 0, _, _ => False
  | n + 1, x4, I => (x3 ≤ x4 → Q 1 I) ∧
    (x4 < x3 → (0 ≤ ((48 + (6 * x1)) + x4) ∧ ((48 + (6 * x1)) + x4) < 980) ∧ r32 (x2 + x4) ∧ V_M_byteAt (x2 + x4) I (fun z25 I26 => (I 237 ((48 + (6 * x1)) + x4) = z25 → r32 (x4 + 1) ∧ L_M_isNamed_14 x1 x2 x3 Q n (x4 + 1) I26) ∧
    (¬ I 237 ((48 + (6 * x1)) + x4) = z25 → Q 0 I26)))
def V_M_isNamed (x1 : Int) (x2 : Int) (x3 : Int) (I : Mm) (Q : Int → Mm → Prop) : Prop :=
  V_M_letters x1 I (fun z21 I22 => (z21 = x3 → ∃ f28 : Nat, L_M_isNamed_14 x1 x2 x3 Q f28 0 I22) ∧
    (¬ z21 = x3 → Q 0 I22))
def L_M_nameAt_2 (x1 : Int) (x2 : Int) (Q : Int → Mm → Prop) (K30 : Mm → Prop) : Nat → Int → Mm → Prop
  | 0, _, _ => False
  | n + 1, x3, I => (I 237 4 ≤ x3 → K30 I) ∧
    (x3 < I 237 4 → V_M_isNamed x3 x1 x2 I (fun z21 I22 => (z21 = 0 → r32 (x3 + 1) ∧ L_M_nameAt_2 x1 x2 Q K30 n (x3 + 1) I22) ∧
    (¬ z21 = 0 → Q x3 I22)))
def L_M_nameAt_45 (x1 : Int) (x2 : Int) (Q : Int → Mm → Prop) (K92 : Mm → Prop) : Nat → Int → Mm → Prop
  | 0, _, _ => False
  | n + 1, x3, I => (6 ≤ x3 → K92 I) ∧
    (x3 < 6 → (x2 ≤ x3 → (0 ≤ ((48 + (6 * I 237 4)) + x3) ∧ ((48 + (6 * I 237 4)) + x3) < 980) ∧ r32 (x3 + 1) ∧ L_M_nameAt_45 x1 x2 Q K92 n (x3 + 1) (wrM I 237 ((48 + (6 * I 237 4)) + x3) 0)) ∧
    (x3 < x2 → r32 (x1 + x3) ∧ V_M_byteAt (x1 + x3) I (fun z29 I30 => (0 ≤ ((48 + (6 * I 237 4)) + x3) ∧ ((48 + (6 * I 237 4)) + x3) < 980) ∧ r32 (x3 + 1) ∧ L_M_nameAt_45 x1 x2 Q K92 n (x3 + 1) (wrM I30 237 ((48 + (6 * I 237 4)) + x3) z29))))
def V_M_nameAt (x1 : Int) (x2 : Int) (I : Mm) (Q : Int → Mm → Prop) : Prop :=
  ∃ f39 : Nat, L_M_nameAt_2 x1 x2 Q (fun I24 => (¬ I24 237 4 = 16 → ∃ f38 : Nat, L_M_nameAt_45 x1 x2 Q (fun I34 => r32 (I34 237 4 + 1) ∧ r32 ((wrM I34 237 4 (I34 237 4 + 1)) 237 4 - 1) ∧ Q ((wrM I34 237 4 (I34 237 4 + 1)) 237 4 - 1) ((wrM I34 237 4 (I34 237 4 + 1)))) f38 0 I24) ∧
    (I24 237 4 = 16 → Q (-1) I24)) f39 0 I
def L_M_readsName_32 (x1 : Int) (Q : Int → Mm → Prop) (K87 : Mm → Prop) : Nat → Mm → Prop
  | 0, _ => False
  | n + 1, I => V_M_byteAt (I 236 17) I (fun z25 I26 => V_M_in z25 97 122 I26 (fun z27 I28 => (z27 = 0 → K87 I28) ∧
    (¬ z27 = 0 → r32 (I28 236 17 - x1) ∧ (¬ I28 236 17 - x1 = 6 → r32 (I28 236 17 + 1) ∧ L_M_readsName_32 x1 Q K87 n (wrM I28 236 17 (I28 236 17 + 1))) ∧
    (I28 236 17 - x1 = 6 → V_M_fails 2 (I28 236 17) I28 (fun z32 I33 => (z32 = 0 ∨ z32 = 1) ∧ Q z32 I33)))))
def V_M_readsName  (I : Mm) (Q : Int → Mm → Prop) : Prop :=
  V_M_nextByte I (fun z21 I22 => V_M_in z21 97 122 I22 (fun z23 I24 => (¬ z23 = 0 → ∃ f42 : Nat, L_M_readsName_32 (I24 236 17) Q (fun I35 => r32 (I35 236 17 - I24 236 17) ∧ V_M_nameAt (I24 236 17) (I35 236 17 - I24 236 17) I35 (fun z37 I38 => (0 ≤ (wrM I38 236 21 z37) 236 21 → Q 1 ((wrM I38 236 21 z37))) ∧
    ((wrM I38 236 21 z37) 236 21 < 0 → V_M_fails 3 (I24 236 17) ((wrM I38 236 21 z37)) (fun z40 I41 => (z40 = 0 → Q 0 I41) ∧
    (¬ z40 = 0 → Q 1 I41))))) f42 I24) ∧
    (z23 = 0 → V_M_fails 1 (I24 236 17) I24 (fun z43 I44 => (z43 = 0 ∨ z43 = 1) ∧ Q z43 I44))))
def L_M_bringsSome_44 (x1 : Int) (x2 : Int) (x3 : Int) (x4 : Int) (x5 : Int) (Q : Int → Mm → Prop)  : Nat → Int → Mm → Prop
  | 0, _, _ => False
  | n + 1, x6, I => (x5 ≤ x6 → Q 1 I) ∧
    (x6 < x5 → r32 (x3 + (x4 * x6)) ∧ V_M_comesNew x2 (x3 + (x4 * x6)) I (fun z28 I29 => r32 (x6 + 1) ∧ L_M_bringsSome_44 x1 x2 x3 x4 x5 Q n (x6 + 1) I29))
def V_M_bringsSome (x1 : Int) (x2 : Int) (x3 : Int) (x4 : Int) (x5 : Int) (I : Mm) (Q : Int → Mm → Prop) : Prop :=
  r32 (I 237 0 + x5) ∧ (200 < I 237 0 + x5 → V_M_fails 4 x1 I (fun z22 I23 => (z22 = 0 ∨ z22 = 1) ∧ Q z22 I23)) ∧
    (I 237 0 + x5 ≤ 200 → r32 (x5 - 1) ∧ r64 (x3 + (x4 * (x5 - 1))) ∧ (x3 + (x4 * (x5 - 1)) ≤ 999999999 → ∃ f31 : Nat, L_M_bringsSome_44 x1 x2 x3 x4 x5 Q f31 0 I) ∧
    (999999999 < x3 + (x4 * (x5 - 1)) → V_M_fails 4 x1 I (fun z32 I33 => (z32 = 0 ∨ z32 = 1) ∧ Q z32 I33)))
def V_M_readsAt (x1 : Int) (I : Mm) (Q : Int → Mm → Prop) : Prop :=
  V_M_readsNumber 0 999999999 I (fun z21 I22 => (¬ z21 = 0 → V_M_readsName I22 (fun z23 I24 => (z23 = 0 → Q 0 I24) ∧
    (¬ z23 = 0 → V_M_bringsSome x1 (I24 236 21) (I22 236 19) 0 1 I24 (fun z25 I26 => (z25 = 0 → Q 0 I26) ∧
    (¬ z25 = 0 → Q 1 I26))))) ∧
    (z21 = 0 → Q 0 I22))
def V_M_mustWord (w1 : Nat) (I : Mm) (Q : Int → Mm → Prop) : Prop :=
  V_M_takesWord w1 I (fun z21 I22 => (¬ z21 = 0 → Q 1 I22) ∧
    (z21 = 0 → V_M_fails 1 (I22 236 17) I22 (fun z23 I24 => (z23 = 0 → Q 0 I24) ∧
    (¬ z23 = 0 → Q 1 I24))))
def V_M_readsEvery (x1 : Int) (I : Mm) (Q : Int → Mm → Prop) : Prop :=
  V_M_readsNumber 1 999999 I (fun z21 I22 => (¬ z21 = 0 → V_M_mustWord 4 I22 (fun z23 I24 => (z23 = 0 → Q 0 I24) ∧
    (¬ z23 = 0 → V_M_readsNumber 0 999999999 I24 (fun z25 I26 => (¬ z25 = 0 → V_M_mustWord 5 I26 (fun z27 I28 => (z27 = 0 → Q 0 I28) ∧
    (¬ z27 = 0 → V_M_readsNumber 1 50 I28 (fun z29 I30 => (¬ z29 = 0 → V_M_readsName I30 (fun z31 I32 => (z31 = 0 → Q 0 I32) ∧
    (¬ z31 = 0 → V_M_bringsSome x1 (I32 236 21) (I26 236 19) (I22 236 19) (I30 236 19) I32 (fun z33 I34 => (z33 = 0 → Q 0 I34) ∧
    (¬ z33 = 0 → Q 1 I34))))) ∧
    (z29 = 0 → Q 0 I30))))) ∧
    (z25 = 0 → Q 0 I26))))) ∧
    (z21 = 0 → Q 0 I22))
def V_M_readsAfter (x1 : Int) (I : Mm) (Q : Int → Mm → Prop) : Prop :=
  V_M_readsName I (fun z21 I22 => (¬ z21 = 0 → V_M_mustWord 7 I22 (fun z23 I24 => (z23 = 0 → Q 0 I24) ∧
    (¬ z23 = 0 → V_M_readsNumber 1 999999 I24 (fun z25 I26 => (¬ z25 = 0 → V_M_readsName I26 (fun z27 I28 => (¬ z27 = 0 → (¬ I28 237 5 = 12 → V_M_adds (I22 236 21) (I28 236 21) (I26 236 19) I28 (fun I29 => Q 1 I29)) ∧
    (I28 237 5 = 12 → V_M_fails 4 x1 I28 (fun z30 I31 => (z30 = 0 ∨ z30 = 1) ∧ Q z30 I31))) ∧
    (z27 = 0 → Q 0 I28))) ∧
    (z25 = 0 → Q 0 I26))))) ∧
    (z21 = 0 → Q 0 I22))
def V_M_readsStatement  (I : Mm) (Q : Int → Mm → Prop) : Prop :=
  V_M_nextByte I (fun z21 I22 => V_M_takesWord 0 I22 (fun z23 I24 => (z23 = 0 → V_M_takesWord 1 I24 (fun z25 I26 => (z25 = 0 → V_M_takesWord 2 I26 (fun z27 I28 => (z27 = 0 → V_M_takesWord 3 I28 (fun z29 I30 => (z29 = 0 → V_M_takesWord 6 I30 (fun z31 I32 => (z31 = 0 → V_M_fails 1 (I22 236 17) I32 (fun z33 I34 => (z33 = 0 ∨ z33 = 1) ∧ Q z33 I34)) ∧
    (¬ z31 = 0 → V_M_readsAfter (I22 236 17) I32 (fun z36 I37 => (z36 = 0 ∨ z36 = 1) ∧ Q z36 I37)))) ∧
    (¬ z29 = 0 → V_M_readsEvery (I22 236 17) I30 (fun z39 I40 => (z39 = 0 ∨ z39 = 1) ∧ Q z39 I40)))) ∧
    (¬ z27 = 0 → V_M_readsAt (I22 236 17) I28 (fun z42 I43 => (z42 = 0 ∨ z42 = 1) ∧ Q z42 I43)))) ∧
    (¬ z25 = 0 → V_M_readsWide I26 (fun z45 I46 => (z45 = 0 ∨ z45 = 1) ∧ Q z45 I46)))) ∧
    (¬ z23 = 0 → V_M_readsRows I24 (fun z48 I49 => (z48 = 0 ∨ z48 = 1) ∧ Q z48 I49))))
def L_M_readsAll_7  (Q : Int → Mm → Prop) (K56 : Mm → Prop) : Nat → Int → Mm → Prop
  | 0, _, _ => False
  | n + 1, x1, I => (x1 = 0 → K56 I) ∧
    (¬ x1 = 0 → V_M_readsStatement I (fun z22 I23 => (¬ z22 = 0 → V_M_nextByte I23 (fun z24 I25 => (¬ z24 = 59 → r32 (I25 236 17 + 0) ∧ L_M_readsAll_7 Q K56 n 0 (wrM I25 236 17 (I25 236 17 + 0))) ∧
    (z24 = 59 → r32 (I25 236 17 + 1) ∧ L_M_readsAll_7 Q K56 n 1 (wrM I25 236 17 (I25 236 17 + 1))))) ∧
    (z22 = 0 → Q 0 I23)))
def V_M_readsAll  (I : Mm) (Q : Int → Mm → Prop) : Prop :=
  ∃ f35 : Nat, L_M_readsAll_7 Q (fun I30 => V_M_nextByte I30 (fun z31 I32 => (z31 = -1 → Q 1 I32) ∧
    (¬ z31 = -1 → V_M_fails 1 (I32 236 17) I32 (fun z33 I34 => (z33 = 0 → Q 0 I34) ∧
    (¬ z33 = 0 → Q 1 I34))))) f35 1 (wrM I 236 17 0)
def V_M_tell  (I : Mm) (Q : Int → Mm → Prop) : Prop :=
  V_M_keepsAside I (fun I21 => V_M_begins 237 I21 (fun I22 => V_M_readsAll I22 (fun z23 I24 => (¬ z23 = 0 → Q ((wrM ((wrM I24 236 16 0)) 236 3 0) 237 0) ((wrM ((wrM I24 236 16 0)) 236 3 0))) ∧
    (z23 = 0 → V_M_isAgain ((wrM I24 236 16 0)) (fun I27 => r32 ((-2) - I27 236 18) ∧ Q ((-2) - I27 236 18) I27)))))
def L_M_isNameAlone_19  (Q : Int → Mm → Prop)  : Nat → Int → Mm → Prop
  | 0, _, _ => False
  | n + 1, x1, I => (I 236 16 ≤ x1 → Q 1 I) ∧
    (x1 < I 236 16 → V_M_byteAt x1 I (fun z23 I24 => V_M_in z23 97 122 I24 (fun z25 I26 => (¬ z25 = 0 → r32 (x1 + 1) ∧ L_M_isNameAlone_19 Q n (x1 + 1) I26) ∧
    (z25 = 0 → Q 0 I26))))
def V_M_isNameAlone  (I : Mm) (Q : Int → Mm → Prop) : Prop :=
  V_M_in (I 236 16) 1 6 I (fun z21 I22 => (¬ z21 = 0 → ∃ f28 : Nat, L_M_isNameAlone_19 Q f28 0 I22) ∧
    (z21 = 0 → Q 0 I22))
def J_M_name_36  (Q : Int → Mm → Prop)  (x2 : Int) (x3 : Int) (t0 : Int) (I : Mm) : Prop :=
  (¬ t0 = -1 → (x3 ≤ t0 → V_M_isAgain ((wrM I 236 16 0)) (fun I25 => V_M_keepsAct I25 (fun I26 => V_M_nameAt 0 x2 ((wrM I26 236 16 x2)) (fun z28 I29 => Q z28 ((wrM I29 236 16 0)))))) ∧
    (t0 < x3 → Q t0 ((wrM I 236 16 0)))) ∧
    (t0 = -1 → Q (-3) ((wrM I 236 16 0)))
def V_M_name  (I : Mm) (Q : Int → Mm → Prop) : Prop :=
  V_M_isNameAlone I (fun z21 I22 => V_M_keepsAside I22 (fun I23 => (z21 = 0 → J_M_name_36 Q (I22 236 16) (I23 237 4) (-2) I23) ∧
    (¬ z21 = 0 → V_M_nameAt 0 (I22 236 16) I23 (fun z32 I33 => J_M_name_36 Q (I22 236 16) (I23 237 4) z32 I33))))
def L_M_merge_43 (x1 : Int) (x2 : Int) (x3 : Int) (Q : Int → Mm → Prop)  : Nat → Int → Mm → Prop
  | 0, _, _ => False
  | n + 1, x4, I => (I 237 0 ≤ x4 → Q x3 I) ∧
    (x4 < I 237 0 → (0 ≤ (580 + x4) ∧ (580 + x4) < 980) ∧ (¬ I 237 (580 + x4) = x1 → r32 (x4 + 1) ∧ L_M_merge_43 x1 x2 x3 Q n (x4 + 1) I) ∧
    (I 237 (580 + x4) = x1 → (0 ≤ (580 + x4) ∧ (580 + x4) < 980) ∧ r32 (x4 + 1) ∧ L_M_merge_43 x1 x2 x3 Q n (x4 + 1) (wrM I 237 (580 + x4) x2)))
def V_M_merge (x1 : Int) (x2 : Int) (I : Mm) (Q : Int → Mm → Prop) : Prop :=
  V_M_isName x1 I (fun z21 I22 => (z21 = 0 → Q (-1) I22) ∧
    (¬ z21 = 0 → V_M_isName x2 I22 (fun z23 I24 => (z23 = 0 → Q (-1) I24) ∧
    (¬ z23 = 0 → (¬ x1 = x2 → V_M_waiting x1 I24 (fun z25 I26 => (¬ z25 = 0 → V_M_keepsAct I26 (fun I27 => ∃ f33 : Nat, L_M_merge_43 x1 x2 z25 Q f33 0 I27)) ∧
    (z25 = 0 → Q (-2) I26))) ∧
    (x1 = x2 → Q (-1) I24)))))
def L_M_cut_47 (x1 : Int) (x2 : Int) (x3 : Int) (Q : Int → Mm → Prop)  : Nat → Int → Mm → Prop
  | 0, _, _ => False
  | n + 1, x4, I => (x2 ≤ x4 → Q x2 I) ∧
    (x4 < x2 → r32 (I 237 15 + 1) ∧ V_M_leaves x3 ((wrM I 237 15 (I 237 15 + 1))) (fun I28 => r32 (x4 + 1) ∧ L_M_cut_47 x1 x2 x3 Q n (x4 + 1) I28))
def V_M_cut (x1 : Int) (I : Mm) (Q : Int → Mm → Prop) : Prop :=
  V_M_in x1 0 999999999 I (fun z21 I22 => (¬ z21 = 0 → V_M_dueIn x1 1000000000 I22 (fun z23 I24 => (¬ z23 = 0 → V_M_keepsAct I24 (fun I25 => r32 (I25 237 0 - z23) ∧ ∃ f31 : Nat, L_M_cut_47 x1 z23 (I25 237 0 - z23) Q f31 0 I25)) ∧
    (z23 = 0 → Q (-2) I24))) ∧
    (z21 = 0 → Q (-1) I22))
def V_M_swap (x1 : Int) (x2 : Int) (I : Mm) (Q : Int → Mm → Prop) : Prop :=
  V_M_placeOf x1 I (fun z21 I22 => V_M_placeOf x2 I22 (fun z23 I24 => (z21 < 0 → Q (-1) I24) ∧
    (0 ≤ z21 → (z23 < 0 → Q (-1) I24) ∧
    (0 ≤ z23 → (¬ z21 = z23 → (0 ≤ (780 + z21) ∧ (780 + z21) < 980) ∧ (0 ≤ (780 + z23) ∧ (780 + z23) < 980) ∧ (¬ I24 237 (780 + z21) = I24 237 (780 + z23) → (0 ≤ (580 + z21) ∧ (580 + z21) < 980) ∧ (0 ≤ (580 + z23) ∧ (580 + z23) < 980) ∧ V_M_keepsAct I24 (fun I29 => V_M_leaves z21 I29 (fun I30 => V_M_placeOf x2 I30 (fun z31 I32 => V_M_leaves z31 I32 (fun I33 => V_M_comes x1 (I24 237 (580 + z21)) (I24 237 (780 + z23)) I33 (fun I34 => V_M_comes x2 (I24 237 (580 + z23)) (I24 237 (780 + z21)) I34 (fun I35 => Q 1 I35))))))) ∧
    (I24 237 (780 + z21) = I24 237 (780 + z23) → Q (-2) I24)) ∧
    (z21 = z23 → Q (-1) I24)))))
def V_M_share (x1 : Int) (I : Mm) (Q : Int → Mm → Prop) : Prop :=
  V_M_in x1 1 100 I (fun z21 I22 => (¬ z21 = 0 → (¬ I22 237 0 = 0 → r32 ((I22 237 0 * x1) + 99) ∧ (0 ≤ ((I22 237 0 * x1) + 99)) ∧ (0 ≤ ((780 + (((I22 237 0 * x1) + 99) / 100)) - 1) ∧ ((780 + (((I22 237 0 * x1) + 99) / 100)) - 1) < 980) ∧ Q (I22 237 ((780 + (((I22 237 0 * x1) + 99) / 100)) - 1)) I22) ∧
    (I22 237 0 = 0 → Q (-2) I22)) ∧
    (z21 = 0 → Q (-1) I22))
def L_M_bestRows_29 (x1 : Int) (x2 : Int) (Q : Int → Mm → Prop)  : Nat → Int → Int → Mm → Prop
  | 0, _, _, _ => False
  | n + 1, x3, x4, I => (64 < x4 → (¬ x2 = 0 → V_M_looksBy x3 x1 I (fun z25 I26 => Q z25 I26)) ∧
    (x2 = 0 → Q x3 I)) ∧
    (x4 ≤ 64 → V_M_looksBy x4 x1 I (fun z27 I28 => V_M_looksBy x3 x1 I28 (fun z29 I30 => (z29 ≤ z27 → r32 (x4 * 2) ∧ L_M_bestRows_29 x1 x2 Q n x3 (x4 * 2) I30) ∧
    (z27 < z29 → r32 (x4 * 2) ∧ L_M_bestRows_29 x1 x2 Q n x4 (x4 * 2) I30))))
def V_M_bestRows (x1 : Int) (x2 : Int) (I : Mm) (Q : Int → Mm → Prop) : Prop :=
  V_M_in x1 1 99999999 I (fun z21 I22 => (z21 = 0 → Q (-1) I22) ∧
    (¬ z21 = 0 → V_M_in x2 0 1 I22 (fun z23 I24 => (¬ z23 = 0 → ∃ f33 : Nat, L_M_bestRows_29 x1 x2 Q f33 2 4 I24) ∧
    (z23 = 0 → Q (-1) I24))))
def L_M_skewBy_36 (x1 : Int) (x2 : Int) (x3 : Int) (Q : Int → Mm → Prop) (K56 : Mm → Prop) : Nat → Int → Mm → Prop
  | 0, _, _ => False
  | n + 1, x4, I => (x1 ≤ x4 → K56 I) ∧
    (x4 < x1 → (0 ≤ x4 ∧ x4 < 64) ∧ r32 (x4 + 1) ∧ L_M_skewBy_36 x1 x2 x3 Q K56 n (x4 + 1) (wrM I 247 x4 0))
def L_M_skewBy_59 (x1 : Int) (x2 : Int) (x3 : Int) (Q : Int → Mm → Prop) (K100 : Mm → Prop) : Nat → Int → Mm → Prop
  | 0, _, _ => False
  | n + 1, x4, I => (I 237 0 ≤ x4 → K100 I) ∧
    (x4 < I 237 0 → (0 ≤ (780 + x4) ∧ (780 + x4) < 980) ∧ (0 ≤ I 237 (780 + x4) ∧ 0 < x2) ∧ (0 ≤ (I 237 (780 + x4) / x2) ∧ 0 < x1) ∧ (0 ≤ ((I 237 (780 + x4) / x2) % x1) ∧ ((I 237 (780 + x4) / x2) % x1) < 64) ∧ (0 ≤ ((I 237 (780 + x4) / x2) % x1) ∧ ((I 237 (780 + x4) / x2) % x1) < 64) ∧ r32 (I 247 ((I 237 (780 + x4) / x2) % x1) + 1) ∧ r32 (x4 + 1) ∧ L_M_skewBy_59 x1 x2 x3 Q K100 n (x4 + 1) (wrM I 247 ((I 237 (780 + x4) / x2) % x1) (I 247 ((I 237 (780 + x4) / x2) % x1) + 1)))
def J_M_skewBy_139 (x1 : Int) (x2 : Int) (x3 : Int) (Q : Int → Mm → Prop) (K109 : Int → Int → Int → Mm → Prop) (x5 : Int) (x6 : Int) (t0 : Int) (I : Mm) : Prop :=
  (0 ≤ x6 ∧ x6 < 64) ∧ (¬ I 247 x6 = 0 → r32 (x5 + 0) ∧ r32 (x6 + 1) ∧ K109 t0 (x5 + 0) (x6 + 1) I) ∧
    (I 247 x6 = 0 → r32 (x5 + 1) ∧ r32 (x6 + 1) ∧ K109 t0 (x5 + 1) (x6 + 1) I)
def L_M_skewBy_109 (x1 : Int) (x2 : Int) (x3 : Int) (Q : Int → Mm → Prop) (K167 : Int → Int → Mm → Prop) : Nat → Int → Int → Int → Mm → Prop
  | 0, _, _, _, _ => False
  | n + 1, x4, x5, x6, I => (x1 ≤ x6 → K167 x4 x5 I) ∧
    (x6 < x1 → (0 ≤ x6 ∧ x6 < 64) ∧ (0 ≤ x4 ∧ x4 < 64) ∧ (I 247 x6 ≤ I 247 x4 → J_M_skewBy_139 x1 x2 x3 Q (fun x4 x5 x6 I => L_M_skewBy_109 x1 x2 x3 Q K167 n x4 x5 x6 I) x5 x6 x4 I) ∧
    (I 247 x4 < I 247 x6 → J_M_skewBy_139 x1 x2 x3 Q (fun x4 x5 x6 I => L_M_skewBy_109 x1 x2 x3 Q K167 n x4 x5 x6 I) x5 x6 x6 I))
def V_M_skewBy (x1 : Int) (x2 : Int) (x3 : Int) (I : Mm) (Q : Int → Mm → Prop) : Prop :=
  V_M_areRows x1 I (fun z21 I22 => (z21 = 0 → Q (-1) I22) ∧
    (¬ z21 = 0 → V_M_in x2 1 99999999 I22 (fun z23 I24 => (z23 = 0 → Q (-1) I24) ∧
    (¬ z23 = 0 → V_M_in x3 0 2 I24 (fun z25 I26 => (¬ z25 = 0 → ∃ f55 : Nat, L_M_skewBy_36 x1 x2 x3 Q (fun I30 => ∃ f54 : Nat, L_M_skewBy_59 x1 x2 x3 Q (fun I39 => ∃ f53 : Nat, L_M_skewBy_109 x1 x2 x3 Q (fun y49 y50 I51 => (¬ x3 = 0 → (¬ x3 = 1 → Q y50 I51) ∧
    (x3 = 1 → Q y49 I51)) ∧
    (x3 = 0 → (0 ≤ y49 ∧ y49 < 64) ∧ Q (I51 247 y49) I51)) f53 0 0 0 I39) f54 0 I30) f55 0 I26) ∧
    (z25 = 0 → Q (-1) I26))))))
def J_M_longest_74 (x1 : Int) (Q : Int → Mm → Prop) (K23 : Int → Int → Int → Int → Mm → Prop) (x2 : Int) (x3 : Int) (x5 : Int) (t0 : Int) (I : Mm) : Prop :=
  (x2 < t0 → (0 ≤ (((380 + x5) - t0) + 1) ∧ (((380 + x5) - t0) + 1) < 980) ∧ ∀ y24 : Int, y24 = I 237 (((380 + x5) - t0) + 1) → r32 (x5 + 1) ∧ K23 t0 y24 t0 (x5 + 1) I) ∧
    (t0 ≤ x2 → r32 (x5 + 1) ∧ K23 x2 x3 t0 (x5 + 1) I)
def J_M_longest_73 (x1 : Int) (Q : Int → Mm → Prop) (K23 : Int → Int → Int → Int → Mm → Prop) (x2 : Int) (x3 : Int) (x5 : Int) (I : Mm) : Prop :=
  J_M_longest_74 x1 Q K23 x2 x3 x5 1 I
def L_M_longest_23 (x1 : Int) (Q : Int → Mm → Prop)  : Nat → Int → Int → Int → Int → Mm → Prop
  | 0, _, _, _, _, _ => False
  | n + 1, x2, x3, x4, x5, I => (I 237 0 ≤ x5 → (¬ x1 = 0 → Q x3 I) ∧
    (x1 = 0 → Q x2 I)) ∧
    (x5 < I 237 0 → (x5 ≤ 0 → J_M_longest_73 x1 Q (fun x2 x3 x4 x5 I => L_M_longest_23 x1 Q n x2 x3 x4 x5 I) x2 x3 x5 I) ∧
    (0 < x5 → (0 ≤ (580 + x5) ∧ (580 + x5) < 980) ∧ (0 ≤ ((580 + x5) - 1) ∧ ((580 + x5) - 1) < 980) ∧ (¬ I 237 (580 + x5) = I 237 ((580 + x5) - 1) → J_M_longest_73 x1 Q (fun x2 x3 x4 x5 I => L_M_longest_23 x1 Q n x2 x3 x4 x5 I) x2 x3 x5 I) ∧
    (I 237 (580 + x5) = I 237 ((580 + x5) - 1) → r32 (x4 + 1) ∧ J_M_longest_74 x1 Q (fun x2 x3 x4 x5 I => L_M_longest_23 x1 Q n x2 x3 x4 x5 I) x2 x3 x5 (x4 + 1) I)))
def V_M_longest (x1 : Int) (I : Mm) (Q : Int → Mm → Prop) : Prop :=
  V_M_in x1 0 1 I (fun z21 I22 => (¬ z21 = 0 → ∃ f34 : Nat, L_M_longest_23 x1 Q f34 0 (-2) 0 0 I22) ∧
    (z21 = 0 → Q (-1) I22))
def V_M_restHours (x1 : Int) (x2 : Int) (I : Mm) (Q : Int → Mm → Prop) : Prop :=
  (¬ x1 = x2 → (0 ≤ x1 ∧ x1 < 16) ∧ Q (I 248 x1) I) ∧
    (x1 = x2 → Q 0 I)
def V_M_restRules (x1 : Int) (x2 : Int) (I : Mm) (Q : Int → Mm → Prop) : Prop :=
  (¬ x1 = x2 → (0 ≤ x1 ∧ x1 < 16) ∧ Q (I 249 x1) I) ∧
    (x1 = x2 → Q 0 I)
def V_M_goesBy (x1 : Int) (x2 : Int) (I : Mm) (Q : Int → Mm → Prop) : Prop :=
  (0 ≤ (144 + (3 * x1)) ∧ (144 + (3 * x1)) < 980) ∧ (0 ≤ ((144 + (3 * x1)) + 1) ∧ ((144 + (3 * x1)) + 1) < 980) ∧ ∀ y23 : Int, y23 = I 237 ((144 + (3 * x1)) + 1) → V_M_restHours y23 x2 I (fun z24 I25 => (0 ≤ z24 → (0 ≤ ((144 + (3 * x1)) + 2) ∧ ((144 + (3 * x1)) + 2) < 980) ∧ ∀ y27 : Int, y27 = I25 237 ((144 + (3 * x1)) + 2) + z24 → V_M_restRules y23 x2 I25 (fun z28 I29 => (0 ≤ I 237 (144 + (3 * x1)) ∧ I 237 (144 + (3 * x1)) < 16) ∧ (I29 248 (I 237 (144 + (3 * x1))) < 0 → (0 ≤ I 237 (144 + (3 * x1)) ∧ I 237 (144 + (3 * x1)) < 16) ∧ r32 y27 ∧ (0 ≤ I 237 (144 + (3 * x1)) ∧ I 237 (144 + (3 * x1)) < 16) ∧ r32 (1 + z28) ∧ Q 1 ((wrM ((wrM I29 248 (I 237 (144 + (3 * x1))) y27)) 249 (I 237 (144 + (3 * x1))) (1 + z28)))) ∧
    (0 ≤ I29 248 (I 237 (144 + (3 * x1))) → (0 ≤ I 237 (144 + (3 * x1)) ∧ I 237 (144 + (3 * x1)) < 16) ∧ r32 y27 ∧ (I29 248 (I 237 (144 + (3 * x1))) < y27 → Q 0 I29) ∧
    (y27 ≤ I29 248 (I 237 (144 + (3 * x1))) → (0 ≤ I 237 (144 + (3 * x1)) ∧ I 237 (144 + (3 * x1)) < 16) ∧ (¬ y27 = I29 248 (I 237 (144 + (3 * x1))) → (0 ≤ I 237 (144 + (3 * x1)) ∧ I 237 (144 + (3 * x1)) < 16) ∧ (0 ≤ I 237 (144 + (3 * x1)) ∧ I 237 (144 + (3 * x1)) < 16) ∧ r32 (1 + z28) ∧ Q 1 ((wrM ((wrM I29 248 (I 237 (144 + (3 * x1))) y27)) 249 (I 237 (144 + (3 * x1))) (1 + z28)))) ∧
    (y27 = I29 248 (I 237 (144 + (3 * x1))) → (0 ≤ I 237 (144 + (3 * x1)) ∧ I 237 (144 + (3 * x1)) < 16) ∧ r32 (1 + z28) ∧ (1 + z28 < I29 249 (I 237 (144 + (3 * x1))) → (0 ≤ I 237 (144 + (3 * x1)) ∧ I 237 (144 + (3 * x1)) < 16) ∧ (0 ≤ I 237 (144 + (3 * x1)) ∧ I 237 (144 + (3 * x1)) < 16) ∧ Q 1 ((wrM ((wrM I29 248 (I 237 (144 + (3 * x1))) y27)) 249 (I 237 (144 + (3 * x1))) (1 + z28)))) ∧
    (I29 249 (I 237 (144 + (3 * x1))) ≤ 1 + z28 → Q 0 I29)))))) ∧
    (z24 < 0 → Q 0 I25))
def L_M_wayRule_2 (x1 : Int) (x2 : Int) (Q : Int → Mm → Prop)  : Nat → Int → Mm → Prop
  | 0, _, _ => False
  | n + 1, x3, I => (I 237 5 ≤ x3 → Q (-1) I) ∧
    (x3 < I 237 5 → (0 ≤ ((144 + (3 * x3)) + 1) ∧ ((144 + (3 * x3)) + 1) < 980) ∧ ∀ y22 : Int, y22 = I 237 ((144 + (3 * x3)) + 1) → (0 ≤ (144 + (3 * x3)) ∧ (144 + (3 * x3)) < 980) ∧ (¬ I 237 (144 + (3 * x3)) = x1 → r32 (x3 + 1) ∧ L_M_wayRule_2 x1 x2 Q n (x3 + 1) I) ∧
    (I 237 (144 + (3 * x3)) = x1 → V_M_restHours y22 x2 I (fun z25 I26 => (0 ≤ z25 → (0 ≤ ((144 + (3 * x3)) + 2) ∧ ((144 + (3 * x3)) + 2) < 980) ∧ V_M_restHours y22 x2 I26 (fun z28 I29 => (0 ≤ x1 ∧ x1 < 16) ∧ r32 (I26 237 ((144 + (3 * x3)) + 2) + z28) ∧ (¬ I26 237 ((144 + (3 * x3)) + 2) + z28 = I29 248 x1 → r32 (x3 + 1) ∧ L_M_wayRule_2 x1 x2 Q n (x3 + 1) I29) ∧
    (I26 237 ((144 + (3 * x3)) + 2) + z28 = I29 248 x1 → V_M_restRules y22 x2 I29 (fun z33 I34 => (0 ≤ x1 ∧ x1 < 16) ∧ r32 (1 + z33) ∧ (¬ 1 + z33 = I34 249 x1 → r32 (x3 + 1) ∧ L_M_wayRule_2 x1 x2 Q n (x3 + 1) I34) ∧
    (1 + z33 = I34 249 x1 → Q x3 I34))))) ∧
    (z25 < 0 → r32 (x3 + 1) ∧ L_M_wayRule_2 x1 x2 Q n (x3 + 1) I26))))
def V_M_wayRule (x1 : Int) (x2 : Int) (I : Mm) (Q : Int → Mm → Prop) : Prop :=
  ∃ f39 : Nat, L_M_wayRule_2 x1 x2 Q f39 0 I
def L_M_way_26 (x1 : Int) (x2 : Int) (x3 : Int) (Q : Int → Mm → Prop) (K47 : Mm → Prop) : Nat → Int → Mm → Prop
  | 0, _, _ => False
  | n + 1, x4, I => (16 ≤ x4 → K47 I) ∧
    (x4 < 16 → (0 ≤ x4 ∧ x4 < 16) ∧ r32 (x4 + 1) ∧ L_M_way_26 x1 x2 x3 Q K47 n (x4 + 1) (wrM I 248 x4 (-1)))
def L_M_way_61 (x1 : Int) (x2 : Int) (x3 : Int) (Q : Int → Mm → Prop) (K50 : Int → Mm → Prop) : Nat → Int → Int → Mm → Prop
  | 0, _, _, _ => False
  | n + 1, x4, x5, I => (I 237 5 ≤ x5 → K50 x4 I) ∧
    (x5 < I 237 5 → V_M_goesBy x5 x2 I (fun z29 I30 => (¬ z29 = 0 → r32 (x5 + 1) ∧ L_M_way_61 x1 x2 x3 Q K50 n 1 (x5 + 1) I30) ∧
    (z29 = 0 → (x4 = 0 → r32 (x5 + 1) ∧ L_M_way_61 x1 x2 x3 Q K50 n 0 (x5 + 1) I30) ∧
    (¬ x4 = 0 → r32 (x5 + 1) ∧ L_M_way_61 x1 x2 x3 Q K50 n 1 (x5 + 1) I30))))
def L_M_way_50 (x1 : Int) (x2 : Int) (x3 : Int) (Q : Int → Mm → Prop) (K103 : Mm → Prop) : Nat → Int → Mm → Prop
  | 0, _, _ => False
  | n + 1, x4, I => (x4 = 0 → K103 I) ∧
    (¬ x4 = 0 → ∃ f34 : Nat, L_M_way_61 x1 x2 x3 Q (fun x4 I => L_M_way_50 x1 x2 x3 Q K103 n x4 I) f34 0 0 I)
def L_M_way_151 (x1 : Int) (x2 : Int) (x3 : Int) (Q : Int → Mm → Prop)  : Nat → Int → Int → Mm → Prop
  | 0, _, _, _ => False
  | n + 1, x5, x6, I => (x3 ≤ x6 → Q x5 I) ∧
    (x6 < x3 → (0 ≤ ((144 + (3 * x5)) + 1) ∧ ((144 + (3 * x5)) + 1) < 980) ∧ V_M_wayRule (I 237 ((144 + (3 * x5)) + 1)) x2 I (fun z41 I42 => r32 (x6 + 1) ∧ L_M_way_151 x1 x2 x3 Q n z41 (x6 + 1) I42))
def V_M_way (x1 : Int) (x2 : Int) (x3 : Int) (I : Mm) (Q : Int → Mm → Prop) : Prop :=
  V_M_isName x1 I (fun z21 I22 => (z21 = 0 → Q (-1) I22) ∧
    (¬ z21 = 0 → V_M_isName x2 I22 (fun z23 I24 => (z23 = 0 → Q (-1) I24) ∧
    (¬ z23 = 0 → (-1 ≤ x3 → ∃ f47 : Nat, L_M_way_26 x1 x2 x3 Q (fun I28 => ∃ f46 : Nat, L_M_way_50 x1 x2 x3 Q (fun I35 => (0 ≤ x1 ∧ x1 < 16) ∧ (0 ≤ I35 248 x1 → (¬ x3 = -1 → (0 ≤ x1 ∧ x1 < 16) ∧ (x3 < I35 249 x1 → V_M_wayRule x1 x2 I35 (fun z38 I39 => ∃ f44 : Nat, L_M_way_151 x1 x2 x3 Q f44 z38 0 I39)) ∧
    (I35 249 x1 ≤ x3 → Q (-2) I35)) ∧
    (x3 = -1 → (0 ≤ x1 ∧ x1 < 16) ∧ Q (I35 249 x1) I35)) ∧
    (I35 248 x1 < 0 → Q (-2) I35)) f46 1 I28) f47 0 I24) ∧
    (x3 < -1 → Q (-1) I24)))))
def L_M_by_35 (x1 : Int) (x2 : Int) (Q : Int → Mm → Prop) (K78 : Int → Int → Mm → Prop) : Nat → Int → Int → Mm → Prop
  | 0, _, _, _ => False
  | n + 1, x3, x4, I => (300 ≤ x3 → K78 x3 x4 I) ∧
    (x3 < 300 → (I 237 0 ≤ 0 → K78 x3 x4 I) ∧
    (0 < I 237 0 → (x1 < I 237 780 → K78 x3 x4 I) ∧
    (I 237 780 ≤ x1 → V_M_takes I (fun z26 I27 => r32 (x3 + 1) ∧ r32 (x4 + z26) ∧ L_M_by_35 x1 x2 Q K78 n (x3 + 1) (x4 + z26) I27))))
def V_M_by (x1 : Int) (x2 : Int) (I : Mm) (Q : Int → Mm → Prop) : Prop :=
  V_M_in x1 0 999999999 I (fun z21 I22 => (z21 = 0 → Q (-1) I22) ∧
    (¬ z21 = 0 → V_M_in x2 0 2 I22 (fun z23 I24 => (¬ z23 = 0 → V_M_keepsAside I24 (fun I25 => ∃ f34 : Nat, L_M_by_35 x1 x2 Q (fun y30 y31 I32 => V_M_isAgain I32 (fun I33 => (¬ x2 = 0 → (¬ x2 = 1 → Q (I32 237 0) I33) ∧
    (x2 = 1 → Q y31 I33)) ∧
    (x2 = 0 → Q y30 I33))) f34 0 0 I25)) ∧
    (z23 = 0 → Q (-1) I24))))
def L_L_law_18 (X : Int → Int) (L : Int) (Q : Mm → Prop)  : Nat → Int → Mm → Prop
  | 0, _, _ => False
  | n + 1, x3, I => r32 (L - 6) ∧ (L - 6 < x3 → True) ∧
    (x3 ≤ L - 6 → (0 ≤ x3 ∧ x3 < L) ∧ (bAnd (X x3) 63 = 0 → (0 ≤ (x3 + 1) ∧ (x3 + 1) < L) ∧ (0 ≤ (x3 + 2) ∧ (x3 + 2) < L) ∧ (0 ≤ (x3 + 3) ∧ (x3 + 3) < L) ∧ (0 ≤ (x3 + 4) ∧ (x3 + 4) < L) ∧ (0 ≤ (x3 + 5) ∧ (x3 + 5) < L) ∧ V_X_feed (X (x3 + 1)) (X (x3 + 2)) (X (x3 + 3)) (X (x3 + 4)) (X (x3 + 5)) I (fun z28 I29 => (0 ≤ (x3 + 1) ∧ (x3 + 1) < L) ∧ (0 ≤ (x3 + 2) ∧ (x3 + 2) < L) ∧ (0 ≤ (x3 + 3) ∧ (x3 + 3) < L) ∧ (0 ≤ (x3 + 4) ∧ (x3 + 4) < L) ∧ (0 ≤ (x3 + 5) ∧ (x3 + 5) < L) ∧ V_M_feed (X (x3 + 1)) (X (x3 + 2)) (X (x3 + 3)) (X (x3 + 4)) (X (x3 + 5)) I29 (fun z35 I36 => (z28 = z35 → r32 (x3 + 6) ∧ L_L_law_18 X L Q n (x3 + 6) I36) ∧
    (¬ z28 = z35 → False)))) ∧
    (bAnd (X x3) 63 = 1 → (0 ≤ (x3 + 1) ∧ (x3 + 1) < L) ∧ V_X_end (X (x3 + 1)) I (fun z39 I40 => (0 ≤ (x3 + 1) ∧ (x3 + 1) < L) ∧ V_M_end (X (x3 + 1)) I40 (fun z42 I43 => (z39 = z42 → r32 (x3 + 6) ∧ L_L_law_18 X L Q n (x3 + 6) I43) ∧
    (¬ z39 = z42 → False)))) ∧
    (bAnd (X x3) 63 = 2 → V_X_tell I (fun z45 I46 => V_M_tell I46 (fun z47 I48 => (z45 = z47 → r32 (x3 + 6) ∧ L_L_law_18 X L Q n (x3 + 6) I48) ∧
    (¬ z45 = z47 → False)))) ∧
    (bAnd (X x3) 63 = 3 → V_X_name I (fun z50 I51 => V_M_name I51 (fun z52 I53 => (z50 = z52 → r32 (x3 + 6) ∧ L_L_law_18 X L Q n (x3 + 6) I53) ∧
    (¬ z50 = z52 → False)))) ∧
    (bAnd (X x3) 63 = 4 → (0 ≤ (x3 + 1) ∧ (x3 + 1) < L) ∧ (0 ≤ (x3 + 2) ∧ (x3 + 2) < L) ∧ V_X_push (X (x3 + 1)) (X (x3 + 2)) I (fun z57 I58 => (0 ≤ (x3 + 1) ∧ (x3 + 1) < L) ∧ (0 ≤ (x3 + 2) ∧ (x3 + 2) < L) ∧ V_M_push (X (x3 + 1)) (X (x3 + 2)) I58 (fun z61 I62 => (z57 = z61 → r32 (x3 + 6) ∧ L_L_law_18 X L Q n (x3 + 6) I62) ∧
    (¬ z57 = z61 → False)))) ∧
    (bAnd (X x3) 63 = 5 → (0 ≤ (x3 + 1) ∧ (x3 + 1) < L) ∧ V_X_take (X (x3 + 1)) I (fun z65 I66 => (0 ≤ (x3 + 1) ∧ (x3 + 1) < L) ∧ V_M_take (X (x3 + 1)) I66 (fun z68 I69 => (z65 = z68 → r32 (x3 + 6) ∧ L_L_law_18 X L Q n (x3 + 6) I69) ∧
    (¬ z65 = z68 → False)))) ∧
    (bAnd (X x3) 63 = 6 → (0 ≤ (x3 + 1) ∧ (x3 + 1) < L) ∧ V_X_until (X (x3 + 1)) I (fun z72 I73 => (0 ≤ (x3 + 1) ∧ (x3 + 1) < L) ∧ V_M_until (X (x3 + 1)) I73 (fun z75 I76 => (z72 = z75 → r32 (x3 + 6) ∧ L_L_law_18 X L Q n (x3 + 6) I76) ∧
    (¬ z72 = z75 → False)))) ∧
    (bAnd (X x3) 63 = 7 → (0 ≤ (x3 + 1) ∧ (x3 + 1) < L) ∧ V_X_cancel (X (x3 + 1)) I (fun z79 I80 => (0 ≤ (x3 + 1) ∧ (x3 + 1) < L) ∧ V_M_cancel (X (x3 + 1)) I80 (fun z82 I83 => (z79 = z82 → r32 (x3 + 6) ∧ L_L_law_18 X L Q n (x3 + 6) I83) ∧
    (¬ z79 = z82 → False)))) ∧
    (bAnd (X x3) 63 = 8 → (0 ≤ (x3 + 1) ∧ (x3 + 1) < L) ∧ V_X_clear (X (x3 + 1)) I (fun z86 I87 => (0 ≤ (x3 + 1) ∧ (x3 + 1) < L) ∧ V_M_clear (X (x3 + 1)) I87 (fun z89 I90 => (z86 = z89 → r32 (x3 + 6) ∧ L_L_law_18 X L Q n (x3 + 6) I90) ∧
    (¬ z86 = z89 → False)))) ∧
    (bAnd (X x3) 63 = 9 → (0 ≤ (x3 + 1) ∧ (x3 + 1) < L) ∧ (0 ≤ (x3 + 2) ∧ (x3 + 2) < L) ∧ V_X_postpone (X (x3 + 1)) (X (x3 + 2)) I (fun z94 I95 => (0 ≤ (x3 + 1) ∧ (x3 + 1) < L) ∧ (0 ≤ (x3 + 2) ∧ (x3 + 2) < L) ∧ V_M_postpone (X (x3 + 1)) (X (x3 + 2)) I95 (fun z98 I99 => (z94 = z98 → r32 (x3 + 6) ∧ L_L_law_18 X L Q n (x3 + 6) I99) ∧
    (¬ z94 = z98 → False)))) ∧
    (bAnd (X x3) 63 = 10 → (0 ≤ (x3 + 1) ∧ (x3 + 1) < L) ∧ (0 ≤ (x3 + 2) ∧ (x3 + 2) < L) ∧ (0 ≤ (x3 + 3) ∧ (x3 + 3) < L) ∧ (0 ≤ (x3 + 4) ∧ (x3 + 4) < L) ∧ V_X_series (X (x3 + 1)) (X (x3 + 2)) (X (x3 + 3)) (X (x3 + 4)) I (fun z105 I106 => (0 ≤ (x3 + 1) ∧ (x3 + 1) < L) ∧ (0 ≤ (x3 + 2) ∧ (x3 + 2) < L) ∧ (0 ≤ (x3 + 3) ∧ (x3 + 3) < L) ∧ (0 ≤ (x3 + 4) ∧ (x3 + 4) < L) ∧ V_M_series (X (x3 + 1)) (X (x3 + 2)) (X (x3 + 3)) (X (x3 + 4)) I106 (fun z111 I112 => (z105 = z111 → r32 (x3 + 6) ∧ L_L_law_18 X L Q n (x3 + 6) I112) ∧
    (¬ z105 = z111 → False)))) ∧
    (bAnd (X x3) 63 = 11 → (0 ≤ (x3 + 1) ∧ (x3 + 1) < L) ∧ (0 ≤ (x3 + 2) ∧ (x3 + 2) < L) ∧ V_X_shift (X (x3 + 1)) (X (x3 + 2)) I (fun z116 I117 => (0 ≤ (x3 + 1) ∧ (x3 + 1) < L) ∧ (0 ≤ (x3 + 2) ∧ (x3 + 2) < L) ∧ V_M_shift (X (x3 + 1)) (X (x3 + 2)) I117 (fun z120 I121 => (z116 = z120 → r32 (x3 + 6) ∧ L_L_law_18 X L Q n (x3 + 6) I121) ∧
    (¬ z116 = z120 → False)))) ∧
    (bAnd (X x3) 63 = 12 → (0 ≤ (x3 + 1) ∧ (x3 + 1) < L) ∧ (0 ≤ (x3 + 2) ∧ (x3 + 2) < L) ∧ V_X_merge (X (x3 + 1)) (X (x3 + 2)) I (fun z125 I126 => (0 ≤ (x3 + 1) ∧ (x3 + 1) < L) ∧ (0 ≤ (x3 + 2) ∧ (x3 + 2) < L) ∧ V_M_merge (X (x3 + 1)) (X (x3 + 2)) I126 (fun z129 I130 => (z125 = z129 → r32 (x3 + 6) ∧ L_L_law_18 X L Q n (x3 + 6) I130) ∧
    (¬ z125 = z129 → False)))) ∧
    (bAnd (X x3) 63 = 13 → (0 ≤ (x3 + 1) ∧ (x3 + 1) < L) ∧ V_X_cut (X (x3 + 1)) I (fun z133 I134 => (0 ≤ (x3 + 1) ∧ (x3 + 1) < L) ∧ V_M_cut (X (x3 + 1)) I134 (fun z136 I137 => (z133 = z136 → r32 (x3 + 6) ∧ L_L_law_18 X L Q n (x3 + 6) I137) ∧
    (¬ z133 = z136 → False)))) ∧
    (bAnd (X x3) 63 = 14 → (0 ≤ (x3 + 1) ∧ (x3 + 1) < L) ∧ (0 ≤ (x3 + 2) ∧ (x3 + 2) < L) ∧ V_X_swap (X (x3 + 1)) (X (x3 + 2)) I (fun z141 I142 => (0 ≤ (x3 + 1) ∧ (x3 + 1) < L) ∧ (0 ≤ (x3 + 2) ∧ (x3 + 2) < L) ∧ V_M_swap (X (x3 + 1)) (X (x3 + 2)) I142 (fun z145 I146 => (z141 = z145 → r32 (x3 + 6) ∧ L_L_law_18 X L Q n (x3 + 6) I146) ∧
    (¬ z141 = z145 → False)))) ∧
    (bAnd (X x3) 63 = 15 → (0 ≤ (x3 + 1) ∧ (x3 + 1) < L) ∧ (0 ≤ (x3 + 2) ∧ (x3 + 2) < L) ∧ (0 ≤ (x3 + 3) ∧ (x3 + 3) < L) ∧ V_X_rule (X (x3 + 1)) (X (x3 + 2)) (X (x3 + 3)) I (fun z151 I152 => (0 ≤ (x3 + 1) ∧ (x3 + 1) < L) ∧ (0 ≤ (x3 + 2) ∧ (x3 + 2) < L) ∧ (0 ≤ (x3 + 3) ∧ (x3 + 3) < L) ∧ V_M_rule (X (x3 + 1)) (X (x3 + 2)) (X (x3 + 3)) I152 (fun z156 I157 => (z151 = z156 → r32 (x3 + 6) ∧ L_L_law_18 X L Q n (x3 + 6) I157) ∧
    (¬ z151 = z156 → False)))) ∧
    (bAnd (X x3) 63 = 16 → (0 ≤ (x3 + 1) ∧ (x3 + 1) < L) ∧ V_X_unrule (X (x3 + 1)) I (fun z160 I161 => (0 ≤ (x3 + 1) ∧ (x3 + 1) < L) ∧ V_M_unrule (X (x3 + 1)) I161 (fun z163 I164 => (z160 = z163 → r32 (x3 + 6) ∧ L_L_law_18 X L Q n (x3 + 6) I164) ∧
    (¬ z160 = z163 → False)))) ∧
    (bAnd (X x3) 63 = 17 → (0 ≤ (x3 + 1) ∧ (x3 + 1) < L) ∧ (0 ≤ (x3 + 2) ∧ (x3 + 2) < L) ∧ V_X_resize (X (x3 + 1)) (X (x3 + 2)) I (fun z168 I169 => (0 ≤ (x3 + 1) ∧ (x3 + 1) < L) ∧ (0 ≤ (x3 + 2) ∧ (x3 + 2) < L) ∧ V_M_resize (X (x3 + 1)) (X (x3 + 2)) I169 (fun z172 I173 => (z168 = z172 → r32 (x3 + 6) ∧ L_L_law_18 X L Q n (x3 + 6) I173) ∧
    (¬ z168 = z172 → False)))) ∧
    (bAnd (X x3) 63 = 18 → V_X_undo I (fun z175 I176 => V_M_undo I176 (fun z177 I178 => (z175 = z177 → r32 (x3 + 6) ∧ L_L_law_18 X L Q n (x3 + 6) I178) ∧
    (¬ z175 = z177 → False)))) ∧
    (bAnd (X x3) 63 = 19 → (0 ≤ (x3 + 1) ∧ (x3 + 1) < L) ∧ V_X_keep (X (x3 + 1)) I (fun z181 I182 => (0 ≤ (x3 + 1) ∧ (x3 + 1) < L) ∧ V_M_keep (X (x3 + 1)) I182 (fun z184 I185 => (z181 = z184 → r32 (x3 + 6) ∧ L_L_law_18 X L Q n (x3 + 6) I185) ∧
    (¬ z181 = z184 → False)))) ∧
    (bAnd (X x3) 63 = 20 → (0 ≤ (x3 + 1) ∧ (x3 + 1) < L) ∧ V_X_back (X (x3 + 1)) I (fun z188 I189 => (0 ≤ (x3 + 1) ∧ (x3 + 1) < L) ∧ V_M_back (X (x3 + 1)) I189 (fun z191 I192 => (z188 = z191 → r32 (x3 + 6) ∧ L_L_law_18 X L Q n (x3 + 6) I192) ∧
    (¬ z188 = z191 → False)))) ∧
    (bAnd (X x3) 63 = 21 → (0 ≤ (x3 + 1) ∧ (x3 + 1) < L) ∧ (0 ≤ (x3 + 2) ∧ (x3 + 2) < L) ∧ V_X_next (X (x3 + 1)) (X (x3 + 2)) I (fun z196 I197 => (0 ≤ (x3 + 1) ∧ (x3 + 1) < L) ∧ (0 ≤ (x3 + 2) ∧ (x3 + 2) < L) ∧ V_M_next (X (x3 + 1)) (X (x3 + 2)) I197 (fun z200 I201 => (z196 = z200 → r32 (x3 + 6) ∧ L_L_law_18 X L Q n (x3 + 6) I201) ∧
    (¬ z196 = z200 → False)))) ∧
    (bAnd (X x3) 63 = 22 → (0 ≤ (x3 + 1) ∧ (x3 + 1) < L) ∧ (0 ≤ (x3 + 2) ∧ (x3 + 2) < L) ∧ V_X_of (X (x3 + 1)) (X (x3 + 2)) I (fun z205 I206 => (0 ≤ (x3 + 1) ∧ (x3 + 1) < L) ∧ (0 ≤ (x3 + 2) ∧ (x3 + 2) < L) ∧ V_M_of (X (x3 + 1)) (X (x3 + 2)) I206 (fun z209 I210 => (z205 = z209 → r32 (x3 + 6) ∧ L_L_law_18 X L Q n (x3 + 6) I210) ∧
    (¬ z205 = z209 → False)))) ∧
    (bAnd (X x3) 63 = 23 → (0 ≤ (x3 + 1) ∧ (x3 + 1) < L) ∧ (0 ≤ (x3 + 2) ∧ (x3 + 2) < L) ∧ V_X_row (X (x3 + 1)) (X (x3 + 2)) I (fun z214 I215 => (0 ≤ (x3 + 1) ∧ (x3 + 1) < L) ∧ (0 ≤ (x3 + 2) ∧ (x3 + 2) < L) ∧ V_M_row (X (x3 + 1)) (X (x3 + 2)) I215 (fun z218 I219 => (z214 = z218 → r32 (x3 + 6) ∧ L_L_law_18 X L Q n (x3 + 6) I219) ∧
    (¬ z214 = z218 → False)))) ∧
    (bAnd (X x3) 63 = 24 → (0 ≤ (x3 + 1) ∧ (x3 + 1) < L) ∧ (0 ≤ (x3 + 2) ∧ (x3 + 2) < L) ∧ V_X_letter (X (x3 + 1)) (X (x3 + 2)) I (fun z223 I224 => (0 ≤ (x3 + 1) ∧ (x3 + 1) < L) ∧ (0 ≤ (x3 + 2) ∧ (x3 + 2) < L) ∧ V_M_letter (X (x3 + 1)) (X (x3 + 2)) I224 (fun z227 I228 => (z223 = z227 → r32 (x3 + 6) ∧ L_L_law_18 X L Q n (x3 + 6) I228) ∧
    (¬ z223 = z227 → False)))) ∧
    (bAnd (X x3) 63 = 25 → (0 ≤ (x3 + 1) ∧ (x3 + 1) < L) ∧ (0 ≤ (x3 + 2) ∧ (x3 + 2) < L) ∧ V_X_named (X (x3 + 1)) (X (x3 + 2)) I (fun z232 I233 => (0 ≤ (x3 + 1) ∧ (x3 + 1) < L) ∧ (0 ≤ (x3 + 2) ∧ (x3 + 2) < L) ∧ V_M_named (X (x3 + 1)) (X (x3 + 2)) I233 (fun z236 I237 => (z232 = z236 → r32 (x3 + 6) ∧ L_L_law_18 X L Q n (x3 + 6) I237) ∧
    (¬ z232 = z236 → False)))) ∧
    (bAnd (X x3) 63 = 26 → (0 ≤ (x3 + 1) ∧ (x3 + 1) < L) ∧ (0 ≤ (x3 + 2) ∧ (x3 + 2) < L) ∧ V_X_ruled (X (x3 + 1)) (X (x3 + 2)) I (fun z241 I242 => (0 ≤ (x3 + 1) ∧ (x3 + 1) < L) ∧ (0 ≤ (x3 + 2) ∧ (x3 + 2) < L) ∧ V_M_ruled (X (x3 + 1)) (X (x3 + 2)) I242 (fun z245 I246 => (z241 = z245 → r32 (x3 + 6) ∧ L_L_law_18 X L Q n (x3 + 6) I246) ∧
    (¬ z241 = z245 → False)))) ∧
    (bAnd (X x3) 63 = 27 → (0 ≤ (x3 + 1) ∧ (x3 + 1) < L) ∧ (0 ≤ (x3 + 2) ∧ (x3 + 2) < L) ∧ V_X_log (X (x3 + 1)) (X (x3 + 2)) I (fun z250 I251 => (0 ≤ (x3 + 1) ∧ (x3 + 1) < L) ∧ (0 ≤ (x3 + 2) ∧ (x3 + 2) < L) ∧ V_M_log (X (x3 + 1)) (X (x3 + 2)) I251 (fun z254 I255 => (z250 = z254 → r32 (x3 + 6) ∧ L_L_law_18 X L Q n (x3 + 6) I255) ∧
    (¬ z250 = z254 → False)))) ∧
    (bAnd (X x3) 63 = 28 → (0 ≤ (x3 + 1) ∧ (x3 + 1) < L) ∧ V_X_total (X (x3 + 1)) I (fun z258 I259 => (0 ≤ (x3 + 1) ∧ (x3 + 1) < L) ∧ V_M_total (X (x3 + 1)) I259 (fun z261 I262 => (z258 = z261 → r32 (x3 + 6) ∧ L_L_law_18 X L Q n (x3 + 6) I262) ∧
    (¬ z258 = z261 → False)))) ∧
    (bAnd (X x3) 63 = 29 → (0 ≤ (x3 + 1) ∧ (x3 + 1) < L) ∧ V_X_skew (X (x3 + 1)) I (fun z265 I266 => (0 ≤ (x3 + 1) ∧ (x3 + 1) < L) ∧ V_M_skew (X (x3 + 1)) I266 (fun z268 I269 => (z265 = z268 → r32 (x3 + 6) ∧ L_L_law_18 X L Q n (x3 + 6) I269) ∧
    (¬ z265 = z268 → False)))) ∧
    (bAnd (X x3) 63 = 30 → V_X_looks I (fun z271 I272 => V_M_looks I272 (fun z273 I274 => (z271 = z273 → r32 (x3 + 6) ∧ L_L_law_18 X L Q n (x3 + 6) I274) ∧
    (¬ z271 = z273 → False)))) ∧
    (bAnd (X x3) 63 = 31 → (0 ≤ (x3 + 1) ∧ (x3 + 1) < L) ∧ (0 ≤ (x3 + 2) ∧ (x3 + 2) < L) ∧ V_X_lookBy (X (x3 + 1)) (X (x3 + 2)) I (fun z278 I279 => (0 ≤ (x3 + 1) ∧ (x3 + 1) < L) ∧ (0 ≤ (x3 + 2) ∧ (x3 + 2) < L) ∧ V_M_lookBy (X (x3 + 1)) (X (x3 + 2)) I279 (fun z282 I283 => (z278 = z282 → r32 (x3 + 6) ∧ L_L_law_18 X L Q n (x3 + 6) I283) ∧
    (¬ z278 = z282 → False)))) ∧
    (bAnd (X x3) 63 = 32 → (0 ≤ (x3 + 1) ∧ (x3 + 1) < L) ∧ (0 ≤ (x3 + 2) ∧ (x3 + 2) < L) ∧ V_X_best (X (x3 + 1)) (X (x3 + 2)) I (fun z287 I288 => (0 ≤ (x3 + 1) ∧ (x3 + 1) < L) ∧ (0 ≤ (x3 + 2) ∧ (x3 + 2) < L) ∧ V_M_best (X (x3 + 1)) (X (x3 + 2)) I288 (fun z291 I292 => (z287 = z291 → r32 (x3 + 6) ∧ L_L_law_18 X L Q n (x3 + 6) I292) ∧
    (¬ z287 = z291 → False)))) ∧
    (bAnd (X x3) 63 = 33 → V_X_widthNow I (fun z294 I295 => V_M_widthNow I295 (fun z296 I297 => (z294 = z296 → r32 (x3 + 6) ∧ L_L_law_18 X L Q n (x3 + 6) I297) ∧
    (¬ z294 = z296 → False)))) ∧
    (bAnd (X x3) 63 = 34 → (0 ≤ (x3 + 1) ∧ (x3 + 1) < L) ∧ (0 ≤ (x3 + 2) ∧ (x3 + 2) < L) ∧ V_X_ahead (X (x3 + 1)) (X (x3 + 2)) I (fun z301 I302 => (0 ≤ (x3 + 1) ∧ (x3 + 1) < L) ∧ (0 ≤ (x3 + 2) ∧ (x3 + 2) < L) ∧ V_M_ahead (X (x3 + 1)) (X (x3 + 2)) I302 (fun z305 I306 => (z301 = z305 → r32 (x3 + 6) ∧ L_L_law_18 X L Q n (x3 + 6) I306) ∧
    (¬ z301 = z305 → False)))) ∧
    (bAnd (X x3) 63 = 35 → (0 ≤ (x3 + 1) ∧ (x3 + 1) < L) ∧ (0 ≤ (x3 + 2) ∧ (x3 + 2) < L) ∧ V_X_between (X (x3 + 1)) (X (x3 + 2)) I (fun z310 I311 => (0 ≤ (x3 + 1) ∧ (x3 + 1) < L) ∧ (0 ≤ (x3 + 2) ∧ (x3 + 2) < L) ∧ V_M_between (X (x3 + 1)) (X (x3 + 2)) I311 (fun z314 I315 => (z310 = z314 → r32 (x3 + 6) ∧ L_L_law_18 X L Q n (x3 + 6) I315) ∧
    (¬ z310 = z314 → False)))) ∧
    (bAnd (X x3) 63 = 36 → (0 ≤ (x3 + 1) ∧ (x3 + 1) < L) ∧ (0 ≤ (x3 + 2) ∧ (x3 + 2) < L) ∧ V_X_crowd (X (x3 + 1)) (X (x3 + 2)) I (fun z319 I320 => (0 ≤ (x3 + 1) ∧ (x3 + 1) < L) ∧ (0 ≤ (x3 + 2) ∧ (x3 + 2) < L) ∧ V_M_crowd (X (x3 + 1)) (X (x3 + 2)) I320 (fun z323 I324 => (z319 = z323 → r32 (x3 + 6) ∧ L_L_law_18 X L Q n (x3 + 6) I324) ∧
    (¬ z319 = z323 → False)))) ∧
    (bAnd (X x3) 63 = 37 → (0 ≤ (x3 + 1) ∧ (x3 + 1) < L) ∧ (0 ≤ (x3 + 2) ∧ (x3 + 2) < L) ∧ V_X_busiest (X (x3 + 1)) (X (x3 + 2)) I (fun z328 I329 => (0 ≤ (x3 + 1) ∧ (x3 + 1) < L) ∧ (0 ≤ (x3 + 2) ∧ (x3 + 2) < L) ∧ V_M_busiest (X (x3 + 1)) (X (x3 + 2)) I329 (fun z332 I333 => (z328 = z332 → r32 (x3 + 6) ∧ L_L_law_18 X L Q n (x3 + 6) I333) ∧
    (¬ z328 = z332 → False)))) ∧
    (bAnd (X x3) 63 = 38 → (0 ≤ (x3 + 1) ∧ (x3 + 1) < L) ∧ (0 ≤ (x3 + 2) ∧ (x3 + 2) < L) ∧ V_X_leads (X (x3 + 1)) (X (x3 + 2)) I (fun z337 I338 => (0 ≤ (x3 + 1) ∧ (x3 + 1) < L) ∧ (0 ≤ (x3 + 2) ∧ (x3 + 2) < L) ∧ V_M_leads (X (x3 + 1)) (X (x3 + 2)) I338 (fun z341 I342 => (z337 = z341 → r32 (x3 + 6) ∧ L_L_law_18 X L Q n (x3 + 6) I342) ∧
    (¬ z337 = z341 → False)))) ∧
    (bAnd (X x3) 63 = 39 → (0 ≤ (x3 + 1) ∧ (x3 + 1) < L) ∧ (0 ≤ (x3 + 2) ∧ (x3 + 2) < L) ∧ V_X_soonest (X (x3 + 1)) (X (x3 + 2)) I (fun z346 I347 => (0 ≤ (x3 + 1) ∧ (x3 + 1) < L) ∧ (0 ≤ (x3 + 2) ∧ (x3 + 2) < L) ∧ V_M_soonest (X (x3 + 1)) (X (x3 + 2)) I347 (fun z350 I351 => (z346 = z350 → r32 (x3 + 6) ∧ L_L_law_18 X L Q n (x3 + 6) I351) ∧
    (¬ z346 = z350 → False)))) ∧
    (bAnd (X x3) 63 = 40 → (0 ≤ (x3 + 1) ∧ (x3 + 1) < L) ∧ V_X_day (X (x3 + 1)) I (fun z354 I355 => (0 ≤ (x3 + 1) ∧ (x3 + 1) < L) ∧ V_M_day (X (x3 + 1)) I355 (fun z357 I358 => (z354 = z357 → r32 (x3 + 6) ∧ L_L_law_18 X L Q n (x3 + 6) I358) ∧
    (¬ z354 = z357 → False)))) ∧
    (bAnd (X x3) 63 = 41 → (0 ≤ (x3 + 1) ∧ (x3 + 1) < L) ∧ (0 ≤ (x3 + 2) ∧ (x3 + 2) < L) ∧ V_X_free (X (x3 + 1)) (X (x3 + 2)) I (fun z362 I363 => (0 ≤ (x3 + 1) ∧ (x3 + 1) < L) ∧ (0 ≤ (x3 + 2) ∧ (x3 + 2) < L) ∧ V_M_free (X (x3 + 1)) (X (x3 + 2)) I363 (fun z366 I367 => (z362 = z366 → r32 (x3 + 6) ∧ L_L_law_18 X L Q n (x3 + 6) I367) ∧
    (¬ z362 = z366 → False)))) ∧
    (bAnd (X x3) 63 = 42 → (0 ≤ (x3 + 1) ∧ (x3 + 1) < L) ∧ V_X_pair (X (x3 + 1)) I (fun z370 I371 => (0 ≤ (x3 + 1) ∧ (x3 + 1) < L) ∧ V_M_pair (X (x3 + 1)) I371 (fun z373 I374 => (z370 = z373 → r32 (x3 + 6) ∧ L_L_law_18 X L Q n (x3 + 6) I374) ∧
    (¬ z370 = z373 → False)))) ∧
    (bAnd (X x3) 63 = 43 → (0 ≤ (x3 + 1) ∧ (x3 + 1) < L) ∧ (0 ≤ (x3 + 2) ∧ (x3 + 2) < L) ∧ V_X_when (X (x3 + 1)) (X (x3 + 2)) I (fun z378 I379 => (0 ≤ (x3 + 1) ∧ (x3 + 1) < L) ∧ (0 ≤ (x3 + 2) ∧ (x3 + 2) < L) ∧ V_M_when (X (x3 + 1)) (X (x3 + 2)) I379 (fun z382 I383 => (z378 = z382 → r32 (x3 + 6) ∧ L_L_law_18 X L Q n (x3 + 6) I383) ∧
    (¬ z378 = z382 → False)))) ∧
    (bAnd (X x3) 63 = 44 → (0 ≤ (x3 + 1) ∧ (x3 + 1) < L) ∧ (0 ≤ (x3 + 2) ∧ (x3 + 2) < L) ∧ V_X_same (X (x3 + 1)) (X (x3 + 2)) I (fun z387 I388 => (0 ≤ (x3 + 1) ∧ (x3 + 1) < L) ∧ (0 ≤ (x3 + 2) ∧ (x3 + 2) < L) ∧ V_M_same (X (x3 + 1)) (X (x3 + 2)) I388 (fun z391 I392 => (z387 = z391 → r32 (x3 + 6) ∧ L_L_law_18 X L Q n (x3 + 6) I392) ∧
    (¬ z387 = z391 → False)))) ∧
    (bAnd (X x3) 63 = 45 → (0 ≤ (x3 + 1) ∧ (x3 + 1) < L) ∧ V_X_told (X (x3 + 1)) I (fun z395 I396 => (0 ≤ (x3 + 1) ∧ (x3 + 1) < L) ∧ V_M_told (X (x3 + 1)) I396 (fun z398 I399 => (z395 = z398 → r32 (x3 + 6) ∧ L_L_law_18 X L Q n (x3 + 6) I399) ∧
    (¬ z395 = z398 → False)))) ∧
    (bAnd (X x3) 63 = 46 → (0 ≤ (x3 + 1) ∧ (x3 + 1) < L) ∧ V_X_share (X (x3 + 1)) I (fun z402 I403 => (0 ≤ (x3 + 1) ∧ (x3 + 1) < L) ∧ V_M_share (X (x3 + 1)) I403 (fun z405 I406 => (z402 = z405 → r32 (x3 + 6) ∧ L_L_law_18 X L Q n (x3 + 6) I406) ∧
    (¬ z402 = z405 → False)))) ∧
    (bAnd (X x3) 63 = 47 → (0 ≤ (x3 + 1) ∧ (x3 + 1) < L) ∧ (0 ≤ (x3 + 2) ∧ (x3 + 2) < L) ∧ V_X_bestRows (X (x3 + 1)) (X (x3 + 2)) I (fun z410 I411 => (0 ≤ (x3 + 1) ∧ (x3 + 1) < L) ∧ (0 ≤ (x3 + 2) ∧ (x3 + 2) < L) ∧ V_M_bestRows (X (x3 + 1)) (X (x3 + 2)) I411 (fun z414 I415 => (z410 = z414 → r32 (x3 + 6) ∧ L_L_law_18 X L Q n (x3 + 6) I415) ∧
    (¬ z410 = z414 → False)))) ∧
    (bAnd (X x3) 63 = 48 → (0 ≤ (x3 + 1) ∧ (x3 + 1) < L) ∧ (0 ≤ (x3 + 2) ∧ (x3 + 2) < L) ∧ (0 ≤ (x3 + 3) ∧ (x3 + 3) < L) ∧ V_X_skewBy (X (x3 + 1)) (X (x3 + 2)) (X (x3 + 3)) I (fun z420 I421 => (0 ≤ (x3 + 1) ∧ (x3 + 1) < L) ∧ (0 ≤ (x3 + 2) ∧ (x3 + 2) < L) ∧ (0 ≤ (x3 + 3) ∧ (x3 + 3) < L) ∧ V_M_skewBy (X (x3 + 1)) (X (x3 + 2)) (X (x3 + 3)) I421 (fun z425 I426 => (z420 = z425 → r32 (x3 + 6) ∧ L_L_law_18 X L Q n (x3 + 6) I426) ∧
    (¬ z420 = z425 → False)))) ∧
    (bAnd (X x3) 63 = 49 → (0 ≤ (x3 + 1) ∧ (x3 + 1) < L) ∧ V_X_longest (X (x3 + 1)) I (fun z429 I430 => (0 ≤ (x3 + 1) ∧ (x3 + 1) < L) ∧ V_M_longest (X (x3 + 1)) I430 (fun z432 I433 => (z429 = z432 → r32 (x3 + 6) ∧ L_L_law_18 X L Q n (x3 + 6) I433) ∧
    (¬ z429 = z432 → False)))) ∧
    (bAnd (X x3) 63 = 50 → (0 ≤ (x3 + 1) ∧ (x3 + 1) < L) ∧ (0 ≤ (x3 + 2) ∧ (x3 + 2) < L) ∧ (0 ≤ (x3 + 3) ∧ (x3 + 3) < L) ∧ V_X_way (X (x3 + 1)) (X (x3 + 2)) (X (x3 + 3)) I (fun z438 I439 => (0 ≤ (x3 + 1) ∧ (x3 + 1) < L) ∧ (0 ≤ (x3 + 2) ∧ (x3 + 2) < L) ∧ (0 ≤ (x3 + 3) ∧ (x3 + 3) < L) ∧ V_M_way (X (x3 + 1)) (X (x3 + 2)) (X (x3 + 3)) I439 (fun z443 I444 => (z438 = z443 → r32 (x3 + 6) ∧ L_L_law_18 X L Q n (x3 + 6) I444) ∧
    (¬ z438 = z443 → False)))) ∧
    (bAnd (X x3) 63 = 51 → (0 ≤ (x3 + 1) ∧ (x3 + 1) < L) ∧ (0 ≤ (x3 + 2) ∧ (x3 + 2) < L) ∧ V_X_by (X (x3 + 1)) (X (x3 + 2)) I (fun z448 I449 => (0 ≤ (x3 + 1) ∧ (x3 + 1) < L) ∧ (0 ≤ (x3 + 2) ∧ (x3 + 2) < L) ∧ V_M_by (X (x3 + 1)) (X (x3 + 2)) I449 (fun z452 I453 => (z448 = z452 → r32 (x3 + 6) ∧ L_L_law_18 X L Q n (x3 + 6) I453) ∧
    (¬ z448 = z452 → False)))) ∧
    (bAnd (X x3) 63 = 52 → V_X_digest I (fun z455 I456 => V_M_digest I456 (fun z457 I458 => (z455 = z457) ∧ r32 (x3 + 6) ∧ L_L_law_18 X L Q n (x3 + 6) I458))) ∧
    (bAnd (X x3) 63 = 53 → (0 ≤ (x3 + 1) ∧ (x3 + 1) < L) ∧ V_X_count (X (x3 + 1)) I (fun z462 I463 => (0 ≤ (x3 + 1) ∧ (x3 + 1) < L) ∧ V_M_count (X (x3 + 1)) I463 (fun z465 I466 => (z462 = z465 → r32 (x3 + 6) ∧ L_L_law_18 X L Q n (x3 + 6) I466) ∧
    (¬ z462 = z465 → False)))) ∧
    (bAnd (X x3) 63 < 0 ∨ 53 < bAnd (X x3) 63 → r32 (x3 + 6) ∧ L_L_law_18 X L Q n (x3 + 6) I))
def V_law (X : Int → Int) (L : Int) (I : Mm) (Q : Mm → Prop) : Prop :=
  ∃ f469 : Nat, L_L_law_18 X L Q f469 0 I
