/-! letters as digits of a word; the text that tells a calendar -/
theorem bs5 : ∀ j : Nat, j < 6 → (((nI (5 * j)) &&& (31 : Int32)).toBitVec.smod 32).toNat = 5 * j := by decide
theorem nI_t {n : Nat} (h : n < 2147483648) : (nI n).toInt = (n : Int) := by
  rw [← i2_nat]
  exact toInt_i2 ⟨by omega, by omega⟩
theorem dg_is {w : Int} (hw : 0 ≤ w ∧ w ≤ 2147483647) {j : Nat} (hj : j < 6) : bAnd (bShr w ((j : Int) * 5)) 31 = w / 32 ^ j % 32 := by
  obtain ⟨n, rfl⟩ := nat_of hw.1
  have e : (j : Int) * 5 = ((5 * j : Nat) : Int) := by omega
  have h1 : n / 32 ^ j ≤ n := Nat.div_le_self _ _
  have e31 : i2 31 = nI 31 := i2_nat 31
  unfold bAnd bShr
  rw [e, i2_nat, i2_nat, e31, pk_shrN (by omega) _ (5 * j) (bs5 j hj), Nat.pow_mul, show (2 : Nat) ^ 5 = 32 from rfl, i2_toInt, pk_andN (by omega) 5 (by decide), show (2 : Nat) ^ 5 = 32 from rfl, nI_t (by omega)]
  push_cast
  rfl
def ltr (M : Rw) (o : Int) (m : Nat) : Prop := ∀ k : Int, 0 ≤ k → k < (m : Int) → 97 ≤ M (o + k) ∧ M (o + k) ≤ 122
theorem ltr_le {M : Rw} {o : Int} {m : Nat} (n : Nat) (h : ltr M o m) (hn : n ≤ m) : ltr M o n := fun k a b => h k a (by omega)
theorem wrd_0 (M : Rw) (o : Int) : wrd M o 0 = 0 := rfl
theorem wrd_s (M : Rw) (o : Int) (m : Nat) : wrd M o (m + 1) = wrd M o m * 32 + (M (o + (m : Int)) - 96) := rfl
theorem wrd_rng {M : Rw} {o : Int} : ∀ m : Nat, ltr M o m → 0 ≤ wrd M o m ∧ wrd M o m < 32 ^ m
  | 0, _ => by rw [wrd_0]; exact ⟨Int.le_refl _, by decide⟩
  | m + 1, h => by
    have ih := wrd_rng m (ltr_le m h (by omega))
    have h1 := h (m : Int) (by omega) (by omega)
    rw [wrd_s, Int.pow_succ]
    generalize (32 : Int) ^ m = p at *
    omega
theorem pow32 : ∀ m : Nat, m < 7 → (32 : Int) ^ m ≤ 1073741824 := by decide
theorem wrd_small {M : Rw} {o : Int} {m : Nat} (h : ltr M o m) (hm : m ≤ 6) : 0 ≤ wrd M o m ∧ wrd M o m ≤ 2147483647 := by
  have h1 := wrd_rng m h
  have h2 := pow32 m (by omega)
  omega
theorem wrd_dig {M : Rw} {o : Int} : ∀ (m j : Nat), ltr M o m → wrd M o m / 32 ^ j % 32 = if j < m then M (o + ((m : Int) - 1 - (j : Int))) - 96 else 0
  | 0, j, _ => by rw [wrd_0]; simp
  | m + 1, 0, h => by
    have h1 := h (m : Int) (by omega) (by omega)
    rw [if_pos (by omega), wrd_s, Int.pow_zero, Int.ediv_one, show o + (((m + 1 : Nat) : Int) - 1 - ((0 : Nat) : Int)) = o + (m : Int) by omega]
    omega
  | m + 1, j + 1, h => by
    have ih := wrd_dig m j (ltr_le m h (by omega))
    have h1 := h (m : Int) (by omega) (by omega)
    rw [wrd_s, Int.pow_succ', ← Int.ediv_ediv_of_nonneg (by decide), show (wrd M o m * 32 + (M (o + (m : Int)) - 96)) / 32 = wrd M o m by omega, ih]
    by_cases q : j < m
    · rw [if_pos q, if_pos (by omega), show o + (((m + 1 : Nat) : Int) - 1 - ((j + 1 : Nat) : Int)) = o + ((m : Int) - 1 - (j : Int)) by omega]
    · rw [if_neg q, if_neg (by omega)]
theorem x_lettersIn {M : Rw} {o : Int} {m : Nat} {I : Mm} {Q : Int → Mm → Prop} (h : ltr M o m) (hm : m ≤ 6) (hQ : Q (m : Int) I) : V_X_lettersIn (wrd M o m) I Q := by
  have hb := wrd_small h hm
  have g : ∃ f, L_X_lettersIn_4 (wrd M o m) Q f ((min 0 m : Nat) : Int) ((0 : Nat) : Int) I := by
    refine lp (P := fun f i => L_X_lettersIn_4 (wrd M o m) Q f ((min i m : Nat) : Int) (i : Int) I) 6 (fun f => ?_) (fun i f hi ih => ?_)
    · unfold L_X_lettersIn_4
      refine ⟨fun _ => ?_, fun q => absurd q (by decide)⟩
      rw [Nat.min_eq_right hm]
      exact hQ
    · have hd := wrd_dig m i h
      unfold L_X_lettersIn_4
      rw [dg_is hb hi, hd]
      refine ⟨fun q => by omega, fun _ => ⟨fun q => ⟨by omega, ?_⟩, fun q => ⟨by omega, by omega, ?_⟩⟩⟩
      · by_cases w : i < m
        · rw [if_pos w] at q
          have := h ((m : Int) - 1 - (i : Int)) (by omega) (by omega)
          omega
        · have e : (((min (i + 1) m : Nat)) : Int) = ((min i m : Nat) : Int) := by omega
          rw [e] at ih
          exact ih
      · by_cases w : i < m
        · have e : (((min (i + 1) m : Nat)) : Int) = ((min i m : Nat) : Int) + 1 := by omega
          rw [e] at ih
          exact ih
        · exact absurd (if_neg w) q
  obtain ⟨f, hf⟩ := g
  rw [Nat.zero_min] at hf
  exact ⟨f, hf⟩
theorem x_letterAt {M : Rw} {o x1 : Int} {m : Nat} {I : Mm} {Q : Int → Mm → Prop} (h : ltr M o m) (hm : m ≤ 6) (h1 : 0 ≤ x1 → x1 < m → Q (M (o + x1)) I) (h0 : ¬ (0 ≤ x1 ∧ x1 < m) → Q (-1) I) : V_X_letterAt (wrd M o m) x1 I Q := by
  refine x_lettersIn h hm ⟨fun q => h0 (by omega), fun a => ⟨fun b => ?_, fun q => h0 (by omega)⟩⟩
  obtain ⟨j, hj⟩ := nat_of (show 0 ≤ (m : Int) - 1 - x1 by omega)
  have hl := h x1 a b
  have q := h1 a b
  rw [hj, dg_is (wrd_small h hm) (by omega), wrd_dig m j h, if_pos (by omega), show o + ((m : Int) - 1 - (j : Int)) = o + x1 by omega]
  rw [show M (o + x1) - 96 + 97 - 1 = M (o + x1) by omega]
  exact ⟨by omega, q⟩
/-- a name's letters -/
theorem nm_let {G n : Int} {M : Rw} (hW : WF G M) (hn : 0 ≤ n ∧ n < M 4) : ∃ m : Nat, 1 ≤ m ∧ m ≤ 6 ∧ ltr M (48 + 6 * n) m ∧ (∀ k : Int, (m : Int) ≤ k → k < 6 → M (48 + 6 * n + k) = 0) ∧ nlet M (48 + 6 * n) = (m : Int) := by
  obtain ⟨m', a1, a2, a3, a4⟩ := hW.2.2.2.2 n hn.1 hn.2
  obtain ⟨m, rfl⟩ := nat_of (show 0 ≤ m' by omega)
  refine ⟨m, by omega, by omega, a3, a4, ?_⟩
  have pk : ∀ k : Int, 0 ≤ k → k < 6 → (M (48 + 6 * n + k) ≤ 0 ↔ (m : Int) ≤ k) := fun k a b => by
    by_cases c : k < (m : Int)
    · have := a3 k a c
      omega
    · have := a4 k (by omega) b
      omega
  have p0 := pk 0 (by omega) (by omega)
  have p1 := pk 1 (by omega) (by omega)
  have p2 := pk 2 (by omega) (by omega)
  have p3 := pk 3 (by omega) (by omega)
  have p4 := pk 4 (by omega) (by omega)
  have p5 := pk 5 (by omega) (by omega)
  rw [Int.add_zero] at p0
  unfold nlet
  repeat' split
  all_goals omega
theorem m_letters {x1 : Int} {m : Nat} {I : Mm} {M : Rw} {Q : Int → Mm → Prop} (hM : I 237 = M) (hn : 0 ≤ x1 ∧ x1 < 16) (hl : ltr M (48 + 6 * x1) m) (hm : m ≤ 6) (hz : ∀ k : Int, (m : Int) ≤ k → k < 6 → M (48 + 6 * x1 + k) = 0) (hQ : Q (m : Int) I) : V_M_letters x1 I Q := by
  refine lp (P := fun f i => L_M_letters_2 x1 Q f (i : Int) I) m (fun f => ?_) (fun i f hi ih => ?_)
  · unfold L_M_letters_2
    rw [hM]
    refine ⟨fun _ => hQ, fun q => ⟨by omega, fun _ => hQ, fun w => ?_⟩⟩
    have := hz (m : Int) (Int.le_refl _) q
    omega
  · have := hl (i : Int) (by omega) (by omega)
    unfold L_M_letters_2
    rw [hM]
    exact ⟨fun q => by omega, fun q => ⟨by omega, fun w => by omega, fun _ => ⟨by omega, ih⟩⟩⟩
theorem o_letter {G x1 x2 : Int} {I : Mm} {Q : Mm → Prop} (hI : Inv G I) (hG : G ≤ 2143000000) (hQ : ∀ I' : Mm, Inv (G + 3000000) I' → Q I') : V_X_letter x1 x2 I (fun z I1 => V_M_letter x1 x2 I1 (fun z' I2 => (z = z' → Q I2) ∧ (¬ z = z' → False))) := by
  obtain ⟨M, u, H, k, S, l, T, hC, hR, hA⟩ := hI
  have hst : Q I := hQ I ⟨M, u, H, k, S, l, T, hC, hR, aw_mono hA (by omega)⟩
  have hW := hA.1
  have b4 := hW.1.2.2.2.2.1
  have hM := hR.1
  have n4 : I (1 + 1) 0 = M 4 := hC.1.1.1
  unfold V_X_letter
  have ref0 : ¬ (0 ≤ x1 ∧ x1 < M 4) → V_M_letter x1 x2 I (fun z' I2 => ((-1 : Int) = z' → Q I2) ∧ (¬ (-1 : Int) = z' → False)) := fun q => by
    unfold V_M_letter
    exact m_isName hM b4 (fun c d => absurd ⟨c, d⟩ q) (fun _ => ⟨fun _ => fin rfl hst, fun w => absurd rfl w⟩)
  refine s_nmHas (fun a b => ⟨fun w => absurd w (by decide), fun _ => ⟨by omega, ?_⟩⟩) (fun q => ⟨fun _ => ref0 (by rw [n4] at q; exact q), fun w => absurd rfl w⟩)
  rw [n4] at b
  obtain ⟨m, q1, q2, q3, q4, q5⟩ := nm_let hW ⟨a, b⟩
  have kw : I (1 + 1 + 1) x1 = wrd M (48 + 6 * x1) m := by
    have := (hC.1.1.2 x1 a b).1
    rw [q5] at this
    exact this
  rw [kw]
  have ref : ∀ z : Int, ((0 ≤ x2 ∧ x2 < m) → z = M (48 + 6 * x1 + x2)) → (¬ (0 ≤ x2 ∧ x2 < m) → z = -1) → V_M_letter x1 x2 I (fun z' I2 => (z = z' → Q I2) ∧ (¬ z = z' → False)) := fun z z1 z2 => by
    unfold V_M_letter
    exact m_isName hM b4 (fun _ _ => ⟨fun w => absurd w (by decide), fun _ => m_letters hM ⟨a, by omega⟩ q3 q2 q4 ⟨by omega, m_in (fun c d => ⟨fun w => absurd w (by decide), fun _ => ⟨by omega, by rw [hM]; exact fin (z1 ⟨c, by omega⟩) hst⟩⟩) (fun q => ⟨fun _ => fin (z2 (by omega)) hst, fun w => absurd rfl w⟩)⟩⟩) (fun q => absurd ⟨a, b⟩ q)
  exact x_letterAt q3 q2 (fun c d => ref _ (fun _ => rfl) (fun q => absurd ⟨c, d⟩ q)) (fun q => ref _ (fun w => absurd w q) (fun _ => rfl))
