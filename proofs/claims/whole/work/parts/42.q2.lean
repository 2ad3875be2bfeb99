/-! questions of looks, rows, hours -/
theorem m_looksTo {a b rows width : Int} {I : Mm} {Q : Int → Mm → Prop} (h : 0 ≤ a ∧ a ≤ b) (hb : b ≤ 999999999) (hr : rw6 rows) (hw : 1 ≤ width) (hQ : Q (lkR a b rows width) I) : V_M_looksTo a b rows width I Q := by
  obtain ⟨h1, h2, h3, h4, h5⟩ := lk_rng h hb hr hw
  have h6 := Int.ediv_le_ediv (show 0 < width by omega) h.2
  unfold V_M_looksTo
  unfold lkR at hQ
  exact ⟨by omega, by omega, by omega, fun q => ⟨by omega, by rw [if_pos q] at hQ; exact hQ⟩, fun q => ⟨by omega, by rw [if_neg (by omega)] at hQ; exact hQ⟩⟩
theorem o_looks {G : Int} {I : Mm} {Q : Mm → Prop} (hI : Inv G I) (hG : G ≤ 2143000000) (hQ : ∀ I' : Mm, Inv (G + 3000000) I' → Q I') : V_X_looks I (fun z I1 => V_M_looks I1 (fun z' I2 => (z = z' → Q I2) ∧ (¬ z = z' → False))) := by
  obtain ⟨M, u, H, k, S, l, T, hC, hR, hA⟩ := hI
  have hst : Q I := hQ I ⟨M, u, H, k, S, l, T, hC, hR, aw_mono hA (by omega)⟩
  have hW := hA.1
  obtain ⟨b0, b1, b2, b3, -⟩ := hW.1
  have hM := hR.1
  have n0 : I (1 + 5) 0 = M 0 := hC.1.2.1.1
  have n5 : I 1 5 = M 1 := hC.1.2.2.2.2.2.1
  have n6 : I 1 6 = M 2 := hC.1.2.2.2.2.2.2.1
  have n7 : I 1 7 = M 3 := hC.1.2.2.2.2.2.2.2.1
  unfold V_X_looks V_M_looks
  rw [n0, n5, n6, n7]
  refine ⟨fun q => ?_, fun q => by dsimp only; rw [hM]; exact ⟨fun w => by omega, fun _ => fin rfl hst⟩⟩
  have f := wf_first hW (by omega)
  have t3 : I (1 + 5 + 3) 0 = M (780 + 0) := (hC.1.2.1.2 0 (by omega) (by omega)).2.2
  rw [Int.add_zero] at t3
  rw [t3]
  refine s_looksFrom (by omega) (by omega) b1 (by omega) ?_
  dsimp only
  rw [hM]
  refine ⟨fun _ => ?_, fun w => by omega⟩
  unfold V_M_looksNow
  rw [hM]
  exact m_looksTo (by omega) (by omega) b1 (by omega) (fin rfl hst)
theorem m_looksBy {G rows width : Int} {I : Mm} {M : Rw} {Q : Int → Mm → Prop} (hM : I 237 = M) (hW : WF G M) (hr : rw6 rows) (hw : 1 ≤ width) (hQ : Q (lfaR M rows width (M 0).toNat) I) : V_M_looksBy rows width I Q := by
  have b0 := hW.1.1
  unfold V_M_looksBy
  rw [hM]
  refine lp (P := fun f i => L_M_looksBy_13 rows width Q f (frmR M i) (lfaR M rows width i) (i : Int) I) (M 0).toNat (fun f => ?_) (fun i f hi ih => ?_)
  · unfold L_M_looksBy_13
    rw [hM]
    exact ⟨fun _ => hQ, fun q => by omega⟩
  · have fr := frm_rng hW i (by omega)
    have h1 := wf_h hW (i : Int) (by omega) (by omega)
    have r1 := lfa_rng hW hr hw i (by omega)
    obtain ⟨-, -, -, l1, l2⟩ := lk_rng (a := frmR M i) (b := M (780 + (i : Int))) fr h1.2 hr hw
    have e : frmR M (i + 1) = M (780 + (i : Int)) := by
      unfold frmR
      rw [if_neg (by omega)]
      congr 1
      omega
    rw [e] at ih
    unfold L_M_looksBy_13
    rw [hM]
    refine ⟨fun q => by omega, fun _ => ⟨by omega, m_looksTo fr h1.2 hr hw ⟨by omega, by omega, by omega, ?_⟩⟩⟩
    rw [hM]
    exact ih
theorem o_lookBy {G x1 x2 : Int} {I : Mm} {Q : Mm → Prop} (hI : Inv G I) (hG : G ≤ 2143000000) (hQ : ∀ I' : Mm, Inv (G + 3000000) I' → Q I') : V_X_lookBy x1 x2 I (fun z I1 => V_M_lookBy x1 x2 I1 (fun z' I2 => (z = z' → Q I2) ∧ (¬ z = z' → False))) := by
  obtain ⟨M, u, H, k, S, l, T, hC, hR, hA⟩ := hI
  have hst : Q I := hQ I ⟨M, u, H, k, S, l, T, hC, hR, aw_mono hA (by omega)⟩
  have hW := hA.1
  have hM := hR.1
  unfold V_X_lookBy V_M_lookBy
  refine x_rows (fun a => ⟨fun w => absurd w (by decide), fun _ => x_width (fun b c => ⟨fun w => absurd w (by decide), fun _ => s_looksForAll hC.1 hW a b (m_areRows (fun _ => ⟨fun w => absurd w (by decide), fun _ => m_in (fun _ _ => ⟨fun w => absurd w (by decide), fun _ => m_looksBy hM hW a b (fin rfl hst)⟩) (fun q => absurd ⟨b, c⟩ q)⟩) (fun q => absurd a q))⟩) (fun q => ⟨fun _ => m_areRows (fun _ => ⟨fun w => absurd w (by decide), fun _ => m_in (fun b c => absurd ⟨b, c⟩ q) (fun _ => ⟨fun _ => fin rfl hst, fun w => absurd rfl w⟩)⟩) (fun q => absurd a q), fun w => absurd rfl w⟩)⟩) (fun q => ⟨fun _ => m_areRows (fun a => absurd a q) (fun _ => ⟨fun _ => fin rfl hst, fun w => absurd rfl w⟩), fun w => absurd rfl w⟩)
/-- the best of what is doubled -/
def bstN (f : Int → Int) (s : Int) : Nat → Int
  | 0 => s
  | n + 1 => if f (s * 2 ^ (n + 1)) < f (bstN f s n) then s * 2 ^ (n + 1) else bstN f s n
theorem bst_is (f : Int → Int) (s : Int) : ∀ n : Nat, ∃ i : Nat, i ≤ n ∧ bstN f s n = s * 2 ^ i
  | 0 => ⟨0, by omega, by simp [bstN]⟩
  | n + 1 => by
    obtain ⟨i, h1, h2⟩ := bst_is f s n
    unfold bstN
    split
    · exact ⟨n + 1, by omega, rfl⟩
    · exact ⟨i, by omega, h2⟩
theorem pow_27 : ∀ n : Nat, n < 27 → 1 ≤ (2 : Int) ^ n ∧ (2 : Int) ^ n ≤ 67108864 ∧ bShl 1 (n : Int) = (2 : Int) ^ n := by decide
theorem o_best {G x1 x2 : Int} {I : Mm} {Q : Mm → Prop} (hI : Inv G I) (hG : G ≤ 2143000000) (hQ : ∀ I' : Mm, Inv (G + 3000000) I' → Q I') : V_X_best x1 x2 I (fun z I1 => V_M_best x1 x2 I1 (fun z' I2 => (z = z' → Q I2) ∧ (¬ z = z' → False))) := by
  obtain ⟨M, u, H, k, S, l, T, hC, hR, hA⟩ := hI
  have hst : Q I := hQ I ⟨M, u, H, k, S, l, T, hC, hR, aw_mono hA (by omega)⟩
  have hW := hA.1
  have hM := hR.1
  have refuse : (rw6 x1 → ¬ (0 ≤ x2 ∧ x2 ≤ 1)) → V_M_best x1 x2 I (fun z' I2 => ((-1 : Int) = z' → Q I2) ∧ (¬ (-1 : Int) = z' → False)) := fun q =>
    m_areRows (fun a => ⟨fun w => absurd w (by decide), fun _ => m_in (fun b c => absurd ⟨b, c⟩ (q a)) (fun _ => ⟨fun w => absurd rfl w, fun _ => fin rfl hst⟩)⟩) (fun _ => ⟨fun _ => fin rfl hst, fun w => absurd rfl w⟩)
  unfold V_X_best
  refine x_rows (fun a => ⟨fun w => absurd w (by decide), fun _ => ⟨fun q => refuse (fun _ => by omega), fun b => ⟨fun c => ?_, fun q => refuse (fun _ => by omega)⟩⟩⟩) (fun q => ⟨fun _ => refuse (fun w => absurd w q), fun w => absurd rfl w⟩)
  let f : Int → Int := fun w => lfaR M x1 w (M 0).toNat
  have hb : ∀ n : Nat, n < 27 → 1 ≤ bstN f 1 n := by
    intro n hn
    obtain ⟨i, h1, h2⟩ := bst_is f 1 n
    have := pow_27 i (by omega)
    rw [h2, Int.one_mul]
    exact this.1
  have ref : ∀ z : Int, (x2 = 0 → z = bstN f 1 26) → (x2 ≠ 0 → z = f (bstN f 1 26)) → V_M_best x1 x2 I (fun z' I2 => (z = z' → Q I2) ∧ (¬ z = z' → False)) := by
    intro z h0 h1
    unfold V_M_best
    refine m_areRows (fun _ => ⟨fun w => absurd w (by decide), fun _ => m_in (fun _ _ => ⟨fun _ => ?_, fun w => absurd w (by decide)⟩) (fun q => absurd ⟨b, c⟩ q)⟩) (fun q => absurd a q)
    refine lp (P := fun n i => L_M_best_24 x1 x2 (fun z' I2 => (z = z' → Q I2) ∧ (¬ z = z' → False)) n (bstN f 1 i) ((i : Int) + 1) I) 26 (fun n => ?_) (fun i n hi ih => ?_)
    · unfold L_M_best_24
      exact ⟨fun _ => ⟨fun w => m_looksBy hM hW a (hb 26 (by omega)) (fin (h1 w) hst), fun w => fin (h0 w) hst⟩, fun q => absurd q (by decide)⟩
    · have p := pow_27 (i + 1) (by omega)
      have e : ((i + 1 : Nat) : Int) = (i : Int) + 1 := by omega
      rw [e] at p
      have e2 : bstN f 1 (i + 1) = if f (1 * 2 ^ (i + 1)) < f (bstN f 1 i) then 1 * 2 ^ (i + 1) else bstN f 1 i := rfl
      rw [e2, Int.one_mul, e] at ih
      unfold L_M_best_24
      rw [p.2.2]
      refine ⟨fun q => by omega, fun _ => m_looksBy hM hW a p.1 (m_looksBy hM hW a (hb i (by omega)) ⟨fun q => ⟨by omega, ?_⟩, fun q => ⟨by omega, ?_⟩⟩)⟩
      · rw [if_neg (show ¬ f (2 ^ (i + 1)) < f (bstN f 1 i) by show ¬ lfaR M x1 (2 ^ (i + 1)) (M 0).toNat < lfaR M x1 (bstN f 1 i) (M 0).toNat; omega)] at ih
        exact ih
      · rw [if_pos (show f (2 ^ (i + 1)) < f (bstN f 1 i) from q)] at ih
        exact ih
  refine s_looksForAll hC.1 hW a (by omega) ?_
  refine lp (P := fun n i => L_X_best_34 x1 x2 (fun z I1 => V_M_best x1 x2 I1 (fun z' I2 => (z = z' → Q I2) ∧ (¬ z = z' → False))) n (bstN f 1 i) (f (bstN f 1 i)) (2 ^ (i + 1)) I) 26 (fun n => ?_) (fun i n hi ih => ?_)
  · unfold L_X_best_34
    exact ⟨fun _ => ⟨fun w => ref _ (fun h => absurd h w) (fun _ => rfl), fun w => ref _ (fun _ => rfl) (fun h => absurd w h)⟩, fun q => absurd q (by decide)⟩
  · have p := pow_27 (i + 1) (by omega)
    have e2 : bstN f 1 (i + 1) = if f (1 * 2 ^ (i + 1)) < f (bstN f 1 i) then 1 * 2 ^ (i + 1) else bstN f 1 i := rfl
    rw [e2, Int.one_mul] at ih
    have e3 : (2 : Int) ^ (i + 1 + 1) = 2 ^ (i + 1) * 2 := Int.pow_succ 2 (i + 1)
    rw [e3] at ih
    unfold L_X_best_34
    refine ⟨fun q => by omega, fun _ => s_looksForAll hC.1 hW a p.1 ⟨fun q => ⟨by omega, ?_⟩, fun q => ⟨by omega, ?_⟩⟩⟩
    · rw [if_neg (show ¬ f (2 ^ (i + 1)) < f (bstN f 1 i) by show ¬ lfaR M x1 (2 ^ (i + 1)) (M 0).toNat < f (bstN f 1 i); omega)] at ih
      exact ih
    · rw [if_pos (show f (2 ^ (i + 1)) < f (bstN f 1 i) from q)] at ih
      exact ih
theorem o_bestRows {G x1 x2 : Int} {I : Mm} {Q : Mm → Prop} (hI : Inv G I) (hG : G ≤ 2143000000) (hQ : ∀ I' : Mm, Inv (G + 3000000) I' → Q I') : V_X_bestRows x1 x2 I (fun z I1 => V_M_bestRows x1 x2 I1 (fun z' I2 => (z = z' → Q I2) ∧ (¬ z = z' → False))) := by
  obtain ⟨M, u, H, k, S, l, T, hC, hR, hA⟩ := hI
  have hst : Q I := hQ I ⟨M, u, H, k, S, l, T, hC, hR, aw_mono hA (by omega)⟩
  have hW := hA.1
  have hM := hR.1
  have refuse : (¬ ((1 ≤ x1 ∧ x1 ≤ 99999999) ∧ (0 ≤ x2 ∧ x2 ≤ 1))) → V_M_bestRows x1 x2 I (fun z' I2 => ((-1 : Int) = z' → Q I2) ∧ (¬ (-1 : Int) = z' → False)) := fun q =>
    m_in (fun a b => ⟨fun w => absurd w (by decide), fun _ => m_in (fun c d => absurd ⟨⟨a, b⟩, c, d⟩ q) (fun _ => ⟨fun w => absurd rfl w, fun _ => fin rfl hst⟩)⟩) (fun _ => ⟨fun _ => fin rfl hst, fun w => absurd rfl w⟩)
  unfold V_X_bestRows
  refine x_width (fun a a2 => ⟨fun w => absurd w (by decide), fun _ => ⟨fun q => refuse (by omega), fun b => ⟨fun c => ?_, fun q => refuse (by omega)⟩⟩⟩) (fun q => ⟨fun _ => refuse (fun w => q w.1), fun w => absurd rfl w⟩)
  let f : Int → Int := fun w => lfaR M w x1 (M 0).toNat
  have r6 : ∀ n : Nat, n < 6 → rw6 (2 * 2 ^ n) := by decide
  have hb : ∀ n : Nat, n < 6 → rw6 (bstN f 2 n) := by
    intro n hn
    obtain ⟨i, h1, h2⟩ := bst_is f 2 n
    rw [h2]
    exact r6 i (by omega)
  have ref : ∀ z : Int, (x2 = 0 → z = bstN f 2 5) → (x2 ≠ 0 → z = f (bstN f 2 5)) → V_M_bestRows x1 x2 I (fun z' I2 => (z = z' → Q I2) ∧ (¬ z = z' → False)) := by
    intro z h0 h1
    unfold V_M_bestRows
    refine m_in (fun _ _ => ⟨fun w => absurd w (by decide), fun _ => m_in (fun _ _ => ⟨fun _ => ?_, fun w => absurd w (by decide)⟩) (fun q => absurd ⟨b, c⟩ q)⟩) (fun q => absurd ⟨a, a2⟩ q)
    refine lp (P := fun n i => L_M_bestRows_29 x1 x2 (fun z' I2 => (z = z' → Q I2) ∧ (¬ z = z' → False)) n (bstN f 2 i) (2 * 2 ^ (i + 1)) I) 5 (fun n => ?_) (fun i n hi ih => ?_)
    · unfold L_M_bestRows_29
      exact ⟨fun _ => ⟨fun w => m_looksBy hM hW (hb 5 (by omega)) a (fin (h1 w) hst), fun w => fin (h0 w) hst⟩, fun q => absurd q (by decide)⟩
    · have p := r6 (i + 1) (by omega)
      have e2 : bstN f 2 (i + 1) = if f (2 * 2 ^ (i + 1)) < f (bstN f 2 i) then 2 * 2 ^ (i + 1) else bstN f 2 i := rfl
      have e3 : (2 : Int) * 2 ^ (i + 1 + 1) = 2 * 2 ^ (i + 1) * 2 := by rw [Int.pow_succ 2 (i + 1), Int.mul_assoc]
      rw [e2, e3] at ih
      unfold L_M_bestRows_29
      refine ⟨fun q => by omega, fun _ => m_looksBy hM hW p a (m_looksBy hM hW (hb i (by omega)) a ⟨fun q => ⟨by omega, ?_⟩, fun q => ⟨by omega, ?_⟩⟩)⟩
      · rw [if_neg (show ¬ f (2 * 2 ^ (i + 1)) < f (bstN f 2 i) by show ¬ lfaR M (2 * 2 ^ (i + 1)) x1 (M 0).toNat < lfaR M (bstN f 2 i) x1 (M 0).toNat; omega)] at ih
        exact ih
      · rw [if_pos (show f (2 * 2 ^ (i + 1)) < f (bstN f 2 i) from q)] at ih
        exact ih
  refine s_looksForAll hC.1 hW (by omega) a ?_
  refine lp (P := fun n i => L_X_bestRows_34 x1 x2 (fun z I1 => V_M_bestRows x1 x2 I1 (fun z' I2 => (z = z' → Q I2) ∧ (¬ z = z' → False))) n (bstN f 2 i) (f (bstN f 2 i)) (2 * 2 ^ (i + 1)) I) 5 (fun n => ?_) (fun i n hi ih => ?_)
  · unfold L_X_bestRows_34
    exact ⟨fun _ => ⟨fun w => ref _ (fun h => absurd h w) (fun _ => rfl), fun w => ref _ (fun _ => rfl) (fun h => absurd w h)⟩, fun q => absurd q (by decide)⟩
  · have p := r6 (i + 1) (by omega)
    have e2 : bstN f 2 (i + 1) = if f (2 * 2 ^ (i + 1)) < f (bstN f 2 i) then 2 * 2 ^ (i + 1) else bstN f 2 i := rfl
    have e3 : (2 : Int) * 2 ^ (i + 1 + 1) = 2 * 2 ^ (i + 1) * 2 := by rw [Int.pow_succ 2 (i + 1), Int.mul_assoc]
    rw [e2, e3] at ih
    unfold L_X_bestRows_34
    refine ⟨fun q => by omega, fun _ => s_looksForAll hC.1 hW p a ⟨fun q => ⟨by omega, ?_⟩, fun q => ⟨by omega, ?_⟩⟩⟩
    · rw [if_neg (show ¬ f (2 * 2 ^ (i + 1)) < f (bstN f 2 i) by show ¬ lfaR M (2 * 2 ^ (i + 1)) x1 (M 0).toNat < f (bstN f 2 i); omega)] at ih
      exact ih
    · rw [if_pos (show f (2 * 2 ^ (i + 1)) < f (bstN f 2 i) from q)] at ih
      exact ih
theorem o_widthNow {G : Int} {I : Mm} {Q : Mm → Prop} (hI : Inv G I) (hG : G ≤ 2143000000) (hQ : ∀ I' : Mm, Inv (G + 3000000) I' → Q I') : V_X_widthNow I (fun z I1 => V_M_widthNow I1 (fun z' I2 => (z = z' → Q I2) ∧ (¬ z = z' → False))) := by
  obtain ⟨M, u, H, k, S, l, T, hC, hR, hA⟩ := hI
  have hst : Q I := hQ I ⟨M, u, H, k, S, l, T, hC, hR, aw_mono hA (by omega)⟩
  unfold V_X_widthNow V_M_widthNow
  exact s_widthAnew hC.1.2.1 hA.1 hC.1.2.2.2.2.2.2.1 (m_widthAnew hR.1 (fun _ _ => rfl) hA.1 (fin rfl hst))
theorem o_between {G x1 x2 : Int} {I : Mm} {Q : Mm → Prop} (hI : Inv G I) (hG : G ≤ 2143000000) (hQ : ∀ I' : Mm, Inv (G + 3000000) I' → Q I') : V_X_between x1 x2 I (fun z I1 => V_M_between x1 x2 I1 (fun z' I2 => (z = z' → Q I2) ∧ (¬ z = z' → False))) := by
  obtain ⟨M, u, H, k, S, l, T, hC, hR, hA⟩ := hI
  have hst : Q I := hQ I ⟨M, u, H, k, S, l, T, hC, hR, aw_mono hA (by omega)⟩
  have hW := hA.1
  have b0 := hW.1.1
  have refuse : ¬ (0 ≤ x1 ∧ x1 < x2 ∧ x2 ≤ 1000000000) → V_M_between x1 x2 I (fun z' I2 => ((-1 : Int) = z' → Q I2) ∧ (¬ (-1 : Int) = z' → False)) := fun q =>
    m_in (fun a b => ⟨fun w => absurd w (by decide), fun _ => m_in (fun c d => ⟨fun w => absurd w (by decide), fun _ => ⟨fun _ => fin rfl hst, fun w => absurd ⟨a, w, d⟩ q⟩⟩) (fun _ => ⟨fun _ => fin rfl hst, fun w => absurd rfl w⟩)⟩) (fun _ => ⟨fun _ => fin rfl hst, fun w => absurd rfl w⟩)
  unfold V_X_between
  refine ⟨fun q => refuse (by omega), fun a => ⟨fun q => refuse (by omega), fun b => ⟨fun c => ?_, fun q => refuse (by omega)⟩⟩⟩
  have n1 := (nbR_is hW x1).1
  have n2 := (nbR_is hW x2).1
  refine s_firstFrom hC.1.2.1 hW (s_firstFrom hC.1.2.1 hW ⟨by omega, ?_⟩)
  unfold V_M_between
  exact m_in (fun _ _ => ⟨fun w => absurd w (by decide), fun _ => m_in (fun _ _ => ⟨fun w => absurd w (by decide), fun _ => ⟨fun w => by omega, fun _ => m_dueIn hR.1 hW (by omega) (fin rfl hst)⟩⟩) (fun q => by omega)⟩) (fun q => by omega)
theorem o_digest {G : Int} {I : Mm} {Q : Mm → Prop} (hI : Inv G I) (hG : G ≤ 2143000000) (hQ : ∀ I' : Mm, Inv (G + 3000000) I' → Q I') : V_X_digest I (fun z I1 => V_M_digest I1 (fun z' I2 => (z = z' → Q I2) ∧ (¬ z = z' → False))) := by
  obtain ⟨M, u, H, k, S, l, T, hC, hR, hA⟩ := hI
  have hst : Q I := hQ I ⟨M, u, H, k, S, l, T, hC, hR, aw_mono hA (by omega)⟩
  have hW := hA.1
  have b0 := hW.1.1
  have hM := hR.1
  unfold V_X_digest V_M_digest
  refine s_digestFrom hC.1.2.1 hW ?_
  refine lp (P := fun n i => L_M_digest_6 (fun z' I2 => (dgR M 17 (M 0).toNat = z' → Q I2) ∧ (¬ dgR M 17 (M 0).toNat = z' → False)) n (dgR M 17 i) (i : Int) I) (M 0).toNat (fun n => ?_) (fun i n hi ih => ?_)
  · unfold L_M_digest_6
    rw [hM]
    exact ⟨fun _ => fin rfl hst, fun q => by omega⟩
  · unfold L_M_digest_6
    rw [hM]
    exact ⟨fun q => by omega, fun _ => ⟨by omega, by omega, by omega, by omega, ih⟩⟩
theorem o_share {G x1 : Int} {I : Mm} {Q : Mm → Prop} (hI : Inv G I) (hG : G ≤ 2143000000) (hQ : ∀ I' : Mm, Inv (G + 3000000) I' → Q I') : V_X_share x1 I (fun z I1 => V_M_share x1 I1 (fun z' I2 => (z = z' → Q I2) ∧ (¬ z = z' → False))) := by
  obtain ⟨M, u, H, k, S, l, T, hC, hR, hA⟩ := hI
  have hst : Q I := hQ I ⟨M, u, H, k, S, l, T, hC, hR, aw_mono hA (by omega)⟩
  have hW := hA.1
  have b0 := hW.1.1
  have hM := hR.1
  have n0 : I (1 + 5) 0 = M 0 := hC.1.2.1.1
  have refuse : ¬ (1 ≤ x1 ∧ x1 ≤ 100) → V_M_share x1 I (fun z' I2 => ((-1 : Int) = z' → Q I2) ∧ (¬ (-1 : Int) = z' → False)) := fun q => m_in (fun a b => absurd ⟨a, b⟩ q) (fun _ => ⟨fun w => absurd rfl w, fun _ => fin rfl hst⟩)
  unfold V_X_share
  rw [n0]
  refine ⟨fun q => refuse (by omega), fun a => ⟨fun b => ⟨fun c => ?_, fun c => ?_⟩, fun q => refuse (by omega)⟩⟩
  · have m1 : 1 ≤ M 0 * x1 := Int.le_trans (show (1 : Int) ≤ 1 * 1 by decide) (Int.mul_le_mul c a (by omega) (by omega))
    have m2 : M 0 * x1 ≤ M 0 * 100 := Int.mul_le_mul_of_nonneg_left b (by omega)
    have hk : (M 0 * x1 + 99) / 100 - 1 < M 0 := by omega
    have hk2 : 0 ≤ (M 0 * x1 + 99) / 100 - 1 := by omega
    have t : I (1 + 5 + 3) ((M 0 * x1 + 99) / 100 - 1) = M (780 + ((M 0 * x1 + 99) / 100 - 1)) := (hC.1.2.1.2 _ hk2 hk).2.2
    rw [t]
    refine ⟨by omega, by omega, by omega, ?_⟩
    unfold V_M_share
    refine m_in (fun _ _ => ⟨fun _ => ?_, fun w => absurd w (by decide)⟩) (fun q => by omega)
    rw [hM]
    refine ⟨fun _ => ⟨by omega, by omega, by omega, fin (by congr 1; omega) hst⟩, fun w => by omega⟩
  · unfold V_M_share
    exact m_in (fun _ _ => ⟨fun _ => by rw [hM]; exact ⟨fun w => by omega, fun _ => fin rfl hst⟩, fun w => absurd w (by decide)⟩) (fun q => by omega)
