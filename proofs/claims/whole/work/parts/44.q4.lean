/-! how skewed the rows are -/
def cwR (M : Rw) (rows width r : Int) (n : Nat) : Int := cntB (fun k => decide ((M (780 + k) / width) % rows = r)) n
/-- the first of the fullest rows, of n -/
def bfR (M : Rw) (rows width : Int) : Nat → Int
  | 0 => 0
  | n + 1 => if cwR M rows width (bfR M rows width n) (M 0).toNat < cwR M rows width (n : Int) (M 0).toNat then (n : Int) else bfR M rows width n
def baR (M : Rw) (rows width : Int) (n : Nat) : Int := cntB (fun r => decide (cwR M rows width r (M 0).toNat = 0)) n
theorem bf_rng (M : Rw) (rows width : Int) : ∀ n : Nat, 0 ≤ bfR M rows width n ∧ (n ≠ 0 → bfR M rows width n < n) ∧ bfR M rows width n ≤ n
  | 0 => ⟨Int.le_refl 0, fun h => absurd rfl h, Int.le_refl 0⟩
  | n + 1 => by
    have h := bf_rng M rows width n
    unfold bfR
    split
    · omega
    · omega
theorem row_rng {G : Int} {M : Rw} (hW : WF G M) {rows width k : Int} (hr : rw6 rows) (hw : 1 ≤ width) (a : 0 ≤ k) (b : k < M 0) : 0 ≤ M (780 + k) / width ∧ 0 ≤ (M (780 + k) / width) % rows ∧ (M (780 + k) / width) % rows < rows := by
  have h := wf_h hW k a b
  exact ⟨Int.ediv_nonneg h.1 (by omega), Int.emod_nonneg _ (by omega), Int.emod_lt_of_pos _ (by omega)⟩
theorem s_skewIn {G rows width what : Int} {I : Mm} {M : Rw} {Q : Int → Mm → Prop} (hR : RepC I 1 M) (hW : WF G M) (hr : rw6 rows) (hw : 1 ≤ width) (h0 : what = 0 → ∀ I' : Mm, (∀ a : Int, a ≠ 234 → I' a = I a) → Q (cwR M rows width (bfR M rows width rows.toNat) (M 0).toNat) I') (h1 : what = 1 → ∀ I' : Mm, (∀ a : Int, a ≠ 234 → I' a = I a) → Q (bfR M rows width rows.toNat) I') (h2 : ¬ what = 0 ∧ ¬ what = 1 → ∀ I' : Mm, (∀ a : Int, a ≠ 234 → I' a = I a) → Q (baR M rows width rows.toNat) I') : V_X_skewIn rows width what I Q := by
  have b0 := hW.1.1
  unfold V_X_skewIn
  rw [show min rows 64 = rows by omega]
  refine lpr (P := fun f i I1 => L_X_skewIn_11 rows width what rows Q _ f (i : Int) I1) (S := fun i I1 => (∀ a : Int, a ≠ 234 → I1 a = I a) ∧ ∀ r : Int, 0 ≤ r → r < (i : Int) → I1 234 r = 0) rows.toNat ⟨fun _ _ => rfl, fun r a b => by omega⟩ ?_ ?_
  · intro n I1 hS
    unfold L_X_skewIn_11
    refine ⟨fun _ => ?_, fun q => by omega⟩
    refine lpr (P := fun f i I2 => L_X_skewIn_35 rows width what rows Q _ f (i : Int) I2) (S := fun i I2 => (∀ a : Int, a ≠ 234 → I2 a = I a) ∧ ∀ r : Int, 0 ≤ r → r < rows → I2 234 r = cwR M rows width r i) (M 0).toNat ⟨hS.1, fun r a b => (hS.2 r a (by omega))⟩ ?_ ?_
    · intro n I2 hS2
      obtain ⟨s1, s2⟩ := hS2
      unfold L_X_skewIn_35
      have n0 : I2 (1 + 5) 0 = M 0 := by rw [s1 (1 + 5) (by omega)]; exact hR.2.1.1
      rw [n0]
      refine ⟨fun _ => ?_, fun q => by omega⟩
      refine lp (P := fun f i => L_X_skewIn_93 rows width what rows Q f (bfR M rows width i) (baR M rows width i) (i : Int) I2) rows.toNat (fun f => ?_) (fun i f hi ih => ?_)
      · have bf := bf_rng M rows width rows.toNat
        unfold L_X_skewIn_93
        refine ⟨fun _ => ⟨fun w => ⟨by omega, ?_⟩, fun w => h1 w I2 s1, fun w => h2 w I2 s1⟩, fun q => by omega⟩
        rw [s2 _ bf.1 (by omega)]
        exact h0 w I2 s1
      · have bf := bf_rng M rows width i
        have ba := cntB_rng (fun r => decide (cwR M rows width r (M 0).toNat = 0)) i
        have eb : baR M rows width i = cntB (fun r => decide (cwR M rows width r (M 0).toNat = 0)) i := rfl
        have e1 : bfR M rows width (i + 1) = if cwR M rows width (bfR M rows width i) (M 0).toNat < cwR M rows width (i : Int) (M 0).toNat then (i : Int) else bfR M rows width i := rfl
        have e2 : baR M rows width (i + 1) = baR M rows width i + (if decide (cwR M rows width (i : Int) (M 0).toNat = 0) = true then 1 else 0) := rfl
        rw [e1, e2] at ih
        have g1 := s2 (i : Int) (by omega) (by omega)
        have g2 := s2 (bfR M rows width i) bf.1 (by omega)
        unfold L_X_skewIn_93
        rw [g1, g2]
        refine ⟨fun q => by omega, fun _ => ⟨by omega, by omega, fun q => ⟨by omega, fun q2 => ⟨by omega, ?_⟩, fun q2 => ⟨by omega, by omega, ?_⟩⟩, fun q => ⟨by omega, fun q2 => ⟨by omega, ?_⟩, fun q2 => ⟨by omega, by omega, ?_⟩⟩⟩⟩
        · rw [if_neg (by omega), if_neg (by simpa using q2), Int.add_zero] at ih; exact ih
        · rw [if_neg (by omega), if_pos (by simpa using q2)] at ih; exact ih
        · rw [if_pos q, if_neg (by simpa using q2), Int.add_zero] at ih; exact ih
        · rw [if_pos q, if_pos (by simpa using q2)] at ih; exact ih
    · intro i n I2 hi hS2 ih
      obtain ⟨s1, s2⟩ := hS2
      have n0 : I2 (1 + 5) 0 = M 0 := by rw [s1 (1 + 5) (by omega)]; exact hR.2.1.1
      have t3 : I2 (1 + 5 + 3) (i : Int) = M (780 + (i : Int)) := by rw [s1 (1 + 5 + 3) (by omega)]; exact (hR.2.1.2 (i : Int) (by omega) (by omega)).2.2
      have h3 := wf_h hW (i : Int) (by omega) (by omega)
      obtain ⟨r1, r2, r3⟩ := row_rng hW hr hw (k := (i : Int)) (by omega) (by omega)
      unfold L_X_skewIn_35 V_X_rowOf V_X_dayOf
      rw [n0, t3]
      refine ⟨fun q => by omega, fun _ => ⟨by omega, fun q => by omega, fun _ => ⟨fun _ => ⟨fun _ => ⟨by omega, by omega, ?_⟩, fun q => by omega⟩, fun q => by omega⟩⟩⟩
      have hs := s2 _ r2 r3
      have cr := cntB_rng (fun k => decide ((M (780 + k) / width) % rows = (M (780 + (i : Int)) / width) % rows)) i
      have cr2 : cwR M rows width ((M (780 + (i : Int)) / width) % rows) i = cntB (fun k => decide ((M (780 + k) / width) % rows = (M (780 + (i : Int)) / width) % rows)) i := rfl
      dsimp only
      rw [hs]
      refine ⟨by omega, by omega, by omega, by omega, ih _ ⟨fun a ha => by rw [wr_oth _ ha]; exact s1 a ha, fun r a b => ?_⟩⟩
      have e : cwR M rows width r (i + 1) = cwR M rows width r i + (if decide ((M (780 + (i : Int)) / width) % rows = r) = true then 1 else 0) := rfl
      rw [e]
      by_cases q : r = (M (780 + (i : Int)) / width) % rows
      · rw [q, wr_s, if_pos (by simp)]
      · rw [wr_n (by omega), if_neg (by simpa using fun h => q h.symm), Int.add_zero]
        exact s2 r a b
  · intro i n I1 hi hS ih
    unfold L_X_skewIn_11
    refine ⟨fun q => by omega, fun _ => ⟨by omega, by omega, ih _ ⟨fun a ha => by rw [wr_oth _ ha]; exact hS.1 a ha, fun r a b => ?_⟩⟩⟩
    by_cases q : r = (i : Int)
    · rw [q, wr_s]
    · rw [wr_n (by omega)]; exact hS.2 r a (by omega)
theorem r_skewBy {G rows width what : Int} {I : Mm} {M : Rw} {Q : Int → Mm → Prop} (hM : I 237 = M) (hW : WF G M) (e0 : ¬ (rw6 rows ∧ (1 ≤ width ∧ width ≤ 99999999) ∧ (0 ≤ what ∧ what ≤ 2)) → Q (-1) I) (h0 : rw6 rows ∧ (1 ≤ width ∧ width ≤ 99999999) ∧ (0 ≤ what ∧ what ≤ 2) → what = 0 → ∀ I' : Mm, (∀ a : Int, a ≠ 247 → I' a = I a) → Q (cwR M rows width (bfR M rows width rows.toNat) (M 0).toNat) I') (h1 : rw6 rows ∧ (1 ≤ width ∧ width ≤ 99999999) ∧ (0 ≤ what ∧ what ≤ 2) → what = 1 → ∀ I' : Mm, (∀ a : Int, a ≠ 247 → I' a = I a) → Q (bfR M rows width rows.toNat) I') (h2 : rw6 rows ∧ (1 ≤ width ∧ width ≤ 99999999) ∧ (0 ≤ what ∧ what ≤ 2) → what = 2 → ∀ I' : Mm, (∀ a : Int, a ≠ 247 → I' a = I a) → Q (baR M rows width rows.toNat) I') : V_M_skewBy rows width what I Q := by
  have b0 := hW.1.1
  unfold V_M_skewBy
  refine m_areRows (fun hr => ⟨fun w => absurd w (by decide), fun _ => m_in (fun hw hw2 => ⟨fun w => absurd w (by decide), fun _ => m_in (fun c d => ⟨fun _ => ?_, fun w => absurd w (by decide)⟩) (fun q => ⟨fun w => absurd rfl w, fun _ => e0 (fun w => q w.2.2)⟩)⟩) (fun q => ⟨fun _ => e0 (fun w => q w.2.1), fun w => absurd rfl w⟩)⟩) (fun q => ⟨fun _ => e0 (fun w => q w.1), fun w => absurd rfl w⟩)
  have hall : rw6 rows ∧ (1 ≤ width ∧ width ≤ 99999999) ∧ (0 ≤ what ∧ what ≤ 2) := ⟨hr, ⟨hw, hw2⟩, c, d⟩
  refine lpr (P := fun f i I1 => L_M_skewBy_36 rows width what Q _ f (i : Int) I1) (S := fun i I1 => (∀ a : Int, a ≠ 247 → I1 a = I a) ∧ ∀ r : Int, 0 ≤ r → r < (i : Int) → I1 247 r = 0) rows.toNat ⟨fun _ _ => rfl, fun r a b => by omega⟩ ?_ ?_
  · intro n I1 hS
    unfold L_M_skewBy_36
    refine ⟨fun _ => ?_, fun q => by omega⟩
    refine lpr (P := fun f i I2 => L_M_skewBy_59 rows width what Q _ f (i : Int) I2) (S := fun i I2 => (∀ a : Int, a ≠ 247 → I2 a = I a) ∧ ∀ r : Int, 0 ≤ r → r < rows → I2 247 r = cwR M rows width r i) (M 0).toNat ⟨hS.1, fun r a b => (hS.2 r a (by omega))⟩ ?_ ?_
    · intro n I2 hS2
      obtain ⟨s1, s2⟩ := hS2
      unfold L_M_skewBy_59
      rw [s1 237 (by omega), hM]
      refine ⟨fun _ => ?_, fun q => by omega⟩
      refine lp (P := fun f i => L_M_skewBy_109 rows width what Q _ f (bfR M rows width i) (baR M rows width i) (i : Int) I2) rows.toNat (fun f => ?_) (fun i f hi ih => ?_)
      · have bf := bf_rng M rows width rows.toNat
        unfold L_M_skewBy_109
        refine ⟨fun _ => ⟨fun w => ⟨fun w2 => h2 hall (by omega) I2 s1, fun w2 => h1 hall w2 I2 s1⟩, fun w => ⟨by omega, ?_⟩⟩, fun q => by omega⟩
        rw [s2 _ bf.1 (by omega)]
        exact h0 hall w I2 s1
      · have bf := bf_rng M rows width i
        have ba := cntB_rng (fun r => decide (cwR M rows width r (M 0).toNat = 0)) i
        have eb : baR M rows width i = cntB (fun r => decide (cwR M rows width r (M 0).toNat = 0)) i := rfl
        have e1 : bfR M rows width (i + 1) = if cwR M rows width (bfR M rows width i) (M 0).toNat < cwR M rows width (i : Int) (M 0).toNat then (i : Int) else bfR M rows width i := rfl
        have e2 : baR M rows width (i + 1) = baR M rows width i + (if decide (cwR M rows width (i : Int) (M 0).toNat = 0) = true then 1 else 0) := rfl
        rw [e1, e2] at ih
        have g1 := s2 (i : Int) (by omega) (by omega)
        have g2 := s2 (bfR M rows width i) bf.1 (by omega)
        unfold L_M_skewBy_109 J_M_skewBy_139
        rw [g1, g2]
        refine ⟨fun q => by omega, fun _ => ⟨by omega, by omega, fun q => ⟨by omega, fun q2 => ⟨by omega, by omega, ?_⟩, fun q2 => ⟨by omega, by omega, ?_⟩⟩, fun q => ⟨by omega, fun q2 => ⟨by omega, by omega, ?_⟩, fun q2 => ⟨by omega, by omega, ?_⟩⟩⟩⟩
        · rw [if_neg (by omega), if_neg (by simpa using q2)] at ih; exact ih
        · rw [if_neg (by omega), if_pos (by simpa using q2)] at ih; exact ih
        · rw [if_pos q, if_neg (by simpa using q2)] at ih; exact ih
        · rw [if_pos q, if_pos (by simpa using q2)] at ih; exact ih
    · intro i n I2 hi hS2 ih
      obtain ⟨s1, s2⟩ := hS2
      have h3 := wf_h hW (i : Int) (by omega) (by omega)
      obtain ⟨r1, r2, r3⟩ := row_rng hW hr hw (k := (i : Int)) (by omega) (by omega)
      unfold L_M_skewBy_59
      rw [s1 237 (by omega), hM]
      have hs := s2 _ r2 r3
      have cr := cntB_rng (fun k => decide ((M (780 + k) / width) % rows = (M (780 + (i : Int)) / width) % rows)) i
      have cr2 : cwR M rows width ((M (780 + (i : Int)) / width) % rows) i = cntB (fun k => decide ((M (780 + k) / width) % rows = (M (780 + (i : Int)) / width) % rows)) i := rfl
      rw [hs]
      refine ⟨fun q => by omega, fun _ => ⟨by omega, by omega, by omega, by omega, by omega, by omega, by omega, ih _ ⟨fun a ha => by rw [wr_oth _ ha]; exact s1 a ha, fun r a b => ?_⟩⟩⟩
      have e : cwR M rows width r (i + 1) = cwR M rows width r i + (if decide ((M (780 + (i : Int)) / width) % rows = r) = true then 1 else 0) := rfl
      rw [e]
      by_cases q : r = (M (780 + (i : Int)) / width) % rows
      · rw [q, wr_s, if_pos (by simp)]
      · rw [wr_n (by omega), if_neg (by simpa using fun h => q h.symm), Int.add_zero]
        exact s2 r a b
  · intro i n I1 hi hS ih
    unfold L_M_skewBy_36
    refine ⟨fun q => by omega, fun _ => ⟨by omega, by omega, ih _ ⟨fun a ha => by rw [wr_oth _ ha]; exact hS.1 a ha, fun r a b => ?_⟩⟩⟩
    by_cases q : r = (i : Int)
    · rw [q, wr_s]
    · rw [wr_n (by omega)]; exact hS.2 r a (by omega)
theorem o_skewBy {G x1 x2 x3 : Int} {I : Mm} {Q : Mm → Prop} (hI : Inv G I) (hG : G ≤ 2143000000) (hQ : ∀ I' : Mm, Inv (G + 3000000) I' → Q I') : V_X_skewBy x1 x2 x3 I (fun z I1 => V_M_skewBy x1 x2 x3 I1 (fun z' I2 => (z = z' → Q I2) ∧ (¬ z = z' → False))) := by
  obtain ⟨M, u, H, k, S, l, T, hC, hR, hA⟩ := hI
  have hW := hA.1
  have b0 := hW.1.1
  have hM := hR.1
  have hst : ∀ I' : Mm, (∀ a : Int, a ≠ 234 → a ≠ 247 → I' a = I a) → Q I' := fun I' hI' => hQ I' (stay hC (rs_fr hR (fun a ha => hI' a (by omega) (by omega)) (by rw [hI' 236 (by omega) (by omega)]) (by rw [hI' 236 (by omega) (by omega)])) (aw_mono hA (by omega)) (fun a ha => by
    by_cases q : a = 234
    · omega
    · exact hI' a q (by omega)))
  have refuse : ¬ (rw6 x1 ∧ (1 ≤ x2 ∧ x2 ≤ 99999999) ∧ (0 ≤ x3 ∧ x3 ≤ 2)) → V_M_skewBy x1 x2 x3 I (fun z' I2 => ((-1 : Int) = z' → Q I2) ∧ (¬ (-1 : Int) = z' → False)) := fun q => r_skewBy hM hW (fun _ => fin rfl (hst I (fun _ _ _ => rfl))) (fun w => absurd w q) (fun w => absurd w q) (fun w => absurd w q)
  unfold V_X_skewBy
  refine x_rows (fun hr => ⟨fun w => absurd w (by decide), fun _ => x_width (fun hw hw2 => ⟨fun w => absurd w (by decide), fun _ => ⟨fun q => refuse (fun w => by omega), fun c => ⟨fun d => ?_, fun q => refuse (fun w => by omega)⟩⟩⟩) (fun q => ⟨fun _ => refuse (fun w => q w.2.1), fun w => absurd rfl w⟩)⟩) (fun q => ⟨fun _ => refuse (fun w => q w.1), fun w => absurd rfl w⟩)
  have hall : rw6 x1 ∧ (1 ≤ x2 ∧ x2 ≤ 99999999) ∧ (0 ≤ x3 ∧ x3 ≤ 2) := ⟨hr, ⟨hw, hw2⟩, c, d⟩
  refine s_skewIn hC.1 hW hr hw (fun w I1 F1 => r_skewBy (by rw [F1 237 (by omega)]; exact hM) hW (fun h => absurd hall h) (fun _ _ I2 F2 => fin rfl (hst I2 (fun a p q => by rw [F2 a q, F1 a p]))) (fun _ _ => by omega) (fun _ _ => by omega)) (fun w I1 F1 => r_skewBy (by rw [F1 237 (by omega)]; exact hM) hW (fun h => absurd hall h) (fun _ _ => by omega) (fun _ _ I2 F2 => fin rfl (hst I2 (fun a p q => by rw [F2 a q, F1 a p]))) (fun _ _ => by omega)) (fun w I1 F1 => r_skewBy (by rw [F1 237 (by omega)]; exact hM) hW (fun h => absurd hall h) (fun _ _ => by omega) (fun _ _ => by omega) (fun _ _ I2 F2 => fin rfl (hst I2 (fun a p q => by rw [F2 a q, F1 a p]))))
