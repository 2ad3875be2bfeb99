/-! questions -/
theorem m_rowOf {G p : Int} {I : Mm} {M : Rw} {Q : Int → Mm → Prop} (hM : I 237 = M) (hW : WF G M) (hp : 0 ≤ p ∧ p < M 0) (hQ : Q (rowK M p) I) : V_M_rowOf p I Q := by
  have b0 := hW.1.1
  have b1 := hW.1.2.1
  have b2 := hW.1.2.2.1
  have h3 := wf_h hW p hp.1 hp.2
  have h4 := Int.ediv_nonneg h3.1 (show 0 ≤ M 2 by omega)
  unfold V_M_rowOf
  rw [hM]
  exact ⟨by omega, by omega, by omega, hQ⟩
theorem r_next {G x1 x2 : Int} {I : Mm} {M : Rw} {Q : Int → Mm → Prop} (hM : I 237 = M) (hW : WF G M) (e0 : ¬ ((0 ≤ x1 ∧ x1 < M 0) ∧ (0 ≤ x2 ∧ x2 ≤ 3)) → Q (-1) I) (q0 : (0 ≤ x1 ∧ x1 < M 0) → x2 = 0 → Q (M (380 + x1)) I) (q1 : (0 ≤ x1 ∧ x1 < M 0) → x2 = 1 → Q (M (580 + x1)) I) (q2 : (0 ≤ x1 ∧ x1 < M 0) → x2 = 2 → Q (M (780 + x1)) I) (q3 : (0 ≤ x1 ∧ x1 < M 0) → x2 = 3 → Q (rowK M x1) I) : V_M_next x1 x2 I Q := by
  have b0 := hW.1.1
  unfold V_M_next
  rw [hM]
  refine ⟨by omega, m_in (fun a b => ⟨fun _ => ?_, fun w => absurd w (by decide)⟩) (fun q => ⟨fun w => absurd rfl w, fun _ => e0 (by omega)⟩)⟩
  have hx : 0 ≤ x1 ∧ x1 < M 0 := ⟨a, by omega⟩
  rw [hM]
  exact ⟨fun w => ⟨by omega, q0 hx w⟩, fun w => ⟨by omega, q1 hx w⟩, fun w => ⟨by omega, q2 hx w⟩, fun w => m_rowOf hM hW hx (q3 hx w), fun w => e0 (by omega)⟩
theorem o_next {G x1 x2 : Int} {I : Mm} {Q : Mm → Prop} (hI : Inv G I) (hG : G ≤ 2143000000) (hQ : ∀ I' : Mm, Inv (G + 3000000) I' → Q I') : V_X_next x1 x2 I (fun z I1 => V_M_next x1 x2 I1 (fun z' I2 => (z = z' → Q I2) ∧ (¬ z = z' → False))) := by
  obtain ⟨M, u, H, k, S, l, T, hC, hR, hA⟩ := hI
  have hst : Q I := hQ I ⟨M, u, H, k, S, l, T, hC, hR, aw_mono hA (by omega)⟩
  have hW := hA.1
  have b0 := hW.1.1
  have hM := hR.1
  have n0 : I (1 + 5) 0 = M 0 := hC.1.2.1.1
  unfold V_X_next
  refine s_has (fun a b => ⟨fun _ => ?_, fun w => absurd w (by decide)⟩) (fun q => ⟨fun w => absurd rfl w, fun _ => r_next hM hW (fun _ => fin rfl hst) (fun w => absurd (by rw [n0]; exact w) q) (fun w => absurd (by rw [n0]; exact w) q) (fun w => absurd (by rw [n0]; exact w) q) (fun w => absurd (by rw [n0]; exact w) q)⟩)
  rw [n0] at b
  obtain ⟨k1, k2, k3⟩ := hC.1.2.1.2 x1 a b
  rw [k1, k2, k3]
  refine ⟨fun w => ⟨by omega, r_next hM hW (fun _ => by omega) (fun _ _ => fin rfl hst) (fun _ _ => by omega) (fun _ _ => by omega) (fun _ _ => by omega)⟩, fun w => ⟨by omega, r_next hM hW (fun _ => by omega) (fun _ _ => by omega) (fun _ _ => fin rfl hst) (fun _ _ => by omega) (fun _ _ => by omega)⟩, fun w => ⟨by omega, r_next hM hW (fun _ => by omega) (fun _ _ => by omega) (fun _ _ => by omega) (fun _ _ => fin rfl hst) (fun _ _ => by omega)⟩, fun w => s_rowAt hC.1 hW ?_, fun w => r_next hM hW (fun _ => fin rfl hst) (fun _ _ => by omega) (fun _ _ => by omega) (fun _ _ => by omega) (fun _ _ => by omega)⟩
  rw [if_pos ⟨a, b⟩]
  exact r_next hM hW (fun _ => by omega) (fun _ _ => by omega) (fun _ _ => by omega) (fun _ _ => by omega) (fun _ _ => fin rfl hst)
theorem m_aheadInRow {G p : Int} {I : Mm} {M : Rw} {Q : Int → Mm → Prop} (hM : I 237 = M) (hW : WF G M) (hp : 0 ≤ p ∧ p < M 0) (hQ : Q (cirR M (rowK M p) p.toNat) I) : V_M_aheadInRow p I Q := by
  have b0 := hW.1.1
  unfold cirR at hQ
  refine lp (P := fun f i => L_M_aheadInRow_4 p Q f (cntB (fun k => decide (rowK M k = rowK M p)) i) (i : Int) I) p.toNat (fun f => ?_) (fun i f hi ih => ?_)
  · unfold L_M_aheadInRow_4
    exact ⟨fun _ => hQ, fun q => by omega⟩
  · have r := cntB_rng (fun k => decide (rowK M k = rowK M p)) i
    rw [cntB_s] at ih
    unfold L_M_aheadInRow_4
    refine ⟨fun q => by omega, fun _ => m_rowOf hM hW ⟨by omega, by omega⟩ (m_rowOf hM hW hp ⟨fun q => ⟨by omega, by omega, ?_⟩, fun q => ⟨by omega, by omega, ?_⟩⟩)⟩
    · rw [if_neg (by simpa using q)] at ih; exact ih
    · rw [if_pos (by simpa using q)] at ih; exact ih
theorem r_of {G x1 x2 : Int} {I : Mm} {M : Rw} {Q : Int → Mm → Prop} (hM : I 237 = M) (hW : WF G M) (e0 : (plcR M x1 = -1 ∨ ¬ (0 ≤ x2 ∧ x2 ≤ 4)) → Q (-1) I) (q0 : plcR M x1 ≠ -1 → x2 = 0 → Q (plcR M x1) I) (q1 : plcR M x1 ≠ -1 → x2 = 1 → Q (M (580 + plcR M x1)) I) (q2 : plcR M x1 ≠ -1 → x2 = 2 → Q (M (780 + plcR M x1)) I) (q3 : plcR M x1 ≠ -1 → x2 = 3 → Q (rowK M (plcR M x1)) I) (q4 : plcR M x1 ≠ -1 → x2 = 4 → Q (cirR M (rowK M (plcR M x1)) (plcR M x1).toNat) I) : V_M_of x1 x2 I Q := by
  have b0 := hW.1.1
  have pn := @plc_neg M x1
  unfold V_M_of
  refine m_placeOf hM b0 ⟨fun q => ?_, fun q => e0 (by omega)⟩
  have hp : plcR M x1 ≠ -1 := by omega
  obtain ⟨p1, p2⟩ := plc_rng hp
  refine ⟨fun w => ⟨fun w2 => m_in (fun a b => ⟨fun w => absurd w (by decide), fun _ => r_next hM hW (fun h => by omega) (fun _ _ => by omega) (fun _ h => q1 hp h) (fun _ h => q2 hp h) (fun _ h => q3 hp h)⟩) (fun h => ⟨fun _ => e0 (by omega), fun w => absurd rfl w⟩), fun w2 => m_aheadInRow hM hW p1 (q4 hp w2)⟩, fun w => q0 hp w⟩
theorem o_of {G x1 x2 : Int} {I : Mm} {Q : Mm → Prop} (hI : Inv G I) (hG : G ≤ 2143000000) (hQ : ∀ I' : Mm, Inv (G + 3000000) I' → Q I') : V_X_of x1 x2 I (fun z I1 => V_M_of x1 x2 I1 (fun z' I2 => (z = z' → Q I2) ∧ (¬ z = z' → False))) := by
  obtain ⟨M, u, H, k, S, l, T, hC, hR, hA⟩ := hI
  have hst : Q I := hQ I ⟨M, u, H, k, S, l, T, hC, hR, aw_mono hA (by omega)⟩
  have hW := hA.1
  have b0 := hW.1.1
  have hM := hR.1
  unfold V_X_of
  refine s_placeOf hC.1.2.1 b0 ⟨fun q => ?_, fun q => r_of hM hW (fun _ => fin rfl hst) (fun w => absurd q w) (fun w => absurd q w) (fun w => absurd q w) (fun w => absurd q w) (fun w => absurd q w)⟩
  obtain ⟨p1, p2⟩ := plc_rng q
  obtain ⟨k1, k2, k3⟩ := hC.1.2.1.2 _ p1.1 p1.2
  rw [k2, k3]
  refine ⟨fun w => r_of hM hW (fun _ => by omega) (fun _ _ => fin rfl hst) (fun _ _ => by omega) (fun _ _ => by omega) (fun _ _ => by omega) (fun _ _ => by omega), fun w => ⟨by omega, r_of hM hW (fun _ => by omega) (fun _ _ => by omega) (fun _ _ => fin rfl hst) (fun _ _ => by omega) (fun _ _ => by omega) (fun _ _ => by omega)⟩, fun w => ⟨by omega, r_of hM hW (fun _ => by omega) (fun _ _ => by omega) (fun _ _ => by omega) (fun _ _ => fin rfl hst) (fun _ _ => by omega) (fun _ _ => by omega)⟩, fun w => s_rowAt hC.1 hW ?_, fun w => s_rowAt hC.1 hW ?_, fun w => r_of hM hW (fun _ => fin rfl hst) (fun _ _ => by omega) (fun _ _ => by omega) (fun _ _ => by omega) (fun _ _ => by omega) (fun _ _ => by omega)⟩
  · rw [if_pos p1]
    exact r_of hM hW (fun _ => by omega) (fun _ _ => by omega) (fun _ _ => by omega) (fun _ _ => by omega) (fun _ _ => fin rfl hst) (fun _ _ => by omega)
  · rw [if_pos p1]
    exact s_countInRow hC.1 hW ⟨p1.1, by omega⟩ (r_of hM hW (fun _ => by omega) (fun _ _ => by omega) (fun _ _ => by omega) (fun _ _ => by omega) (fun _ _ => by omega) (fun _ _ => fin rfl hst))
theorem pir_is (M : Rw) (row k : Int) : (pirR M row k = -1 ∧ ∀ p : Int, 0 ≤ p → p < M 0 → ¬ (rowK M p = row ∧ cirR M row p.toNat = k)) ∨ ((0 ≤ pirR M row k ∧ pirR M row k < M 0) ∧ rowK M (pirR M row k) = row) := by
  rcases fstB_is (fun p => decide (rowK M p = row ∧ cirR M row p.toNat = k)) (M 0).toNat with ⟨h1, h2⟩ | ⟨h1, h2, -⟩
  · exact .inl ⟨h1, fun p a b => of_decide_eq_false (h2 p a (by omega))⟩
  · exact .inr ⟨⟨h1.1, by have := h1.2; unfold pirR; omega⟩, (of_decide_eq_true h2).1⟩
theorem r_row {G x1 x2 : Int} {I : Mm} {M : Rw} {Q : Int → Mm → Prop} (hM : I 237 = M) (hW : WF G M) (e0 : ¬ ((0 ≤ x1 ∧ x1 < M 1) ∧ -1 ≤ x2) → Q (-1) I) (e1 : (0 ≤ x1 ∧ x1 < M 1) → x2 = -1 → Q (cirR M x1 (M 0).toNat) I) (e2 : (0 ≤ x1 ∧ x1 < M 1) → 0 ≤ x2 → pirR M x1 x2 = -1 → Q (-2) I) (e3 : (0 ≤ x1 ∧ x1 < M 1) → 0 ≤ x2 → pirR M x1 x2 ≠ -1 → Q (M (380 + pirR M x1 x2)) I) : V_M_row x1 x2 I Q := by
  have b0 := hW.1.1
  have b1 := hW.1.2.1
  unfold V_M_row
  rw [hM]
  refine ⟨by omega, m_in (fun a b => ⟨fun w => absurd w (by decide), fun _ => ⟨fun w => ?_, fun w => e0 (by omega)⟩⟩) (fun q => ⟨fun _ => e0 (by omega), fun w => absurd rfl w⟩)⟩
  have hx : 0 ≤ x1 ∧ x1 < M 1 := ⟨a, by omega⟩
  refine lp_first (P := fun f i => L_M_row_30 x1 x2 Q f (cirR M x1 i) (i : Int) I) (fun p => decide (rowK M p = x1 ∧ cirR M x1 p.toNat = x2)) (M 0).toNat (fun hall f => ?_) (fun i f hi hi2 hp => ?_) (fun i f hi hp ih => ?_)
  · unfold L_M_row_30
    rw [hM]
    refine ⟨fun _ => ⟨fun w2 => e2 hx (by omega) ?_, fun w2 => e1 hx w2⟩, fun q => by omega⟩
    rcases fstB_is (fun p => decide (rowK M p = x1 ∧ cirR M x1 p.toNat = x2)) (M 0).toNat with ⟨h, -⟩ | ⟨h, h2, -⟩
    · exact h
    · exact absurd h2 (by rw [hall _ h.1 h.2]; decide)
  · have hp' : rowK M (i : Int) = x1 ∧ cirR M x1 i = x2 := by simpa using hp
    have r := cntB_rng (fun k => decide (rowK M k = x1)) i
    have er : cirR M x1 i = cntB (fun k => decide (rowK M k = x1)) i := rfl
    unfold L_M_row_30
    rw [hM]
    refine ⟨fun q => by omega, fun _ => m_rowOf hM hW ⟨by omega, by omega⟩ ⟨fun _ => ⟨fun w2 => absurd hp'.2 w2, fun _ => ⟨by omega, ?_⟩⟩, fun w2 => absurd hp'.1 w2⟩⟩
    have ep : pirR M x1 x2 = (i : Int) := by unfold pirR; exact hi.symm
    have := e3 hx (by omega) (by omega)
    rw [ep] at this
    rw [hM]
    exact this
  · have r := cntB_rng (fun k => decide (rowK M k = x1)) i
    have e : cirR M x1 (i + 1) = cirR M x1 i + (if decide (rowK M (i : Int) = x1) = true then 1 else 0) := rfl
    rw [e] at ih
    have e2 : cirR M x1 i = cntB (fun k => decide (rowK M k = x1)) i := rfl
    have hp' : ¬ (rowK M (i : Int) = x1 ∧ cirR M x1 i = x2) := by simpa using hp
    unfold L_M_row_30
    rw [hM]
    refine ⟨fun q => by omega, fun _ => m_rowOf hM hW ⟨by omega, by omega⟩ ⟨fun q => ⟨fun q2 => ⟨by omega, by omega, ?_⟩, fun q2 => absurd ⟨q, q2⟩ hp'⟩, fun q => ⟨by omega, ?_⟩⟩⟩
    · rw [if_pos (by simpa using q)] at ih; exact ih
    · rw [if_neg (by simpa using q), Int.add_zero] at ih; exact ih
theorem o_row {G x1 x2 : Int} {I : Mm} {Q : Mm → Prop} (hI : Inv G I) (hG : G ≤ 2143000000) (hQ : ∀ I' : Mm, Inv (G + 3000000) I' → Q I') : V_X_row x1 x2 I (fun z I1 => V_M_row x1 x2 I1 (fun z' I2 => (z = z' → Q I2) ∧ (¬ z = z' → False))) := by
  obtain ⟨M, u, H, k, S, l, T, hC, hR, hA⟩ := hI
  have hst : Q I := hQ I ⟨M, u, H, k, S, l, T, hC, hR, aw_mono hA (by omega)⟩
  have hW := hA.1
  have b0 := hW.1.1
  have hM := hR.1
  have n0 : I (1 + 5) 0 = M 0 := hC.1.2.1.1
  have n5 : I 1 5 = M 1 := hC.1.2.2.2.2.2.1
  unfold V_X_row
  rw [n5, n0]
  refine ⟨fun q => r_row hM hW (fun _ => fin rfl hst) (fun _ _ => by omega) (fun _ _ => by omega) (fun _ _ => by omega), fun a => ⟨fun q => r_row hM hW (fun _ => fin rfl hst) (fun _ _ => by omega) (fun _ _ => by omega) (fun _ _ => by omega), fun b => ⟨fun c => ⟨fun d => s_placeInRow hC.1 hW ⟨fun e => ?_, fun e => r_row hM hW (fun _ => by omega) (fun _ _ => by omega) (fun _ _ _ => fin rfl hst) (fun _ _ w => absurd e w)⟩, fun d => s_countInRow hC.1 hW ⟨b0.1, Int.le_refl _⟩ (r_row hM hW (fun _ => by omega) (fun _ _ => fin rfl hst) (fun _ _ => by omega) (fun _ _ => by omega))⟩, fun c => r_row hM hW (fun _ => fin rfl hst) (fun _ _ => by omega) (fun _ _ => by omega) (fun _ _ => by omega)⟩⟩⟩
  rcases pir_is M x1 x2 with ⟨h, -⟩ | ⟨h, -⟩
  · exact absurd h e
  · rw [(hC.1.2.1.2 _ h.1 h.2).1]
    exact ⟨by omega, r_row hM hW (fun _ => by omega) (fun _ _ => by omega) (fun _ _ w => absurd w e) (fun _ _ _ => fin rfl hst)⟩
theorem o_named {G x1 x2 : Int} {I : Mm} {Q : Mm → Prop} (hI : Inv G I) (hG : G ≤ 2143000000) (hQ : ∀ I' : Mm, Inv (G + 3000000) I' → Q I') : V_X_named x1 x2 I (fun z I1 => V_M_named x1 x2 I1 (fun z' I2 => (z = z' → Q I2) ∧ (¬ z = z' → False))) := by
  obtain ⟨M, u, H, k, S, l, T, hC, hR, hA⟩ := hI
  have hst : Q I := hQ I ⟨M, u, H, k, S, l, T, hC, hR, aw_mono hA (by omega)⟩
  have hW := hA.1
  have b0 := hW.1.1
  have b4 := hW.1.2.2.2.2.1
  have b5 := hW.1.2.2.2.2.2.1
  have hM := hR.1
  have n4 : I (1 + 1) 0 = M 4 := hC.1.1.1
  unfold V_X_named V_M_named
  refine s_nmHas (fun a b => ⟨fun _ => ?_, fun w => absurd w (by decide)⟩) (fun q => ⟨fun w => absurd rfl w, fun _ => m_isName hM b4 (fun c d => absurd ⟨c, by rw [n4]; exact d⟩ q) (fun _ => ⟨fun w => absurd rfl w, fun _ => fin rfl hst⟩)⟩)
  rw [n4] at b
  obtain ⟨-, k2, k3⟩ := hC.1.1.2 x1 a b
  have k2' : I (1 + 1 + 2) x1 = M (16 + x1) := k2
  have k3' : I (1 + 1 + 3) x1 = M (32 + x1) := k3
  rw [k2', k3']
  refine ⟨fun w => s_countOf hC.1.2.1 b0 (m_isName hM b4 (fun _ _ => ⟨fun _ => ⟨fun _ => m_waiting hM b0 (fin rfl hst), fun h => by omega, fun h => by omega, fun h => by omega, fun h => by omega, fun h => by omega⟩, fun w => absurd w (by decide)⟩) (fun q => absurd ⟨a, b⟩ q)), fun w => s_firstHourOf hC.1.2.1 b0 (m_isName hM b4 (fun _ _ => ⟨fun _ => ⟨fun h => by omega, fun _ => m_firstOf hM b0 ?_, fun h => by omega, fun h => by omega, fun h => by omega, fun h => by omega⟩, fun w => absurd w (by decide)⟩) (fun q => absurd ⟨a, b⟩ q)), fun w => ⟨by omega, m_isName hM b4 (fun _ _ => ⟨fun _ => ⟨fun h => by omega, fun h => by omega, fun _ => ⟨by omega, by rw [hM]; exact fin rfl hst⟩, fun h => by omega, fun h => by omega, fun h => by omega⟩, fun w => absurd w (by decide)⟩) (fun q => absurd ⟨a, b⟩ q)⟩, fun w => s_ruCount hC.1.2.2.1 b5 (m_isName hM b4 (fun _ _ => ⟨fun _ => ⟨fun h => by omega, fun h => by omega, fun h => by omega, fun _ => m_rulesOf hM b5 (fin rfl hst), fun h => by omega, fun h => by omega⟩, fun w => absurd w (by decide)⟩) (fun q => absurd ⟨a, b⟩ q)), fun w => ⟨by omega, m_isName hM b4 (fun _ _ => ⟨fun _ => ⟨fun h => by omega, fun h => by omega, fun h => by omega, fun h => by omega, fun _ => ⟨by omega, by rw [hM]; exact fin rfl hst⟩, fun h => by omega⟩, fun w => absurd w (by decide)⟩) (fun q => absurd ⟨a, b⟩ q)⟩, fun w => m_isName hM b4 (fun _ _ => ⟨fun _ => ⟨fun h => by omega, fun h => by omega, fun h => by omega, fun h => by omega, fun h => by omega, fun _ => fin rfl hst⟩, fun w => absurd w (by decide)⟩) (fun q => absurd ⟨a, b⟩ q)⟩
  rcases fnmR_is M x1 with ⟨h, -⟩ | ⟨h, -⟩
  · rw [if_pos h]
    exact ⟨fun q => by omega, fun _ => fin rfl hst⟩
  · rw [if_neg (by omega)]
    exact ⟨fun _ => m_firstOf hM b0 ⟨by omega, by rw [hM]; exact fin rfl hst⟩, fun q => by omega⟩
theorem o_ruled {G x1 x2 : Int} {I : Mm} {Q : Mm → Prop} (hI : Inv G I) (hG : G ≤ 2143000000) (hQ : ∀ I' : Mm, Inv (G + 3000000) I' → Q I') : V_X_ruled x1 x2 I (fun z I1 => V_M_ruled x1 x2 I1 (fun z' I2 => (z = z' → Q I2) ∧ (¬ z = z' → False))) := by
  obtain ⟨M, u, H, k, S, l, T, hC, hR, hA⟩ := hI
  have hst : Q I := hQ I ⟨M, u, H, k, S, l, T, hC, hR, aw_mono hA (by omega)⟩
  have hW := hA.1
  have b5 := hW.1.2.2.2.2.2.1
  have hM := hR.1
  have n5 : I (1 + 9) 0 = M 5 := hC.1.2.2.1.1
  unfold V_X_ruled V_M_ruled
  refine s_ruHas (fun a b => ⟨fun _ => ?_, fun w => absurd w (by decide)⟩) (fun q => ⟨fun w => absurd rfl w, fun _ => m_isRule hM b5 (fun c d => absurd ⟨c, by rw [n5]; exact d⟩ q) (fun _ => ⟨fun _ => fin rfl hst, fun w => absurd rfl w⟩)⟩)
  rw [n5] at b
  obtain ⟨k1, k2, k3⟩ := hC.1.2.2.1.2 x1 a b
  have k1' : I (1 + 9 + 1) x1 = M (144 + 3 * x1) := k1
  have k2' : I (1 + 9 + 2) x1 = M (144 + 3 * x1 + 1) := k2
  have k3' : I (1 + 9 + 3) x1 = M (144 + 3 * x1 + 2) := k3
  rw [k1', k2', k3']
  have hgo : ∀ z : Int, (0 ≤ x2 → x2 ≤ 2 → M (144 + 3 * x1 + x2) = z) → (¬ (0 ≤ x2 ∧ x2 ≤ 2) → (-1 : Int) = z) → V_M_isRule x1 I (fun z21 I22 => (z21 = 0 → (fun z' I2 => (z = z' → Q I2) ∧ (¬ z = z' → False)) (-1) I22) ∧ (¬ z21 = 0 → V_M_in x2 0 2 I22 (fun z23 I24 => (z23 = 0 → (fun z' I2 => (z = z' → Q I2) ∧ (¬ z = z' → False)) (-1) I24) ∧ (¬ z23 = 0 → (0 ≤ ((144 + (3 * x1)) + x2) ∧ ((144 + (3 * x1)) + x2) < 980) ∧ (fun z' I2 => (z = z' → Q I2) ∧ (¬ z = z' → False)) (I24 237 ((144 + (3 * x1)) + x2)) I24)))) := fun z h1 h2 =>
    m_isRule hM b5 (fun _ _ => ⟨fun w => absurd w (by decide), fun _ => m_in (fun c d => ⟨fun w => absurd w (by decide), fun _ => ⟨by omega, by rw [hM]; exact fin (h1 c d).symm hst⟩⟩) (fun q => ⟨fun _ => fin (h2 q).symm hst, fun w => absurd rfl w⟩)⟩) (fun q => absurd ⟨a, b⟩ q)
  exact ⟨fun w => ⟨by omega, hgo _ (fun _ _ => by rw [w, Int.add_zero]) (fun h => by omega)⟩, fun w => ⟨by omega, hgo _ (fun _ _ => by rw [w]) (fun h => by omega)⟩, fun w => ⟨by omega, hgo _ (fun _ _ => by rw [w]) (fun h => by omega)⟩, fun w => hgo _ (fun _ _ => by omega) (fun _ => rfl)⟩
theorem o_log {G x1 x2 : Int} {I : Mm} {Q : Mm → Prop} (hI : Inv G I) (hG : G ≤ 2143000000) (hQ : ∀ I' : Mm, Inv (G + 3000000) I' → Q I') : V_X_log x1 x2 I (fun z I1 => V_M_log x1 x2 I1 (fun z' I2 => (z = z' → Q I2) ∧ (¬ z = z' → False))) := by
  obtain ⟨M, u, H, k, S, l, T, hC, hR, hA⟩ := hI
  have hst : Q I := hQ I ⟨M, u, H, k, S, l, T, hC, hR, aw_mono hA (by omega)⟩
  have hW := hA.1
  have b7 := hW.1.2.2.2.2.2.2.2.1
  have hM := hR.1
  unfold V_X_log
  refine s_loAt hC.1.2.2.2.1 b7 ?_
  unfold V_M_log
  dsimp only
  rw [hM]
  refine ⟨by omega, m_in (fun a b => ⟨fun w => absurd w (by decide), fun _ => m_in (fun c d => ⟨fun w => absurd w (by decide), fun _ => ⟨by omega, ?_⟩⟩) (fun q => ⟨fun _ => fin (by rw [if_neg (by omega)]) hst, fun w => absurd rfl w⟩)⟩) (fun q => ⟨fun _ => fin (by rw [if_neg (by omega)]) hst, fun w => absurd rfl w⟩)⟩
  rw [hM, if_pos (by omega)]
  exact fin rfl hst
theorem o_total {G x1 : Int} {I : Mm} {Q : Mm → Prop} (hI : Inv G I) (hG : G ≤ 2143000000) (hQ : ∀ I' : Mm, Inv (G + 3000000) I' → Q I') : V_X_total x1 I (fun z I1 => V_M_total x1 I1 (fun z' I2 => (z = z' → Q I2) ∧ (¬ z = z' → False))) := by
  obtain ⟨M, u, H, k, S, l, T, hC, hR, hA⟩ := hI
  have hst : Q I := hQ I ⟨M, u, H, k, S, l, T, hC, hR, aw_mono hA (by omega)⟩
  have hM := hR.1
  have tot := hC.1.2.2.2.2.1
  unfold V_X_total V_M_total
  refine ⟨fun q => m_in (fun a b => by omega) (fun _ => ⟨fun _ => fin rfl hst, fun w => absurd rfl w⟩), fun a => ⟨fun b => ⟨⟨a, b⟩, m_in (fun _ _ => ⟨fun w => absurd w (by decide), fun _ => ⟨by omega, by rw [hM]; exact fin (tot x1 a b) hst⟩⟩) (fun q => by omega)⟩, fun b => m_in (fun c d => by omega) (fun _ => ⟨fun _ => fin rfl hst, fun w => absurd rfl w⟩)⟩⟩
theorem o_count {G x1 : Int} {I : Mm} {Q : Mm → Prop} (hI : Inv G I) (hG : G ≤ 2143000000) (hQ : ∀ I' : Mm, Inv (G + 3000000) I' → Q I') : V_X_count x1 I (fun z I1 => V_M_count x1 I1 (fun z' I2 => (z = z' → Q I2) ∧ (¬ z = z' → False))) := by
  obtain ⟨M, u, H, k, S, l, T, hC, hR, hA⟩ := hI
  have hst : Q I := hQ I ⟨M, u, H, k, S, l, T, hC, hR, aw_mono hA (by omega)⟩
  obtain ⟨c1, ⟨c2, c3, c4, c5⟩, ⟨c6, c7⟩, c8, c9, c10⟩ := hC
  obtain ⟨r1, r2, r3, r4, r5, r6⟩ := hR
  have n0 : I (1 + 5) 0 = M 0 := c1.2.1.1
  have n5 : I 1 5 = M 1 := c1.2.2.2.2.2.1
  have n6 : I 1 6 = M 2 := c1.2.2.2.2.2.2.1
  have n7 : I 1 7 = M 3 := c1.2.2.2.2.2.2.2.1
  have n8 : I 1 8 = M 6 := c1.2.2.2.2.2.2.2.2
  have n4 : I (1 + 1) 0 = M 4 := c1.1.1
  have n9 : I (1 + 9) 0 = M 5 := c1.2.2.1.1
  have s0 := (r4 0 (by omega) (by omega)).1
  have s1 := (r4 1 (by omega) (by omega)).1
  have k0 := (c7 0 (by omega) (by omega)).1
  have k1 := (c7 1 (by omega) (by omega)).1
  have hgo : ∀ z : Int, (x1 = 0 → z = M 0) → (x1 = 1 → z = M 1) → (x1 = 2 → z = M 2) → (x1 = 3 → z = M 3) → (x1 = 4 → z = M 4) → (x1 = 5 → z = M 5) → (x1 = 6 → z = u) → (x1 = 7 → z = l) → (x1 = 8 → z = k 0 + 2 * k 1) → (x1 = 9 → z = M 6) → (x1 < 0 ∨ 9 < x1 → z = -1) → V_M_count x1 I (fun z' I2 => (z = z' → Q I2) ∧ (¬ z = z' → False)) := by
    intro z h0 h1 h2 h3 h4 h5 h6 h7 h8 h9 h10
    unfold V_M_count
    rw [r1, r2, r5, s0, s1]
    refine ⟨fun w => fin (h0 w) hst, fun w => fin (h1 w) hst, fun w => fin (h2 w) hst, fun w => fin (h3 w) hst, fun w => fin (h4 w) hst, fun w => fin (h5 w) hst, fun w => fin (h6 w) hst, fun w => fin (h7 w) hst, fun w => ?_, fun w => fin (h9 w) hst, fun w => fin (h10 w) hst⟩
    have hz := h8 w
    exact ⟨fun v => ⟨fun v2 => ⟨by omega, fin (by omega) hst⟩, fun v2 => ⟨by omega, fin (by omega) hst⟩⟩, fun v => ⟨fun v2 => ⟨by omega, fin (by omega) hst⟩, fun v2 => ⟨by omega, fin (by omega) hst⟩⟩⟩
  unfold V_X_count
  rw [n0, n5, n6, n7, n4, n9, c2, c8, c6, n8]
  refine ⟨fun w => ?_, fun w => ?_, fun w => ?_, fun w => ?_, fun w => ?_, fun w => ?_, fun w => ?_, fun w => ?_, fun w => ?_, fun w => ?_, fun w => ?_⟩
  all_goals (refine hgo _ ?_ ?_ ?_ ?_ ?_ ?_ ?_ ?_ ?_ ?_ ?_ <;> intro h <;> first | rfl | (exfalso; omega))
