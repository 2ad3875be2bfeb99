/-! skew, same -/
theorem m_mostIn {G what : Int} {I : Mm} {M : Rw} {Q : Int → Mm → Prop} (hM : I 237 = M) (hW : WF G M) (h0 : what = 0 → Q (cwR M (M 1) (M 2) (bfR M (M 1) (M 2) (M 1).toNat) (M 0).toNat) I) (h1 : what ≠ 0 → Q (bfR M (M 1) (M 2) (M 1).toNat) I) : V_M_mostIn what I Q := by
  have b0 := hW.1.1
  have b1 := hW.1.2.1
  have c0 : ∀ r : Int, 0 ≤ cwR M (M 1) (M 2) r (M 0).toNat := fun r => (cntB_rng _ _).1
  refine lp (P := fun f i => L_M_mostIn_7 what Q f (if i = 0 then 0 else cwR M (M 1) (M 2) (bfR M (M 1) (M 2) i) (M 0).toNat) (bfR M (M 1) (M 2) i) (i : Int) I) (M 1).toNat (fun f => ?_) (fun i f hi ih => ?_)
  · unfold L_M_mostIn_7
    rw [hM, if_neg (by omega)]
    exact ⟨fun _ => ⟨fun w => h0 w, fun w => h1 w⟩, fun q => by omega⟩
  · have bf := bf_rng M (M 1) (M 2) i
    have e1 : bfR M (M 1) (M 2) (i + 1) = if cwR M (M 1) (M 2) (bfR M (M 1) (M 2) i) (M 0).toNat < cwR M (M 1) (M 2) (i : Int) (M 0).toNat then (i : Int) else bfR M (M 1) (M 2) i := rfl
    rw [e1, if_neg (show ¬ i + 1 = 0 by omega)] at ih
    unfold L_M_mostIn_7
    rw [hM]
    refine ⟨fun q => by omega, fun _ => r_row hM hW (fun h => by omega) (fun _ _ => ?_) (fun _ h => by omega) (fun _ h => by omega)⟩
    have ec : cirR M (i : Int) (M 0).toNat = cwR M (M 1) (M 2) (i : Int) (M 0).toNat := rfl
    rw [ec]
    have hci := c0 (i : Int)
    by_cases q0 : i = 0
    · subst q0
      have e0 : bfR M (M 1) (M 2) 0 = ((0 : Nat) : Int) := rfl
      rw [if_pos rfl, e0]
      rw [e0] at ih
      rw [if_neg (show ¬ cwR M (M 1) (M 2) ((0 : Nat) : Int) (M 0).toNat < cwR M (M 1) (M 2) ((0 : Nat) : Int) (M 0).toNat by omega)] at ih
      refine ⟨fun _ => ⟨by omega, ih⟩, fun q => ⟨by omega, ?_⟩⟩
      rw [show cwR M (M 1) (M 2) ((0 : Nat) : Int) (M 0).toNat = 0 by omega] at ih
      exact ih
    · rw [if_neg q0]
      refine ⟨fun q => ⟨by omega, ?_⟩, fun q => ⟨by omega, ?_⟩⟩
      · rw [if_pos q] at ih; exact ih
      · rw [if_neg (by omega)] at ih; exact ih
theorem m_bare {G : Int} {I : Mm} {M : Rw} {Q : Int → Mm → Prop} (hM : I 237 = M) (hW : WF G M) (hQ : Q (baR M (M 1) (M 2) (M 1).toNat) I) : V_M_bare I Q := by
  have b0 := hW.1.1
  have b1 := hW.1.2.1
  refine lp (P := fun f i => L_M_bare_4 Q f (baR M (M 1) (M 2) i) (i : Int) I) (M 1).toNat (fun f => ?_) (fun i f hi ih => ?_)
  · unfold L_M_bare_4
    rw [hM]
    exact ⟨fun _ => hQ, fun q => by omega⟩
  · have ba := cntB_rng (fun r => decide (cwR M (M 1) (M 2) r (M 0).toNat = 0)) i
    have eb : baR M (M 1) (M 2) i = cntB (fun r => decide (cwR M (M 1) (M 2) r (M 0).toNat = 0)) i := rfl
    have e2 : baR M (M 1) (M 2) (i + 1) = baR M (M 1) (M 2) i + (if decide (cwR M (M 1) (M 2) (i : Int) (M 0).toNat = 0) = true then 1 else 0) := rfl
    rw [e2] at ih
    unfold L_M_bare_4
    rw [hM]
    refine ⟨fun q => by omega, fun _ => r_row hM hW (fun h => by omega) (fun _ _ => ?_) (fun _ h => by omega) (fun _ h => by omega)⟩
    have ec : cirR M (i : Int) (M 0).toNat = cwR M (M 1) (M 2) (i : Int) (M 0).toNat := rfl
    rw [ec]
    refine ⟨fun q => ⟨by omega, by omega, ?_⟩, fun q => ⟨by omega, by omega, ?_⟩⟩
    · rw [if_neg (by simpa using q)] at ih; exact ih
    · rw [if_pos (by simpa using q)] at ih; exact ih
def bkR (M : Rw) (k : Int) : Int := k - nbR M (M (780 + k)) + 1
theorem bk_fw {G : Int} {M : Rw} (hW : WF G M) : rmx (bkR M) (M 0).toNat = rmx (fwR M 1) (M 0).toNat := by
  have b0 := hW.1.1
  have A : rmx (bkR M) (M 0).toNat ≤ rmx (fwR M 1) (M 0).toNat := by
    refine rmx_le _ _ (rmx_0 _ _) _ (fun k hk => ?_)
    obtain ⟨n1, n2, n3⟩ := nbR_is hW (M (780 + (k : Int)))
    have hle : nbR M (M (780 + (k : Int))) ≤ (k : Int) := by
      by_cases w : nbR M (M (780 + (k : Int))) ≤ (k : Int)
      · exact w
      · have := n2 (k : Int) (by omega) (by omega); omega
    obtain ⟨j, hj⟩ := nat_of n1.1
    have h1 := rmx_ge (fwR M 1) (M 0).toNat j (by omega)
    have h4 := n3 (j : Int) (by omega) (by omega)
    have he : M (780 + (j : Int)) = M (780 + (k : Int)) := by
      by_cases w : (j : Int) = (k : Int)
      · rw [w]
      · have := wf_s hW (j : Int) (k : Int) (by omega) (by omega) (by omega); omega
    obtain ⟨m1, m2, m3⟩ := nbR_is hW (M (780 + (k : Int)) + 1)
    have hgt : (k : Int) < nbR M (M (780 + (k : Int)) + 1) := by
      by_cases w : (k : Int) < nbR M (M (780 + (k : Int)) + 1)
      · exact w
      · have := m3 (k : Int) (by omega) (by omega); omega
    have hf : fwR M 1 (j : Int) = nbR M (M (780 + (k : Int)) + 1) - (j : Int) := by unfold fwR; rw [he]
    unfold bkR
    rw [hj]
    omega
  have B : rmx (fwR M 1) (M 0).toNat ≤ rmx (bkR M) (M 0).toNat := by
    refine rmx_le _ _ (rmx_0 _ _) _ (fun k hk => ?_)
    obtain ⟨m1, m2, m3⟩ := nbR_is hW (M (780 + (k : Int)) + 1)
    have hgt : (k : Int) < nbR M (M (780 + (k : Int)) + 1) := by
      by_cases w : (k : Int) < nbR M (M (780 + (k : Int)) + 1)
      · exact w
      · have := m3 (k : Int) (by omega) (by omega); omega
    obtain ⟨j, hj⟩ := nat_of (show 0 ≤ nbR M (M (780 + (k : Int)) + 1) - 1 by omega)
    have h1 := rmx_ge (bkR M) (M 0).toNat j (by omega)
    have h4 := m2 (j : Int) (by omega) (by omega)
    have he : M (780 + (j : Int)) = M (780 + (k : Int)) := by
      by_cases w : (j : Int) = (k : Int)
      · rw [w]
      · have := wf_s hW (k : Int) (j : Int) (by omega) (by omega) (by omega); omega
    obtain ⟨n1, n2, n3⟩ := nbR_is hW (M (780 + (k : Int)))
    have hle : nbR M (M (780 + (k : Int))) ≤ (k : Int) := by
      by_cases w : nbR M (M (780 + (k : Int))) ≤ (k : Int)
      · exact w
      · have := n2 (k : Int) (by omega) (by omega); omega
    have hb : bkR M (j : Int) = (j : Int) - nbR M (M (780 + (k : Int))) + 1 := by unfold bkR; rw [he]
    unfold fwR
    omega
  omega
theorem m_mostAlike {G : Int} {I : Mm} {M : Rw} {Q : Int → Mm → Prop} (hM : I 237 = M) (hW : WF G M) (hQ : Q (rmx (fwR M 1) (M 0).toNat) I) : V_M_mostAlike I Q := by
  have b0 := hW.1.1
  rw [← bk_fw hW] at hQ
  refine lp (P := fun f i => L_M_mostAlike_6 Q f (rmx (bkR M) i) (if i = 0 then 0 else bkR M ((i : Int) - 1)) (i : Int) I) (M 0).toNat (fun f => ?_) (fun i f hi ih => ?_)
  · unfold L_M_mostAlike_6
    rw [hM]
    exact ⟨fun _ => hQ, fun q => by omega⟩
  · have e1 : rmx (bkR M) (i + 1) = max (rmx (bkR M) i) (bkR M (i : Int)) := rfl
    have e2 : ((i + 1 : Nat) : Int) - 1 = (i : Int) := by omega
    rw [e1, if_neg (show ¬ i + 1 = 0 by omega), e2] at ih
    obtain ⟨n1, n2, n3⟩ := nbR_is hW (M (780 + (i : Int)))
    have hle : nbR M (M (780 + (i : Int))) ≤ (i : Int) := by
      by_cases w : nbR M (M (780 + (i : Int))) ≤ (i : Int)
      · exact w
      · have := n2 (i : Int) (by omega) (by omega); omega
    have hJ : J_M_mostAlike_52 Q (fun x1 x2 x3 I => L_M_mostAlike_6 Q f x1 x2 x3 I) (rmx (bkR M) i) (i : Int) (bkR M (i : Int)) I := by
      unfold J_M_mostAlike_52
      refine ⟨fun q => ⟨by omega, ?_⟩, fun q => ⟨by omega, ?_⟩⟩
      · rw [show max (rmx (bkR M) i) (bkR M (i : Int)) = rmx (bkR M) i by omega] at ih; exact ih
      · rw [show max (rmx (bkR M) i) (bkR M (i : Int)) = bkR M (i : Int) by omega] at ih; exact ih
    unfold L_M_mostAlike_6
    rw [hM]
    refine ⟨fun q => by omega, fun _ => ⟨fun q => ?_, fun q => ⟨by omega, by omega, fun q2 => ?_, fun q2 => ?_⟩⟩⟩
    · have hb : bkR M (i : Int) = 1 := by unfold bkR; omega
      rw [hb] at hJ
      exact hJ
    · have hs := wf_s hW ((i : Int) - 1) (i : Int) (by omega) (by omega) (by omega)
      rw [show 780 + (i : Int) - 1 = 780 + ((i : Int) - 1) by omega] at q2
      have : nbR M (M (780 + (i : Int))) = (i : Int) := by
        by_cases w : nbR M (M (780 + (i : Int))) = (i : Int)
        · exact w
        · have := n3 ((i : Int) - 1) (by omega) (by omega); omega
      have hb : bkR M (i : Int) = 1 := by unfold bkR; omega
      rw [hb] at hJ
      exact hJ
    · rw [show 780 + (i : Int) - 1 = 780 + ((i : Int) - 1) by omega] at q2
      have hb : bkR M (i : Int) = bkR M ((i : Int) - 1) + 1 := by unfold bkR; rw [q2]; omega
      have hr : 0 ≤ bkR M ((i : Int) - 1) ∧ bkR M ((i : Int) - 1) ≤ 200 := by
        unfold bkR
        rw [← q2]
        have : nbR M (M (780 + (i : Int))) ≠ (i : Int) := by
          intro w
          have := n2 ((i : Int) - 1) (by omega) (by omega); omega
        omega
      rw [if_neg (by omega)]
      rw [hb] at hJ
      exact ⟨by omega, hJ⟩
theorem m_greatestGap {G : Int} {I : Mm} {M : Rw} {Q : Int → Mm → Prop} (hM : I 237 = M) (hW : WF G M) (hQ : Q (gmxR M (M 0 - 1).toNat) I) : V_M_greatestGap I Q := by
  have b0 := hW.1.1
  refine lp (P := fun f i => L_M_greatestGap_4 Q f (gmxR M i) (i : Int) I) (M 0 - 1).toNat (fun f => ?_) (fun i f hi ih => ?_)
  · unfold L_M_greatestGap_4
    rw [hM]
    exact ⟨by omega, fun _ => hQ, fun q => by omega⟩
  · have e1 : gmxR M (i + 1) = max (gmxR M i) (gapR M (i : Int)) := rfl
    rw [e1] at ih
    unfold L_M_greatestGap_4
    rw [hM]
    refine ⟨by omega, fun q => by omega, fun _ => m_gapAt hM hW (by omega) ⟨fun q => ⟨by omega, ?_⟩, fun q => m_gapAt hM hW (by omega) ⟨by omega, ?_⟩⟩⟩
    · rw [show max (gmxR M i) (gapR M (i : Int)) = gmxR M i by omega] at ih; exact ih
    · rw [show max (gmxR M i) (gapR M (i : Int)) = gapR M (i : Int) by omega] at ih; exact ih
theorem o_skew {G x1 : Int} {I : Mm} {Q : Mm → Prop} (hI : Inv G I) (hG : G ≤ 2143000000) (hQ : ∀ I' : Mm, Inv (G + 3000000) I' → Q I') : V_X_skew x1 I (fun z I1 => V_M_skew x1 I1 (fun z' I2 => (z = z' → Q I2) ∧ (¬ z = z' → False))) := by
  obtain ⟨M, u, H, k, S, l, T, hC, hR, hA⟩ := hI
  have hW := hA.1
  obtain ⟨b0, b1, b2, b3, -⟩ := hW.1
  have hM := hR.1
  have hst : ∀ I' : Mm, (∀ a : Int, a ≠ 234 → I' a = I a) → Q I' := fun I' hI' => hQ I' (stay hC (rs_fr2 hR (fun a ha => hI' a (by omega))) (aw_mono hA (by omega)) (fun a ha => hI' a (by omega)))
  have hst0 := hst I (fun _ _ => rfl)
  have n5 : I 1 5 = M 1 := hC.1.2.2.2.2.2.1
  have n6 : I 1 6 = M 2 := hC.1.2.2.2.2.2.2.1
  unfold V_X_skew V_M_skew
  rw [n5, n6]
  refine ⟨fun w => s_skewIn hC.1 hW b1 b2.1 (fun _ I1 F1 => ?_) (fun _ => by omega) (fun _ => by omega), fun w => s_skewIn hC.1 hW b1 b2.1 (fun _ => by omega) (fun _ I1 F1 => ?_) (fun _ => by omega), fun w => s_skewIn hC.1 hW b1 b2.1 (fun _ => by omega) (fun _ => by omega) (fun _ I1 F1 => ?_), fun w => s_mostWithin hC.1.2.1 hW (by omega) (fun _ => ?_) (fun h => absurd rfl h), fun w => s_meanGap hC.1.2.1 hW ?_, fun w => s_greatestGap hC.1.2.1 hW ?_, fun w => ?_⟩
  · have hM1 : I1 237 = M := by rw [F1 237 (by omega)]; exact hM
    exact ⟨fun _ => m_mostIn hM1 hW (fun _ => fin rfl (hst I1 F1)) (fun h => absurd rfl h), fun h => by omega, fun h => by omega, fun h => by omega, fun h => by omega, fun h => by omega, fun h => by omega⟩
  · have hM1 : I1 237 = M := by rw [F1 237 (by omega)]; exact hM
    exact ⟨fun h => by omega, fun _ => m_mostIn hM1 hW (fun h => absurd h (by decide)) (fun _ => fin rfl (hst I1 F1)), fun h => by omega, fun h => by omega, fun h => by omega, fun h => by omega, fun h => by omega⟩
  · have hM1 : I1 237 = M := by rw [F1 237 (by omega)]; exact hM
    exact ⟨fun h => by omega, fun h => by omega, fun _ => m_bare hM1 hW (fin rfl (hst I1 F1)), fun h => by omega, fun h => by omega, fun h => by omega, fun h => by omega⟩
  · exact ⟨fun h => by omega, fun h => by omega, fun h => by omega, fun _ => m_mostAlike hM hW (fin rfl hst0), fun h => by omega, fun h => by omega, fun h => by omega⟩
  · refine ⟨fun h => by omega, fun h => by omega, fun h => by omega, fun h => by omega, fun _ => ?_, fun h => by omega, fun h => by omega⟩
    rw [hM]
    refine ⟨fun h => ?_, fun h => fin (by rw [if_pos h]) hst0⟩
    have h1 := wf_h hW (M 0 - 1) (by omega) (by omega)
    have h2 := wf_h hW 0 (by omega) (by omega)
    have h3 := wf_s hW 0 (M 0 - 1) (by omega) (by omega) (by omega)
    rw [Int.add_zero] at h2 h3
    rw [show 780 + M 0 - 1 = 780 + (M 0 - 1) by omega]
    exact ⟨by omega, by omega, by omega, by omega, fin (by rw [if_neg (by omega)]) hst0⟩
  · exact ⟨fun h => by omega, fun h => by omega, fun h => by omega, fun h => by omega, fun h => by omega, fun _ => m_greatestGap hM hW (fin rfl hst0), fun h => by omega⟩
  · exact ⟨fun h => by omega, fun h => by omega, fun h => by omega, fun h => by omega, fun h => by omega, fun h => by omega, fun _ => fin rfl hst0⟩
theorem m_areAlike {s p n : Int} {I : Mm} {M N : Rw} {Q : Int → Mm → Prop} (hM : I 237 = M) (hs : 0 ≤ s ∧ s < 2) (hN : ∀ j : Int, 0 ≤ j → j < 980 → I 240 (980 * s + j) = N j) (hp : 0 ≤ p) (hn : 0 ≤ n) (hpn : p + n ≤ 980) (h1 : (∀ j : Int, p ≤ j → j < p + n → N j = M j) → Q 1 I) (h0 : ¬ (∀ j : Int, p ≤ j → j < p + n → N j = M j) → Q 0 I) : V_M_areAlike (980 * s) p n I Q := by
  obtain ⟨p', rfl⟩ := nat_of hp
  obtain ⟨n', rfl⟩ := nat_of hn
  have key : ∀ k i : Nat, i + k = p' + n' → p' ≤ i → (∀ j : Int, (p' : Int) ≤ j → j < (i : Int) → N j = M j) → L_M_areAlike_3 (980 * s) (p' : Int) (n' : Int) Q (k + 1) (i : Int) I := by
    intro k
    induction k with
    | zero =>
      intro i hi hi2 hall
      unfold L_M_areAlike_3
      exact ⟨by omega, fun _ => h1 (fun j a b => hall j a (by omega)), fun q => by omega⟩
    | succ k ih =>
      intro i hi hi2 hall
      unfold L_M_areAlike_3
      rw [hM, hN (i : Int) (by omega) (by omega)]
      refine ⟨by omega, fun q => by omega, fun _ => ⟨by omega, by omega, fun q => ⟨by omega, ih (i + 1) (by omega) (by omega) (fun j a b => ?_)⟩, fun q => h0 (fun w => q (w (i : Int) (by omega) (by omega)))⟩⟩
      by_cases hj : j = (i : Int)
      · rw [hj]; exact q
      · exact hall j a (by omega)
  exact ⟨_, key n' p' rfl (Nat.le_refl p') (fun j a b => by omega)⟩
theorem o_same {G x1 x2 : Int} {I : Mm} {Q : Mm → Prop} (hI : Inv G I) (hG : G ≤ 2143000000) (hQ : ∀ I' : Mm, Inv (G + 3000000) I' → Q I') : V_X_same x1 x2 I (fun z I1 => V_M_same x1 x2 I1 (fun z' I2 => (z = z' → Q I2) ∧ (¬ z = z' → False))) := by
  obtain ⟨M, u, H, k, S, l, T, hC, hR, hA⟩ := hI
  have hst : Q I := hQ I ⟨M, u, H, k, S, l, T, hC, hR, aw_mono hA (by omega)⟩
  have hW := hA.1
  have b0 := hW.1.1
  have b5 := hW.1.2.2.2.2.2.1
  have hM := hR.1
  obtain ⟨c6, c7⟩ := hC.2.2.1
  have r4 := hR.2.2.2.1
  have refuse : ¬ ((0 ≤ x1 ∧ x1 < 2) ∧ (0 ≤ x2 ∧ x2 ≤ 1)) → V_M_same x1 x2 I (fun z' I2 => ((-1 : Int) = z' → Q I2) ∧ (¬ (-1 : Int) = z' → False)) := fun q =>
    m_in (fun a b => ⟨fun w => absurd w (by decide), fun _ => m_in (fun c d => absurd ⟨⟨a, by omega⟩, c, d⟩ q) (fun _ => ⟨fun w => absurd rfl w, fun _ => fin rfl hst⟩)⟩) (fun _ => ⟨fun _ => fin rfl hst, fun w => absurd rfl w⟩)
  unfold V_X_same
  refine x_shelf (fun a b => ⟨fun w => absurd w (by decide), fun _ => ⟨fun q => refuse (by omega), fun c => ⟨fun d => ?_, fun q => refuse (by omega)⟩⟩⟩) (fun q => ⟨fun _ => refuse (fun w => q w.1), fun w => absurd rfl w⟩)
  have k0 := (c7 0 (by omega) (by omega)).1
  have k1 := (c7 1 (by omega) (by omega)).1
  have hb := (sh_or k0 k1 ⟨a, b⟩).2
  have hk : (if x1 = 0 then k 0 else k 1) = k x1 := by
    rcases (show x1 = 0 ∨ x1 = 1 by omega) with h | h
    · rw [h, if_pos rfl]
    · rw [h, if_neg (by decide)]
  rw [hk] at hb
  have kx := (c7 x1 a b).1
  unfold V_X_isKept
  rw [c6, hb]
  refine ⟨fun w => ⟨fun w2 => absurd rfl w2, fun _ => m_in (fun _ _ => ⟨fun w => absurd w (by decide), fun _ => m_in (fun _ _ => ⟨fun _ => ⟨by omega, fun w2 => absurd (show I 241 x1 = 0 by rw [(r4 x1 a b).1]; omega) w2, fun _ => fin rfl hst⟩, fun w => absurd w (by decide)⟩) (fun q => by omega)⟩) (fun q => by omega)⟩, fun w => ⟨fun _ => ⟨⟨a, b⟩, ?_, ?_⟩, fun w => absurd w (by decide)⟩⟩
  · intro hx2
    have hWs := hA.2.2 x1 a b w
    have hN := (r4 x1 a b).2 w
    have hkn : ¬ I 241 x1 = 0 := by rw [(r4 x1 a b).1]; omega
    have ref : ∀ z : Int, (likU M (S x1) → z = 1) → (¬ likU M (S x1) → z = 0) → V_M_same x1 x2 I (fun z' I2 => (z = z' → Q I2) ∧ (¬ z = z' → False)) := by
      intro z h1 h0
      unfold V_M_same
      refine m_in (fun _ _ => ⟨fun w => absurd w (by decide), fun _ => m_in (fun _ _ => ⟨fun _ => ⟨by omega, fun _ => ⟨fun _ => ⟨by omega, ?_⟩, fun w2 => absurd w2 hx2⟩, fun w2 => absurd w2 hkn⟩, fun w => absurd w (by decide)⟩) (fun q => by omega)⟩) (fun q => by omega)
      refine m_areAlike hM ⟨a, b⟩ hN (by omega) (by omega) (by omega) (fun e5 => ⟨fun w => absurd w (by decide), fun _ => ?_⟩) (fun ne => ⟨fun _ => fin (h0 (fun hl => ne (fun j p q => by rw [show j = 5 by omega]; exact hl.1.symm))) hst, fun w => absurd rfl w⟩)
      have e5' := e5 5 (by omega) (by omega)
      rw [hM]
      refine ⟨by omega, m_areAlike hM ⟨a, b⟩ hN (by omega) (by omega) (by omega) (fun eq => ⟨fun w => absurd w (by decide), fun _ => fin (h1 ⟨e5'.symm, fun j p q => (eq (144 + j) (by omega) (by omega)).symm⟩) hst⟩) (fun ne => ⟨fun _ => fin (h0 (fun hl => ne (fun j p q => by have := hl.2 (j - 144) (by omega) (by omega); rw [show 144 + (j - 144) = j by omega] at this; exact this.symm))) hst, fun w => absurd rfl w⟩)⟩
    refine s_ruLike hC.1.2.2.1 ((c7 x1 a b).2 w).2.2.1 b5 (fun h => ⟨fun w => absurd w (by decide), fun _ => ref _ (fun _ => rfl) (fun w => absurd h w)⟩) (fun h => ⟨fun _ => ref _ (fun w => absurd w h) (fun _ => rfl), fun w => absurd rfl w⟩)
  · intro hx2
    have hWs := hA.2.2 x1 a b w
    have hN := (r4 x1 a b).2 w
    have hkn : ¬ I 241 x1 = 0 := by rw [(r4 x1 a b).1]; omega
    have ref : ∀ z : Int, (likT M (S x1) → z = 1) → (¬ likT M (S x1) → z = 0) → V_M_same x1 x2 I (fun z' I2 => (z = z' → Q I2) ∧ (¬ z = z' → False)) := by
      intro z h1 h0
      unfold V_M_same
      refine m_in (fun _ _ => ⟨fun w => absurd w (by decide), fun _ => m_in (fun _ _ => ⟨fun _ => ⟨by omega, fun _ => ⟨fun w2 => absurd hx2 w2, fun _ => ⟨by omega, ?_⟩⟩, fun w2 => absurd w2 hkn⟩, fun w => absurd w (by decide)⟩) (fun q => by omega)⟩) (fun q => by omega)
      refine m_areAlike hM ⟨a, b⟩ hN (by omega) (by omega) (by omega) (fun e5 => ⟨fun w => absurd w (by decide), fun _ => ?_⟩) (fun ne => ⟨fun _ => fin (h0 (fun hl => ne (fun j p q => by rw [show j = 0 by omega]; exact hl.1.symm))) hst, fun w => absurd rfl w⟩)
      have e5' := e5 0 (by omega) (by omega)
      rw [hM]
      refine m_areAlike hM ⟨a, b⟩ hN (by omega) (by omega) (by omega) (fun q1 => ⟨fun w => absurd w (by decide), fun _ => ?_⟩) (fun ne => ⟨fun _ => fin (h0 (fun hl => ne (fun j p q => by have := (hl.2 (j - 380) (by omega) (by omega)).1; rw [show 380 + (j - 380) = j by omega] at this; exact this.symm))) hst, fun w => absurd rfl w⟩)
      rw [hM]
      refine m_areAlike hM ⟨a, b⟩ hN (by omega) (by omega) (by omega) (fun q2 => ⟨fun w => absurd w (by decide), fun _ => ?_⟩) (fun ne => ⟨fun _ => fin (h0 (fun hl => ne (fun j p q => by have := (hl.2 (j - 580) (by omega) (by omega)).2.1; rw [show 580 + (j - 580) = j by omega] at this; exact this.symm))) hst, fun w => absurd rfl w⟩)
      rw [hM]
      refine m_areAlike hM ⟨a, b⟩ hN (by omega) (by omega) (by omega) (fun q3 => ⟨fun w => absurd w (by decide), fun _ => fin (h1 ⟨e5'.symm, fun j p q => ⟨(q1 (380 + j) (by omega) (by omega)).symm, (q2 (580 + j) (by omega) (by omega)).symm, (q3 (780 + j) (by omega) (by omega)).symm⟩⟩) hst⟩) (fun ne => ⟨fun _ => fin (h0 (fun hl => ne (fun j p q => by have := (hl.2 (j - 780) (by omega) (by omega)).2.2; rw [show 780 + (j - 780) = j by omega] at this; exact this.symm))) hst, fun w => absurd rfl w⟩)
    refine s_thLike hC.1.2.1 ((c7 x1 a b).2 w).2.1 hW (fun h => ⟨fun w => absurd w (by decide), fun _ => ref _ (fun _ => rfl) (fun w => absurd h w)⟩) (fun h => ⟨fun _ => ref _ (fun w => absurd w h) (fun _ => rfl), fun w => absurd rfl w⟩)
