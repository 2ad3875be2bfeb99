/-! more questions -/
theorem o_longest {G x1 : Int} {I : Mm} {Q : Mm → Prop} (hI : Inv G I) (hG : G ≤ 2143000000) (hQ : ∀ I' : Mm, Inv (G + 3000000) I' → Q I') : V_X_longest x1 I (fun z I1 => V_M_longest x1 I1 (fun z' I2 => (z = z' → Q I2) ∧ (¬ z = z' → False))) := by
  obtain ⟨M, u, H, k, S, l, T, hC, hR, hA⟩ := hI
  have hst : Q I := hQ I ⟨M, u, H, k, S, l, T, hC, hR, aw_mono hA (by omega)⟩
  have hW := hA.1
  have b0 := hW.1.1
  have hM := hR.1
  have refuse : ¬ (0 ≤ x1 ∧ x1 ≤ 1) → V_M_longest x1 I (fun z' I2 => ((-1 : Int) = z' → Q I2) ∧ (¬ (-1 : Int) = z' → False)) := fun q => m_in (fun a b => absurd ⟨a, b⟩ q) (fun _ => ⟨fun w => absurd rfl w, fun _ => fin rfl hst⟩)
  have ref : ∀ z : Int, (x1 = 0 → z = rmx (lrI M) (M 0).toNat) → (x1 ≠ 0 → z = rar (lrI M) (fun k => M (380 + (k - lrI M k + 1))) (-2) (M 0).toNat) → 0 ≤ x1 → x1 ≤ 1 → V_M_longest x1 I (fun z' I2 => (z = z' → Q I2) ∧ (¬ z = z' → False)) := by
    intro z h0 h1 a b
    unfold V_M_longest
    refine m_in (fun _ _ => ⟨fun _ => ?_, fun w => absurd w (by decide)⟩) (fun q => absurd ⟨a, b⟩ q)
    refine lp (P := fun n i => L_M_longest_23 x1 (fun z' I2 => (z = z' → Q I2) ∧ (¬ z = z' → False)) n (rmx (lrI M) i) (rar (lrI M) (fun k => M (380 + (k - lrI M k + 1))) (-2) i) (if i = 0 then 0 else lrR M (i - 1)) (i : Int) I) (M 0).toNat (fun n => ?_) (fun i n hi ih => ?_)
    · unfold L_M_longest_23
      rw [hM]
      exact ⟨fun _ => ⟨fun w => fin (h1 w) hst, fun w => fin (h0 w) hst⟩, fun q => by omega⟩
    · have lr := lr_rng M i
      have li : lrI M (i : Int) = lrR M i := by unfold lrI; rw [Int.toNat_natCast]
      have e1 : rmx (lrI M) (i + 1) = max (rmx (lrI M) i) (lrR M i) := by rw [← li]; rfl
      have e2 : rar (lrI M) (fun k => M (380 + (k - lrI M k + 1))) (-2) (i + 1) = if rmx (lrI M) i < lrR M i then M (380 + ((i : Int) - lrR M i + 1)) else rar (lrI M) (fun k => M (380 + (k - lrI M k + 1))) (-2) i := by rw [← li]; rfl
      rw [e1, e2, if_neg (show ¬ i + 1 = 0 by omega), show i + 1 - 1 = i by omega] at ih
      have hJ : J_M_longest_74 x1 (fun z' I2 => (z = z' → Q I2) ∧ (¬ z = z' → False)) (fun x2 x3 x4 x5 I => L_M_longest_23 x1 (fun z' I2 => (z = z' → Q I2) ∧ (¬ z = z' → False)) n x2 x3 x4 x5 I) (rmx (lrI M) i) (rar (lrI M) (fun k => M (380 + (k - lrI M k + 1))) (-2) i) (i : Int) (lrR M i) I := by
        unfold J_M_longest_74
        rw [hM]
        refine ⟨fun w => ⟨by omega, ?_⟩, fun w => ⟨by omega, ?_⟩⟩
        · intro y hy
          subst hy
          rw [if_pos w, show max (rmx (lrI M) i) (lrR M i) = lrR M i by omega, show 380 + ((i : Int) - lrR M i + 1) = 380 + (i : Int) - lrR M i + 1 by omega] at ih
          exact ⟨by omega, ih⟩
        · rw [if_neg (by omega), show max (rmx (lrI M) i) (lrR M i) = rmx (lrI M) i by omega] at ih
          exact ih
      unfold L_M_longest_23
      rw [hM]
      refine ⟨fun q => by omega, fun _ => ⟨fun q => ?_, fun q => ⟨by omega, by omega, fun q2 => ?_, fun q2 => ?_⟩⟩⟩
      · have hi0 : i = 0 := by omega
        subst hi0
        exact hJ
      · have e : lrR M i = 1 := by
          rw [show i = (i - 1) + 1 by omega]
          unfold lrR
          rw [if_neg]
          intro h
          apply q2
          rw [show 580 + (i : Int) = 580 + (((i - 1 : Nat) : Int) + 1) by omega, h]
          congr 1
          omega
        rw [e] at hJ
        exact hJ
      · have e : lrR M i = lrR M (i - 1) + 1 := by
          have : lrR M ((i - 1) + 1) = lrR M (i - 1) + 1 := by
            show (if M (580 + (((i - 1 : Nat) : Int) + 1)) = M (580 + ((i - 1 : Nat) : Int)) then lrR M (i - 1) + 1 else 1) = _
            rw [if_pos]
            rw [show 580 + (((i - 1 : Nat) : Int) + 1) = 580 + (i : Int) by omega, q2]
            congr 1
            omega
          rw [show (i - 1) + 1 = i by omega] at this
          exact this
        rw [if_neg (by omega)]
        rw [e] at hJ
        have lr1 := lr_rng M (i - 1)
        exact ⟨by omega, hJ⟩
  unfold V_X_longest
  exact ⟨fun q => refuse (by omega), fun a => ⟨fun b => s_longest hC.1.2.1 hW (fun w => ref _ (fun _ => rfl) (fun h => absurd w h) a b) (fun w => ref _ (fun h => absurd h w) (fun _ => rfl) a b), fun q => refuse (by omega)⟩⟩
theorem o_day {G x1 : Int} {I : Mm} {Q : Mm → Prop} (hI : Inv G I) (hG : G ≤ 2143000000) (hQ : ∀ I' : Mm, Inv (G + 3000000) I' → Q I') : V_X_day x1 I (fun z I1 => V_M_day x1 I1 (fun z' I2 => (z = z' → Q I2) ∧ (¬ z = z' → False))) := by
  obtain ⟨M, u, H, k, S, l, T, hC, hR, hA⟩ := hI
  have hst : Q I := hQ I ⟨M, u, H, k, S, l, T, hC, hR, aw_mono hA (by omega)⟩
  have hW := hA.1
  obtain ⟨b0, b1, b2, b3, -⟩ := hW.1
  have hM := hR.1
  have n0 : I (1 + 5) 0 = M 0 := hC.1.2.1.1
  have n6 : I 1 6 = M 2 := hC.1.2.2.2.2.2.2.1
  have n7 : I 1 7 = M 3 := hC.1.2.2.2.2.2.2.2.1
  have d1 := Int.ediv_nonneg b3.1 (show 0 ≤ M 2 by omega)
  have d2 := Int.ediv_le_self (M 2) b3.1
  have refuse : ¬ (0 ≤ x1 ∧ x1 ≤ 999) → V_M_day x1 I (fun z' I2 => ((-1 : Int) = z' → Q I2) ∧ (¬ (-1 : Int) = z' → False)) := fun q => m_in (fun a b => absurd ⟨a, b⟩ q) (fun _ => ⟨fun w => absurd rfl w, fun _ => fin rfl hst⟩)
  unfold V_X_day
  rw [n6, n7]
  refine ⟨fun q => refuse (by omega), fun a => ⟨fun b => ⟨fun _ => ⟨by omega, by omega, ?_⟩, fun w => by omega⟩, fun q => refuse (by omega)⟩⟩
  refine lp (P := fun n i => L_X_day_38 x1 (M 3 / M 2 + x1) (fun z I1 => V_M_day x1 I1 (fun z' I2 => (z = z' → Q I2) ∧ (¬ z = z' → False))) n (cntB (fun k => decide (M (780 + k) / M 2 = M 3 / M 2 + x1)) i) (i : Int) I) (M 0).toNat (fun n => ?_) (fun i n hi ih => ?_)
  · unfold L_X_day_38
    rw [n0]
    refine ⟨fun _ => ?_, fun q => by omega⟩
    unfold V_M_day
    refine m_in (fun _ _ => ⟨fun _ => ?_, fun w => absurd w (by decide)⟩) (fun q => absurd ⟨a, b⟩ q)
    refine lp (P := fun n i => L_M_day_18 x1 (fun z' I2 => (cntB (fun k => decide (M (780 + k) / M 2 = M 3 / M 2 + x1)) (M 0).toNat = z' → Q I2) ∧ (¬ cntB (fun k => decide (M (780 + k) / M 2 = M 3 / M 2 + x1)) (M 0).toNat = z' → False)) n (cntB (fun k => decide (M (780 + k) / M 2 = M 3 / M 2 + x1)) i) (i : Int) I) (M 0).toNat (fun n => ?_) (fun i n hi ih => ?_)
    · unfold L_M_day_18
      rw [hM]
      exact ⟨fun _ => fin rfl hst, fun q => by omega⟩
    · have r := cntB_rng (fun k => decide (M (780 + k) / M 2 = M 3 / M 2 + x1)) i
      have h3 := wf_h hW (i : Int) (by omega) (by omega)
      rw [cntB_s] at ih
      unfold L_M_day_18
      rw [hM]
      refine ⟨fun q => by omega, fun _ => ⟨by omega, by omega, by omega, by omega, fun q => ⟨by omega, by omega, ?_⟩, fun q => ⟨by omega, by omega, ?_⟩⟩⟩
      · rw [if_neg (by simpa using q)] at ih; exact ih
      · rw [if_pos (by simpa using q)] at ih; exact ih
  · have r := cntB_rng (fun k => decide (M (780 + k) / M 2 = M 3 / M 2 + x1)) i
    have h3 := wf_h hW (i : Int) (by omega) (by omega)
    rw [cntB_s] at ih
    unfold L_X_day_38 V_X_dayOf
    rw [n0, (hC.1.2.1.2 (i : Int) (by omega) (by omega)).2.2, n6]
    refine ⟨fun q => by omega, fun _ => ⟨by omega, fun _ => ⟨by omega, fun q => ⟨by omega, ?_⟩, fun q => ⟨by omega, by omega, ?_⟩⟩, fun w => by omega⟩⟩
    · rw [if_neg (by simpa using q), Int.add_zero] at ih; exact ih
    · rw [if_pos (by simpa using q)] at ih; exact ih
theorem o_free {G x1 x2 : Int} {I : Mm} {Q : Mm → Prop} (hI : Inv G I) (hG : G ≤ 2143000000) (hQ : ∀ I' : Mm, Inv (G + 3000000) I' → Q I') : V_X_free x1 x2 I (fun z I1 => V_M_free x1 x2 I1 (fun z' I2 => (z = z' → Q I2) ∧ (¬ z = z' → False))) := by
  obtain ⟨M, u, H, k, S, l, T, hC, hR, hA⟩ := hI
  have hst : Q I := hQ I ⟨M, u, H, k, S, l, T, hC, hR, aw_mono hA (by omega)⟩
  have hW := hA.1
  have b0 := hW.1.1
  have hM := hR.1
  unfold V_X_free V_M_free
  refine x_span (fun a a2 => ⟨fun w => absurd w (by decide), fun _ => x_hour (fun b b2 => ⟨fun _ => s_firstFree hC.1.2.1 hW ⟨a, a2⟩ ⟨b, b2⟩ ?_, fun w => absurd w (by decide)⟩) (fun q => ⟨fun w => absurd rfl w, fun _ => m_in (fun _ _ => ⟨fun w => absurd w (by decide), fun _ => m_in (fun c d => absurd ⟨c, d⟩ q) (fun _ => ⟨fun w => absurd rfl w, fun _ => fin rfl hst⟩)⟩) (fun q => absurd ⟨a, a2⟩ q)⟩)⟩) (fun q => ⟨fun _ => m_in (fun c d => absurd ⟨c, d⟩ q) (fun _ => ⟨fun _ => fin rfl hst, fun w => absurd rfl w⟩), fun w => absurd rfl w⟩)
  have fr := ff_rng hW x1 x2 ⟨b, b2⟩ (M 0).toNat (by omega)
  have ref : ∀ z : Int, (ffR M x1 x2 (M 0).toNat + x1 - 1 ≤ 999999999 → z = ffR M x1 x2 (M 0).toNat) → (999999999 < ffR M x1 x2 (M 0).toNat + x1 - 1 → z = -2) → V_M_in x1 1 999999999 I (fun z21 I22 => (z21 = 0 → (fun z' I2 => (z = z' → Q I2) ∧ (¬ z = z' → False)) (-1) I22) ∧
    (¬ z21 = 0 → V_M_in x2 0 999999999 I22 (fun z23 I24 => (¬ z23 = 0 → ∃ f37 : Nat, L_M_free_32 x1 x2 (fun z' I2 => (z = z' → Q I2) ∧ (¬ z = z' → False)) (fun y33 I34 => r64 ((y33 + x1) - 1) ∧ ((y33 + x1) - 1 ≤ 999999999 → r32 y33 ∧ (fun z' I2 => (z = z' → Q I2) ∧ (¬ z = z' → False)) y33 I34) ∧
    (999999999 < (y33 + x1) - 1 → (fun z' I2 => (z = z' → Q I2) ∧ (¬ z = z' → False)) (-2) I34)) f37 x2 0 I24) ∧
    (z23 = 0 → (fun z' I2 => (z = z' → Q I2) ∧ (¬ z = z' → False)) (-1) I24)))) := by
    intro z h1 h2
    refine m_in (fun _ _ => ⟨fun w => absurd w (by decide), fun _ => m_in (fun _ _ => ⟨fun _ => ?_, fun w => absurd w (by decide)⟩) (fun q => absurd ⟨b, b2⟩ q)⟩) (fun q => absurd ⟨a, a2⟩ q)
    refine lp (P := fun n i => L_M_free_32 x1 x2 _ _ n (ffR M x1 x2 i) (i : Int) I) (M 0).toNat (fun n => ?_) (fun i n hi ih => ?_)
    · unfold L_M_free_32
      rw [hM]
      exact ⟨fun _ => ⟨by omega, fun w => ⟨by omega, fin (h1 w) hst⟩, fun w => fin (h2 w) hst⟩, fun q => by omega⟩
    · have fi := ff_rng hW x1 x2 ⟨b, b2⟩ i (by omega)
      have h3 := wf_h hW (i : Int) (by omega) (by omega)
      have e : ffR M x1 x2 (i + 1) = if ffR M x1 x2 i ≤ M (780 + (i : Int)) ∧ M (780 + (i : Int)) < ffR M x1 x2 i + x1 then M (780 + (i : Int)) + 1 else ffR M x1 x2 i := rfl
      rw [e] at ih
      unfold L_M_free_32
      rw [hM]
      refine ⟨fun q => by omega, fun _ => ⟨by omega, by omega, fun q => ⟨by omega, ?_⟩, fun q => ⟨by omega, by omega, fun q2 => ⟨by omega, ?_⟩, fun q2 => ⟨by omega, by omega, ?_⟩⟩⟩⟩
      · rw [if_neg (by omega)] at ih; exact ih
      · rw [if_neg (by omega)] at ih; exact ih
      · rw [if_pos (by omega)] at ih; exact ih
  exact ⟨by omega, fun w => ref _ (fun _ => rfl) (fun h => by omega), fun w => ref _ (fun h => by omega) (fun _ => rfl)⟩
theorem m_gapAt {G p : Int} {I : Mm} {M : Rw} {Q : Int → Mm → Prop} (hM : I 237 = M) (hW : WF G M) (hp : 0 ≤ p ∧ p + 1 < M 0) (hQ : Q (gapR M p) I) : V_M_gapAt p I Q := by
  have b0 := hW.1.1
  have g := gap_rng hW p hp.1 hp.2
  unfold gapR at g hQ
  unfold V_M_gapAt
  rw [hM, show 780 + p + 1 = 780 + (p + 1) by omega]
  exact ⟨by omega, by omega, by omega, hQ⟩
theorem r_pair {G x1 : Int} {I : Mm} {M : Rw} {Q : Int → Mm → Prop} (hM : I 237 = M) (hW : WF G M) (e0 : ¬ (0 ≤ x1 ∧ x1 ≤ 1) → Q (-1) I) (e1 : (0 ≤ x1 ∧ x1 ≤ 1) → M 0 < 2 → Q (-2) I) (e2 : (0 ≤ x1 ∧ x1 ≤ 1) → 2 ≤ M 0 → x1 = 0 → Q (gapR M (garR M (M 0 - 2).toNat)) I) (e3 : (0 ≤ x1 ∧ x1 ≤ 1) → 2 ≤ M 0 → x1 ≠ 0 → Q (M (380 + garR M (M 0 - 2).toNat)) I) : V_M_pair x1 I Q := by
  have b0 := hW.1.1
  unfold V_M_pair
  refine m_in (fun a b => ⟨fun _ => ?_, fun w => absurd w (by decide)⟩) (fun q => ⟨fun w => absurd rfl w, fun _ => e0 q⟩)
  rw [hM]
  refine ⟨fun h => ?_, fun h => e1 ⟨a, b⟩ h⟩
  refine lp (P := fun n i => L_M_pair_29 x1 Q _ n (garR M i) ((i : Int) + 1) I) (M 0 - 2).toNat (fun n => ?_) (fun i n hi ih => ?_)
  · have g := gar_rng M (M 0 - 2).toNat
    unfold L_M_pair_29
    rw [hM]
    exact ⟨by omega, fun _ => ⟨fun w => ⟨by omega, e3 ⟨a, b⟩ h w⟩, fun w => m_gapAt hM hW (by omega) (e2 ⟨a, b⟩ h w)⟩, fun q => by omega⟩
  · have g := gar_rng M i
    have e : garR M (i + 1) = if gapR M ((i : Int) + 1) < gapR M (garR M i) then (i : Int) + 1 else garR M i := rfl
    rw [e] at ih
    unfold L_M_pair_29
    rw [hM]
    refine ⟨by omega, fun q => by omega, fun _ => m_gapAt hM hW (by omega) (m_gapAt hM hW (by omega) ⟨fun q => ⟨by omega, ?_⟩, fun q => ⟨by omega, ?_⟩⟩)⟩
    · rw [if_neg (by omega)] at ih; exact ih
    · rw [if_pos (by omega)] at ih; exact ih
theorem o_pair {G x1 : Int} {I : Mm} {Q : Mm → Prop} (hI : Inv G I) (hG : G ≤ 2143000000) (hQ : ∀ I' : Mm, Inv (G + 3000000) I' → Q I') : V_X_pair x1 I (fun z I1 => V_M_pair x1 I1 (fun z' I2 => (z = z' → Q I2) ∧ (¬ z = z' → False))) := by
  obtain ⟨M, u, H, k, S, l, T, hC, hR, hA⟩ := hI
  have hst : Q I := hQ I ⟨M, u, H, k, S, l, T, hC, hR, aw_mono hA (by omega)⟩
  have hW := hA.1
  have b0 := hW.1.1
  have hM := hR.1
  unfold V_X_pair
  refine ⟨fun q => r_pair hM hW (fun _ => fin rfl hst) (fun _ _ => by omega) (fun _ _ => by omega) (fun _ _ => by omega), fun a => ⟨fun b => s_closest hC.1.2.1 hW ?_, fun q => r_pair hM hW (fun _ => fin rfl hst) (fun _ _ => by omega) (fun _ _ => by omega) (fun _ _ => by omega)⟩⟩
  by_cases h : M 0 < 2
  · rw [if_pos h]
    exact ⟨fun w => absurd rfl w, fun _ => r_pair hM hW (fun _ => by omega) (fun _ _ => fin rfl hst) (fun _ _ => by omega) (fun _ _ => by omega)⟩
  · have g := gar_rng M (M 0 - 2).toNat
    rw [if_neg h, (hC.1.2.1.2 (garR M (M 0 - 2).toNat) (by omega) (by omega)).1]
    refine ⟨fun _ => ⟨fun w => ⟨by omega, r_pair hM hW (fun _ => by omega) (fun _ _ => by omega) (fun _ _ _ => by omega) (fun _ _ _ => fin rfl hst)⟩, fun w => s_gapBehind hC.1.2.1 hW ?_ (by omega)⟩, fun w => by omega⟩
    rw [if_pos (by omega)]
    exact r_pair hM hW (fun _ => by omega) (fun _ _ => by omega) (fun _ _ _ => fin rfl hst) (fun _ _ w => by omega)
theorem rmx_ge (f : Int → Int) : ∀ n j : Nat, j < n → f (j : Int) ≤ rmx f n
  | 0, j, h => absurd h (Nat.not_lt_zero j)
  | n + 1, j, h => by
    unfold rmx
    by_cases q : j = n
    · subst q; omega
    · have := rmx_ge f n j (by omega); omega
theorem rmx_le (f : Int → Int) (b : Int) (hb : 0 ≤ b) : ∀ n : Nat, (∀ k : Nat, k < n → f (k : Int) ≤ b) → rmx f n ≤ b
  | 0, _ => hb
  | n + 1, h => by
    have h1 := rmx_le f b hb n (fun k hk => h k (by omega))
    have h2 := h n (by omega)
    unfold rmx
    omega
theorem rmx_0 (f : Int → Int) : ∀ n : Nat, 0 ≤ rmx f n
  | 0 => Int.le_refl 0
  | n + 1 => by have := rmx_0 f n; unfold rmx; omega
theorem o_crowd {G x1 x2 : Int} {I : Mm} {Q : Mm → Prop} (hI : Inv G I) (hG : G ≤ 2143000000) (hQ : ∀ I' : Mm, Inv (G + 3000000) I' → Q I') : V_X_crowd x1 x2 I (fun z I1 => V_M_crowd x1 x2 I1 (fun z' I2 => (z = z' → Q I2) ∧ (¬ z = z' → False))) := by
  obtain ⟨M, u, H, k, S, l, T, hC, hR, hA⟩ := hI
  have hst : Q I := hQ I ⟨M, u, H, k, S, l, T, hC, hR, aw_mono hA (by omega)⟩
  have hW := hA.1
  have b0 := hW.1.1
  have hM := hR.1
  have refuse : ¬ ((1 ≤ x1 ∧ x1 ≤ 999999999) ∧ (0 ≤ x2 ∧ x2 ≤ 1)) → V_M_crowd x1 x2 I (fun z' I2 => ((-1 : Int) = z' → Q I2) ∧ (¬ (-1 : Int) = z' → False)) := fun q =>
    m_in (fun a b => ⟨fun w => absurd w (by decide), fun _ => m_in (fun c d => absurd ⟨⟨a, b⟩, c, d⟩ q) (fun _ => ⟨fun w => absurd rfl w, fun _ => fin rfl hst⟩)⟩) (fun _ => ⟨fun _ => fin rfl hst, fun w => absurd rfl w⟩)
  have ref : ∀ z : Int, (1 ≤ x1 ∧ x1 ≤ 999999999) → (0 ≤ x2 ∧ x2 ≤ 1) → (x2 = 0 → z = rmx (fwR M x1) (M 0).toNat) → (x2 ≠ 0 → z = rar (fwR M x1) (fun k => M (780 + k)) (-2) (M 0).toNat) → V_M_crowd x1 x2 I (fun z' I2 => (z = z' → Q I2) ∧ (¬ z = z' → False)) := by
    intro z hx1 hx2 h0 h1
    unfold V_M_crowd
    refine m_in (fun _ _ => ⟨fun w => absurd w (by decide), fun _ => m_in (fun _ _ => ⟨fun _ => ?_, fun w => absurd w (by decide)⟩) (fun q => absurd hx2 q)⟩) (fun q => absurd hx1 q)
    refine lp (P := fun n i => L_M_crowd_33 x1 x2 (fun z' I2 => (z = z' → Q I2) ∧ (¬ z = z' → False)) n (rmx (fwR M x1) i) (rar (fwR M x1) (fun k => M (780 + k)) (-2) i) (i : Int) I) (M 0).toNat (fun n => ?_) (fun i n hi ih => ?_)
    · unfold L_M_crowd_33
      rw [hM]
      exact ⟨fun _ => ⟨fun w => fin (h1 w) hst, fun w => fin (h0 w) hst⟩, fun q => by omega⟩
    · have h3 := wf_h hW (i : Int) (by omega) (by omega)
      have e1 : rmx (fwR M x1) (i + 1) = max (rmx (fwR M x1) i) (fwR M x1 (i : Int)) := rfl
      have e2 : rar (fwR M x1) (fun k => M (780 + k)) (-2) (i + 1) = if rmx (fwR M x1) i < fwR M x1 (i : Int) then M (780 + (i : Int)) else rar (fwR M x1) (fun k => M (780 + k)) (-2) i := rfl
      rw [e1, e2] at ih
      unfold L_M_crowd_33
      rw [hM]
      refine ⟨fun q => by omega, fun _ => ⟨by omega, by omega, by omega, m_dueIn hM hW (by omega) ?_⟩⟩
      rw [hM]
      obtain ⟨n1, n2, n3⟩ := nbR_is hW (M (780 + (i : Int)))
      have hi0 : nbR M (M (780 + (i : Int))) ≤ (i : Int) := by
        by_cases w : nbR M (M (780 + (i : Int))) ≤ (i : Int)
        · exact w
        · have := n2 (i : Int) (by omega) (by omega); omega
      have hf : fwR M x1 (i : Int) = nbR M (M (780 + (i : Int)) + x1) - (i : Int) := rfl
      by_cases q : nbR M (M (780 + (i : Int))) = (i : Int)
      · rw [q, ← hf]
        refine ⟨fun w => ⟨by omega, by omega, ?_⟩, fun w => ⟨by omega, ?_⟩⟩
        · rw [if_pos w, show max (rmx (fwR M x1) i) (fwR M x1 (i : Int)) = fwR M x1 (i : Int) by omega] at ih; exact ih
        · rw [if_neg (by omega), show max (rmx (fwR M x1) i) (fwR M x1 (i : Int)) = rmx (fwR M x1) i by omega] at ih; exact ih
      · obtain ⟨j, hj⟩ := nat_of n1.1
        have h4 := n3 (nbR M (M (780 + (i : Int)))) (Int.le_refl _) (by omega)
        have h5 := wf_s hW (nbR M (M (780 + (i : Int)))) (i : Int) n1.1 (by omega) (by omega)
        have he : M (780 + (j : Int)) = M (780 + (i : Int)) := by rw [← hj]; omega
        have hge := rmx_ge (fwR M x1) i j (by omega)
        have hfj : fwR M x1 (j : Int) = nbR M (M (780 + (i : Int)) + x1) - (j : Int) := by unfold fwR; rw [he]
        rw [hj]
        refine ⟨fun w => by omega, fun w => ⟨by omega, ?_⟩⟩
        rw [if_neg (by omega), show max (rmx (fwR M x1) i) (fwR M x1 (i : Int)) = rmx (fwR M x1) i by omega] at ih
        exact ih
  unfold V_X_crowd
  refine x_span (fun a a2 => ⟨fun w => absurd w (by decide), fun _ => ⟨fun q => refuse (by omega), fun b => ⟨fun c => s_mostWithin hC.1.2.1 hW ⟨a, a2⟩ (fun w => ref _ ⟨a, a2⟩ ⟨b, c⟩ (fun _ => rfl) (fun h => absurd w h)) (fun w => ref _ ⟨a, a2⟩ ⟨b, c⟩ (fun h => absurd h w) (fun _ => rfl)), fun q => refuse (by omega)⟩⟩⟩) (fun q => ⟨fun _ => refuse (by omega), fun w => absurd rfl w⟩)
