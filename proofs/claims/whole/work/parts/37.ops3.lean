/-! rule, unrule, resize, merge, cut, clear, swap, shift -/
theorem wf_add {G : Int} {M : Rw} (hW : WF G M) (h5 : M 5 < 12) {a b g : Int} (ha : 0 ≤ a ∧ a < M 4) (hb : 0 ≤ b ∧ b < M 4) (hg : 1 ≤ g ∧ g ≤ 999999) : WF G (addR M a b g) := by
  obtain ⟨⟨b0, b1, b2, b3, b4, b5, b6, b7, b8⟩, w1, w2, w3⟩ := hW
  have L : ∀ j : Int, j ≠ 5 → (j < 144 ∨ 180 ≤ j) → addR M a b g j = M j := fun j u v => by
    unfold addR; rw [if_neg u, if_neg (by omega), if_neg (by omega), if_neg (by omega)]
  have e5 : addR M a b g 5 = M 5 + 1 := by simp [addR]
  refine ⟨⟨by rw [L _ (by omega) (by omega)]; exact b0, by rw [L _ (by omega) (by omega)]; exact b1, by rw [L _ (by omega) (by omega)]; exact b2, by rw [L _ (by omega) (by omega)]; exact b3, by rw [L _ (by omega) (by omega)]; exact b4, by rw [e5]; omega, by rw [L _ (by omega) (by omega)]; exact b6, by rw [L _ (by omega) (by omega)]; exact b7, fun j p q => by rw [L j (by omega) (by omega)]; exact b8 j p q⟩, ?_, fun r p q => ?_, ?_⟩
  · exact wt_c w1 (L _ (by omega) (by omega)) (by rw [L _ (by omega) (by omega)]; exact Int.le_refl _) (by rw [L _ (by omega) (by omega)]; exact Int.le_refl _) (by rw [L _ (by omega) (by omega)]; exact Int.le_refl _) (fun j hj => L j (by omega) (by omega))
  · rw [e5] at q
    rw [L 4 (by omega) (by omega)]
    by_cases hr : r = M 5
    · subst hr
      have d1 : addR M a b g (144 + 3 * M 5) = a := by unfold addR; rw [if_neg (by omega), if_pos rfl]
      have d2 : addR M a b g (144 + 3 * M 5 + 1) = b := by unfold addR; rw [if_neg (by omega), if_neg (by omega), if_pos rfl]
      have d3 : addR M a b g (144 + 3 * M 5 + 2) = g := by unfold addR; rw [if_neg (by omega), if_neg (by omega), if_neg (by omega), if_pos rfl]
      rw [d1, d2, d3]
      exact ⟨ha, hb, hg⟩
    · have d : ∀ i : Int, 0 ≤ i → i < 3 → addR M a b g (144 + 3 * r + i) = M (144 + 3 * r + i) := fun i i0 i1 => by
        unfold addR; rw [if_neg (by omega), if_neg (by omega), if_neg (by omega), if_neg (by omega)]
      have d0 := d 0 (by omega) (by omega)
      rw [Int.add_zero] at d0
      rw [d0, d 1 (by omega) (by omega), d 2 (by omega) (by omega)]
      exact w2 r p (by omega)
  · exact wl_c w3 (L _ (by omega) (by omega)) b4 (fun j hj hj2 => L j (by omega) (by omega))
theorem wf_rmv {G : Int} {M : Rw} (hW : WF G M) {r : Int} (hr : 0 ≤ r ∧ r < M 5) : WF G (rmvR M r) := by
  obtain ⟨⟨b0, b1, b2, b3, b4, b5, b6, b7, b8⟩, w1, w2, w3⟩ := hW
  have L : ∀ j : Int, j ≠ 5 → (j < 144 ∨ 180 ≤ j) → rmvR M r j = M j := fun j u v => by
    unfold rmvR; rw [if_neg u, if_neg (by omega)]
  have e5 : rmvR M r 5 = M 5 - 1 := by simp [rmvR]
  refine ⟨⟨by rw [L _ (by omega) (by omega)]; exact b0, by rw [L _ (by omega) (by omega)]; exact b1, by rw [L _ (by omega) (by omega)]; exact b2, by rw [L _ (by omega) (by omega)]; exact b3, by rw [L _ (by omega) (by omega)]; exact b4, by rw [e5]; omega, by rw [L _ (by omega) (by omega)]; exact b6, by rw [L _ (by omega) (by omega)]; exact b7, fun j p q => by rw [L j (by omega) (by omega)]; exact b8 j p q⟩, ?_, fun i p q => ?_, ?_⟩
  · exact wt_c w1 (L _ (by omega) (by omega)) (by rw [L _ (by omega) (by omega)]; exact Int.le_refl _) (by rw [L _ (by omega) (by omega)]; exact Int.le_refl _) (by rw [L _ (by omega) (by omega)]; exact Int.le_refl _) (fun j hj => L j (by omega) (by omega))
  · rw [e5] at q
    rw [L 4 (by omega) (by omega)]
    by_cases h : i < r
    · have d : ∀ x : Int, 0 ≤ x → x < 3 → rmvR M r (144 + 3 * i + x) = M (144 + 3 * i + x) := fun x i0 i1 => by
        unfold rmvR; rw [if_neg (by omega), if_neg (by omega)]
      have d0 := d 0 (by omega) (by omega)
      rw [Int.add_zero] at d0
      rw [d0, d 1 (by omega) (by omega), d 2 (by omega) (by omega)]
      exact w2 i p (by omega)
    · have d : ∀ x : Int, 0 ≤ x → x < 3 → rmvR M r (144 + 3 * i + x) = M (144 + 3 * (i + 1) + x) := fun x i0 i1 => by
        unfold rmvR; rw [if_neg (by omega), if_pos (by omega)]; congr 1; omega
      have d0 := d 0 (by omega) (by omega)
      rw [Int.add_zero, Int.add_zero] at d0
      rw [d0, d 1 (by omega) (by omega), d 2 (by omega) (by omega)]
      exact w2 (i + 1) (by omega) (by omega)
  · exact wl_c w3 (L _ (by omega) (by omega)) b4 (fun j hj hj2 => L j (by omega) (by omega))
theorem m_adds {a b g : Int} {I : Mm} {M : Rw} {Q : Mm → Prop} (hM : I 237 = M) (h5 : 0 ≤ M 5 ∧ M 5 < 12) (hQ : Q (rset I (addR M a b g))) : V_M_adds a b g I Q := by
  unfold V_M_adds
  simp only [wr_rs, rs_237, rs_rs, hM]
  have e5 : stR (stR (stR M (144 + 3 * M 5) a) (144 + 3 * M 5 + 1) b) (144 + 3 * M 5 + 2) g 5 = M 5 := by
    rw [st_ne (by omega), st_ne (by omega), st_ne (by omega)]
  rw [e5]
  refine ⟨by omega, by omega, by omega, by omega, ?_⟩
  have e : stR (stR (stR (stR M (144 + 3 * M 5) a) (144 + 3 * M 5 + 1) b) (144 + 3 * M 5 + 2) g) 5 (M 5 + 1) = addR M a b g := by
    funext j
    unfold stR addR
    by_cases q5 : j = 5
    · rw [if_pos q5, if_pos q5]
    · rw [if_neg q5, if_neg q5]
      by_cases q2 : j = 144 + 3 * M 5 + 2
      · rw [if_pos q2, if_neg (by omega), if_neg (by omega), if_pos q2]
      · rw [if_neg q2]
        by_cases q1 : j = 144 + 3 * M 5 + 1
        · rw [if_pos q1, if_neg (by omega), if_pos q1]
        · rw [if_neg q1]
          by_cases q0 : j = 144 + 3 * M 5
          · rw [if_pos q0, if_pos q0]
          · rw [if_neg q0, if_neg q0, if_neg q1, if_neg q2]
  rw [e]
  exact hQ
theorem r_rule {x1 x2 x3 : Int} {I : Mm} {M : Rw} {Q : Int → Mm → Prop} (hM : I 237 = M) (h4 : 0 ≤ M 4 ∧ M 4 ≤ 16) (e1 : ¬ ((0 ≤ x1 ∧ x1 < M 4) ∧ (0 ≤ x2 ∧ x2 < M 4) ∧ (1 ≤ x3 ∧ x3 ≤ 999999)) → Q (-1) I) (e2 : (0 ≤ x1 ∧ x1 < M 4) ∧ (0 ≤ x2 ∧ x2 < M 4) ∧ (1 ≤ x3 ∧ x3 ≤ 999999) → M 5 = 12 → Q (-2) I) (e3 : (0 ≤ x1 ∧ x1 < M 4) ∧ (0 ≤ x2 ∧ x2 < M 4) ∧ (1 ≤ x3 ∧ x3 ≤ 999999) → ¬ M 5 = 12 → V_M_keepsAct I (fun I27 => V_M_adds x1 x2 x3 I27 (fun I28 => r32 (I28 237 5 - 1) ∧ Q (I28 237 5 - 1) I28))) : V_M_rule x1 x2 x3 I Q := by
  unfold V_M_rule
  exact m_isName hM h4 (fun a1 a2 => ⟨fun q => absurd q (by decide), fun _ => m_isName hM h4 (fun b1 b2 => ⟨fun q => absurd q (by decide), fun _ => m_in (fun c1 c2 => ⟨fun _ => by rw [hM]; exact ⟨fun q => e3 ⟨⟨a1, a2⟩, ⟨b1, b2⟩, c1, c2⟩ q, fun q => e2 ⟨⟨a1, a2⟩, ⟨b1, b2⟩, c1, c2⟩ q⟩, fun q => absurd q (by decide)⟩) (fun q => ⟨fun q => absurd rfl q, fun _ => e1 (by omega)⟩)⟩) (fun q => ⟨fun _ => e1 (by omega), fun q => absurd rfl q⟩)⟩) (fun q => ⟨fun _ => e1 (by omega), fun q => absurd rfl q⟩)
theorem o_rule {G x1 x2 x3 : Int} {I : Mm} {Q : Mm → Prop} (hI : Inv G I) (hG : G ≤ 2143000000) (hQ : ∀ I' : Mm, Inv (G + 3000000) I' → Q I') : V_X_rule x1 x2 x3 I (fun z I1 => V_M_rule x1 x2 x3 I1 (fun z' I2 => (z = z' → Q I2) ∧ (¬ z = z' → False))) := by
  obtain ⟨M, u, H, k, S, l, T, hC, hR, hA⟩ := hI
  have hst : Q I := hQ I ⟨M, u, H, k, S, l, T, hC, hR, aw_mono hA (by omega)⟩
  have hW := hA.1
  have b4 := hW.1.2.2.2.2.1
  have b5 := hW.1.2.2.2.2.2.1
  have hu := hC.2.1.2.1
  have n4 : I (1 + 1) 0 = M 4 := hC.1.1.1
  have n5 : I (1 + 9) 0 = M 5 := hC.1.2.2.1.1
  have hM := hR.1
  have refuse : ¬ ((0 ≤ x1 ∧ x1 < M 4) ∧ (0 ≤ x2 ∧ x2 < M 4) ∧ (1 ≤ x3 ∧ x3 ≤ 999999)) → V_M_rule x1 x2 x3 I (fun z' I2 => ((-1 : Int) = z' → Q I2) ∧ (¬ (-1 : Int) = z' → False)) := fun q => r_rule hM b4 (fun _ => fin rfl hst) (fun w => absurd w q) (fun w => absurd w q)
  unfold V_X_rule
  refine s_nmHas (fun a1 a2 => ⟨fun q => absurd q (by decide), fun _ => s_nmHas (fun c1 c2 => ⟨fun q => absurd q (by decide), fun _ => x_gap (fun d1 d2 => ⟨fun _ => ?_, fun q => absurd q (by decide)⟩) (fun q => ⟨fun q => absurd rfl q, fun _ => refuse (by omega)⟩)⟩) (fun q => ⟨fun _ => refuse (by omega), fun q => absurd rfl q⟩)⟩) (fun q => ⟨fun _ => refuse (by omega), fun q => absurd rfl q⟩)
  rw [n4] at a2 c2
  have hall : (0 ≤ x1 ∧ x1 < M 4) ∧ (0 ≤ x2 ∧ x2 < M 4) ∧ (1 ≤ x3 ∧ x3 ≤ 999999) := ⟨⟨a1, a2⟩, ⟨c1, c2⟩, d1, d2⟩
  rw [n5]
  refine ⟨fun e => ?_, fun e => r_rule hM b4 (fun w => absurd hall w) (fun _ _ => fin rfl hst) (fun _ w => by omega)⟩
  refine x_rem hC hA (fun I1 C1 F1 => s_ruAdd C1.1.2.2.1 ⟨b5.1, e⟩ (fun I2 T2 F2 => ?_))
  obtain ⟨R2, FF2⟩ := rep_ru C1.1 (wf_b hW) T2 F2 (fun j hj => by unfold addR; rw [if_neg (by omega), if_neg (by omega), if_neg (by omega), if_neg (by omega)])
  have hR2 := rs_fr2 hR (I' := I2) (fun a ha => by rw [FF2 a (by omega), F1 a (by omega)])
  refine r_rule hR2.1 b4 (fun w => absurd hall w) (fun _ w => by omega) (fun _ _ => m_keepsAct hR2 hu (fun I3 S3 F3 => m_adds S3.1 ⟨b5.1, e⟩ ?_))
  have e5 : rset I3 (addR M x1 x2 x3) 237 5 = M 5 + 1 := by rw [rs_237]; simp [addR]
  rw [e5]
  exact ⟨by omega, fin (by omega) (hQ _ (act_set hA hu (by omega) (wf_mono (wf_add hW e hall.1 hall.2.1 hall.2.2) (by omega)) C1 R2 FF2 S3 F3))⟩
theorem m_unruleLoop {x1 : Int} {I : Mm} {M : Rw} {Q : Int → Mm → Prop} (hM : I 237 = M) (h5 : 0 ≤ M 5 ∧ M 5 ≤ 12) (hx : 0 ≤ x1 ∧ x1 < M 5) (hQ : Q (M 5 - 1) (rset I (rmvR M x1))) : r32 (I 237 5 - 1) ∧ r32 (144 + (3 * x1)) ∧ ∃ f32 : Nat, L_M_unrule_32 x1 Q f32 (144 + (3 * x1)) (wrM I 237 5 (I 237 5 - 1)) := by
  rw [wr_rs, hM]
  refine ⟨by omega, by omega, ?_⟩
  obtain ⟨s, hs⟩ := nat_of (show 0 ≤ 144 + 3 * x1 by omega)
  have e0 : stR M 5 (M 5 - 1) = (fun j => if j = 5 then M 5 - 1 else if 144 + 3 * x1 ≤ j ∧ j < (s : Int) then M (j + 3) else M j : Rw) := by
    funext j
    unfold stR
    by_cases q : j = 5
    · rw [if_pos q, if_pos q]
    · rw [if_neg q, if_neg q, if_neg (by omega)]
  rw [e0, hs]
  refine lpu (P := fun f i => L_M_unrule_32 x1 Q f (i : Int) (rset I (fun j => if j = 5 then M 5 - 1 else if (s : Int) ≤ j ∧ j < (i : Int) then M (j + 3) else M j))) s (144 + 3 * (M 5 - 1)).toNat (by omega) (fun f => ?_) (fun i f hi1 hi2 ih => ?_)
  · simp only [L_M_unrule_32, rs_237]
    have ed : (fun j => if j = 5 then M 5 - 1 else if (s : Int) ≤ j ∧ j < (((144 + 3 * (M 5 - 1)).toNat : Nat) : Int) then M (j + 3) else M j : Rw) = rmvR M x1 := by
      funext j
      unfold rmvR
      rw [show (((144 + 3 * (M 5 - 1)).toNat : Nat) : Int) = 144 + 3 * (M 5 - 1) by omega, hs]
    rw [ed]
    simp only [if_true]
    exact ⟨by omega, fun _ => hQ, fun q => by omega⟩
  · simp only [L_M_unrule_32, rs_237, wr_rs, rs_rs, if_true]
    refine ⟨by omega, fun q => by omega, fun _ => ⟨by omega, by omega, by omega, ?_⟩⟩
    refine (show ∀ (A B : Rw) (x y : Int), A = B → x = y → L_M_unrule_32 x1 Q f x (rset I A) → L_M_unrule_32 x1 Q f y (rset I B) from fun A B x y h h2 g => by rw [← h, ← h2]; exact g) _ _ _ _ ?_ (by omega) ih
    funext j
    unfold stR
    dsimp only
    by_cases q : j = (i : Int)
    · subst q
      rw [if_pos rfl, if_neg (by omega), if_pos (by omega), if_neg (by omega), if_neg (by omega)]
    · rw [if_neg q]
      by_cases q5 : j = 5
      · rw [if_pos q5, if_pos q5]
      · rw [if_neg q5, if_neg q5]
        by_cases q2 : (s : Int) ≤ j ∧ j < (i : Int)
        · rw [if_pos q2, if_pos (by omega)]
        · rw [if_neg q2, if_neg (by omega)]
theorem o_unrule {G x1 : Int} {I : Mm} {Q : Mm → Prop} (hI : Inv G I) (hG : G ≤ 2143000000) (hQ : ∀ I' : Mm, Inv (G + 3000000) I' → Q I') : V_X_unrule x1 I (fun z I1 => V_M_unrule x1 I1 (fun z' I2 => (z = z' → Q I2) ∧ (¬ z = z' → False))) := by
  obtain ⟨M, u, H, k, S, l, T, hC, hR, hA⟩ := hI
  have hst : Q I := hQ I ⟨M, u, H, k, S, l, T, hC, hR, aw_mono hA (by omega)⟩
  have hW := hA.1
  have b5 := hW.1.2.2.2.2.2.1
  have hu := hC.2.1.2.1
  have n5 : I (1 + 9) 0 = M 5 := hC.1.2.2.1.1
  have hM := hR.1
  unfold V_X_unrule V_M_unrule
  refine s_ruHas (fun a1 a2 => ⟨fun _ => ?_, fun q => absurd q (by decide)⟩) (fun q => ⟨fun q => absurd rfl q, fun _ => m_isRule hM b5 (fun a b => absurd ⟨a, by rw [n5]; exact b⟩ q) (fun _ => ⟨fun q => absurd rfl q, fun _ => fin rfl hst⟩)⟩)
  rw [n5] at a2
  refine x_rem hC hA (fun I1 C1 F1 => s_ruRemove C1.1.2.2.1 b5 ⟨a1, a2⟩ (fun I2 T2 F2 => ?_))
  obtain ⟨R2, FF2⟩ := rep_ru C1.1 (wf_b hW) T2 F2 (fun j hj => by unfold rmvR; rw [if_neg (by omega), if_neg (by omega)])
  have hR2 := rs_fr2 hR (I' := I2) (fun a ha => by rw [FF2 a (by omega), F1 a (by omega)])
  have e5 : I2 (1 + 9) 0 = M 5 - 1 := by
    have := T2.1
    rw [this]; simp [rmvR]
  refine m_isRule hR2.1 b5 (fun _ _ => ⟨fun _ => m_keepsAct hR2 hu (fun I3 S3 F3 => m_unruleLoop S3.1 b5 ⟨a1, a2⟩ (fin e5 (hQ _ (act_set hA hu (by omega) (wf_mono (wf_rmv hW ⟨a1, a2⟩) (by omega)) C1 R2 FF2 S3 F3)))), fun q => absurd q (by decide)⟩) (fun q => absurd ⟨a1, a2⟩ q)
theorem r_resize {x1 x2 : Int} {I : Mm} {M : Rw} {Q : Int → Mm → Prop} (hM : I 237 = M) (e1 : ¬ (rw6 x1 ∧ (1 ≤ x2 ∧ x2 ≤ 99999999)) → Q (-1) I) (e2 : rw6 x1 → (1 ≤ x2 ∧ x2 ≤ 99999999) → (M 1 = x1 ∧ M 2 = x2) → Q (-2) I) (e3 : rw6 x1 → (1 ≤ x2 ∧ x2 ≤ 99999999) → ¬ (M 1 = x1 ∧ M 2 = x2) → V_M_keepsAct I (fun I25 => V_M_resizes x1 x2 I25 (fun I26 => Q (M 1) I26))) : V_M_resize x1 x2 I Q := by
  unfold V_M_resize J_M_resize_46
  exact m_areRows (fun a => ⟨fun q => absurd q (by decide), fun _ => m_in (fun c1 c2 => ⟨fun _ => by rw [hM]; exact ⟨fun q => e3 a ⟨c1, c2⟩ (fun w => q w.1), fun q => ⟨fun q2 => e3 a ⟨c1, c2⟩ (fun w => q2 w.2), fun q2 => e2 a ⟨c1, c2⟩ ⟨q, q2⟩⟩⟩, fun q => absurd q (by decide)⟩) (fun q => ⟨fun q => absurd rfl q, fun _ => e1 (fun w => q w.2)⟩)⟩) (fun q => ⟨fun _ => e1 (fun w => q w.1), fun q => absurd rfl q⟩)
theorem m_resizes {G x1 x2 : Int} {I : Mm} {M : Rw} {Q : Mm → Prop} (hM : I 237 = M) (hW : WF G M) (hG : G ≤ 2147400000) (hne : ¬ (M 1 = x1 ∧ M 2 = x2)) (hQ : Q (rset I (layR M x1 x2))) : V_M_resizes x1 x2 I Q := by
  have b0 := hW.1.1
  have b9 := hW.1.2.2.2.2.2.2.2.2 9 (by omega) (by omega)
  have hJ : J_M_resizes_21 x1 x2 Q I := by
    unfold J_M_resizes_21
    simp only [wr_rs, rs_237, rs_rs, hM]
    have e9 : stR (stR M 1 x1) 2 x2 9 = M 9 := by rw [st_ne (by omega), st_ne (by omega)]
    have e0 : stR (stR M 1 x1) 2 x2 0 = M 0 := by rw [st_ne (by omega), st_ne (by omega)]
    rw [e9, e0]
    have e : stR (stR (stR M 1 x1) 2 x2) 9 (M 9 + M 0) = layR M x1 x2 := by
      funext j
      unfold stR layR
      grind
    rw [e]
    exact ⟨by omega, hQ⟩
  unfold V_M_resizes
  rw [hM]
  exact ⟨fun _ => hJ, fun q => ⟨fun _ => hJ, fun q2 => absurd ⟨q, q2⟩ hne⟩⟩
theorem o_resize {G x1 x2 : Int} {I : Mm} {Q : Mm → Prop} (hI : Inv G I) (hG : G ≤ 2143000000) (hQ : ∀ I' : Mm, Inv (G + 3000000) I' → Q I') : V_X_resize x1 x2 I (fun z I1 => V_M_resize x1 x2 I1 (fun z' I2 => (z = z' → Q I2) ∧ (¬ z = z' → False))) := by
  obtain ⟨M, u, H, k, S, l, T, hC, hR, hA⟩ := hI
  have hst : Q I := hQ I ⟨M, u, H, k, S, l, T, hC, hR, aw_mono hA (by omega)⟩
  have hW := hA.1
  have b0 := hW.1.1
  have b9 := hW.1.2.2.2.2.2.2.2.2 9 (by omega) (by omega)
  have hu := hC.2.1.2.1
  have n5 : I 1 5 = M 1 := hC.1.2.2.2.2.2.1
  have n6 : I 1 6 = M 2 := hC.1.2.2.2.2.2.2.1
  have hM := hR.1
  have refuse : ¬ (rw6 x1 ∧ (1 ≤ x2 ∧ x2 ≤ 99999999)) → V_M_resize x1 x2 I (fun z' I2 => ((-1 : Int) = z' → Q I2) ∧ (¬ (-1 : Int) = z' → False)) := fun q => r_resize hM (fun _ => fin rfl hst) (fun w w2 => absurd ⟨w, w2⟩ q) (fun w w2 => absurd ⟨w, w2⟩ q)
  unfold V_X_resize
  refine x_rows (fun a => ⟨fun q => absurd q (by decide), fun _ => x_width (fun c1 c2 => ⟨fun _ => ?_, fun q => absurd q (by decide)⟩) (fun q => ⟨fun q => absurd rfl q, fun _ => refuse (fun w => q w.2)⟩)⟩) (fun q => ⟨fun _ => refuse (fun w => q w.1), fun q => absurd rfl q⟩)
  rw [n5, n6]
  have hJ : ¬ (M 1 = x1 ∧ M 2 = x2) → J_X_resize_43 x1 x2 (fun z I1 => V_M_resize x1 x2 I1 (fun z' I2 => (z = z' → Q I2) ∧ (¬ z = z' → False))) (M 1) I := by
    intro hne
    unfold J_X_resize_43
    refine x_rem hC hA (fun I1 C1 F1 => s_caLay C1.1 (wf_b hW) (by omega) (fun I2 R2 F2 => ?_))
    have hR2 := rs_fr2 hR (I' := I2) (fun a ha => by rw [F2 a (by omega), F1 a (by omega)])
    exact r_resize hR2.1 (fun w => absurd ⟨a, c1, c2⟩ w) (fun _ _ w => absurd w hne) (fun _ _ _ => m_keepsAct hR2 hu (fun I3 S3 F3 => m_resizes S3.1 hW (by omega) hne (fin rfl (hQ _ (act_set hA hu (by omega) (wf_mono (wf_lay hW a ⟨c1, c2⟩) (by omega)) C1 R2 F2 S3 F3)))))
  exact ⟨fun q => hJ (fun w => q w.1.symm), fun q => ⟨fun q2 => hJ (fun w => q2 w.2.symm), fun q2 => r_resize hM (fun w => absurd ⟨a, c1, c2⟩ w) (fun _ _ _ => fin rfl hst) (fun _ _ w => absurd ⟨q.symm, q2.symm⟩ w)⟩⟩
theorem wf_ren {G : Int} {M : Rw} (hW : WF G M) {a b : Int} (hb : 0 ≤ b ∧ b < M 4) : WF G (renR M a b) := by
  obtain ⟨⟨b0, b1, b2, b3, b4, b5, b6, b7, b8⟩, ⟨w1, w11, w12⟩, w2, w3⟩ := hW
  have L : ∀ j : Int, ¬ (580 ≤ j ∧ j < 580 + M 0) → renR M a b j = M j := fun j u => by
    unfold renR; rw [if_neg (by omega)]
  refine ⟨⟨by rw [L _ (by omega)]; exact b0, by rw [L _ (by omega)]; exact b1, by rw [L _ (by omega)]; exact b2, by rw [L _ (by omega)]; exact b3, by rw [L _ (by omega)]; exact b4, by rw [L _ (by omega)]; exact b5, by rw [L _ (by omega)]; exact b6, by rw [L _ (by omega)]; exact b7, fun j p q => by rw [L j (by omega)]; exact b8 j p q⟩, ⟨fun k p q => ?_, fun i j p q r => ?_, fun i j p q r => ?_⟩, ?_, ?_⟩
  · rw [L 0 (by omega)] at q
    have := w1 k p q
    rw [L (380 + k) (by omega), L (780 + k) (by omega), L 6 (by omega), L 4 (by omega), L 3 (by omega)]
    refine ⟨this.1, ?_, this.2.2⟩
    unfold renR
    split
    · exact hb
    · exact this.2.1
  · rw [L 0 (by omega)] at r
    rw [L (780 + i) (by omega), L (780 + j) (by omega), L (380 + i) (by omega), L (380 + j) (by omega)]
    exact w11 i j p q r
  · rw [L 0 (by omega)] at r
    rw [L (380 + i) (by omega), L (380 + j) (by omega)]
    exact w12 i j p q r
  · exact wr_c w2 (L _ (by omega)) b5.2 (by rw [L _ (by omega)]; exact Int.le_refl _) (fun j hj hj2 => L j (by omega))
  · exact wl_c w3 (L _ (by omega)) b4 (fun j hj hj2 => L j (by omega))
theorem m_mergeLoop {x1 x2 z : Int} {I : Mm} {M : Rw} {Q : Int → Mm → Prop} (hM : I 237 = M) (h0 : 0 ≤ M 0 ∧ M 0 ≤ 200) (hQ : Q z (rset I (renR M x1 x2))) : ∃ f, L_M_merge_43 x1 x2 z Q f 0 I := by
  have hI : I = rset I (fun j => if 580 ≤ j ∧ j < 580 + ((0 : Nat) : Int) ∧ M j = x1 then x2 else M j) := by
    have : (fun j => if 580 ≤ j ∧ j < 580 + ((0 : Nat) : Int) ∧ M j = x1 then x2 else M j : Rw) = M := by
      funext j
      rw [if_neg (by omega)]
    rw [this, ← hM]
    exact (rs_id I).symm
  rw [hI]
  refine lp (P := fun f i => L_M_merge_43 x1 x2 z Q f (i : Int) (rset I (fun j => if 580 ≤ j ∧ j < 580 + (i : Int) ∧ M j = x1 then x2 else M j))) (M 0).toNat (fun f => ?_) (fun i f hi ih => ?_)
  · have e : (fun j => if 580 ≤ j ∧ j < 580 + (((M 0).toNat : Nat) : Int) ∧ M j = x1 then x2 else M j : Rw) = renR M x1 x2 := by
      funext j
      unfold renR
      rw [show (((M 0).toNat : Nat) : Int) = M 0 by omega]
    simp only [L_M_merge_43]
    rw [e, rs_237]
    have e0 : renR M x1 x2 0 = M 0 := by unfold renR; rw [if_neg (by omega)]
    rw [e0]
    exact ⟨fun _ => hQ, fun q => by omega⟩
  · simp only [L_M_merge_43, rs_237, wr_rs, rs_rs]
    have d0 : (if 580 ≤ (0 : Int) ∧ (0 : Int) < 580 + (i : Int) ∧ M 0 = x1 then x2 else M 0) = M 0 := by rw [if_neg (by omega)]
    have d1 : (if 580 ≤ 580 + (i : Int) ∧ 580 + (i : Int) < 580 + (i : Int) ∧ M (580 + (i : Int)) = x1 then x2 else M (580 + (i : Int))) = M (580 + (i : Int)) := by rw [if_neg (by omega)]
    rw [d0, d1]
    refine ⟨fun q => by omega, fun _ => ⟨by omega, fun q => ⟨by omega, ?_⟩, fun q => ⟨by omega, by omega, ?_⟩⟩⟩
    · refine (show ∀ (A B : Rw) (x y : Int), A = B → x = y → L_M_merge_43 x1 x2 z Q f x (rset I A) → L_M_merge_43 x1 x2 z Q f y (rset I B) from fun A B x y h h2 g => by rw [← h, ← h2]; exact g) _ _ _ _ ?_ (by omega) ih
      funext j
      by_cases q2 : j = 580 + (i : Int)
      · subst q2; rw [if_neg (fun w => q w.2.2), if_neg (by omega)]
      · by_cases q3 : 580 ≤ j ∧ j < 580 + (i : Int) ∧ M j = x1
        · rw [if_pos q3, if_pos (by omega)]
        · rw [if_neg q3, if_neg (by omega)]
    · refine (show ∀ (A B : Rw) (x y : Int), A = B → x = y → L_M_merge_43 x1 x2 z Q f x (rset I A) → L_M_merge_43 x1 x2 z Q f y (rset I B) from fun A B x y h h2 g => by rw [← h, ← h2]; exact g) _ _ _ _ ?_ (by omega) ih
      funext j
      unfold stR
      dsimp only
      by_cases q2 : j = 580 + (i : Int)
      · subst q2; rw [if_pos rfl, if_pos (by omega)]
      · rw [if_neg q2]
        by_cases q3 : 580 ≤ j ∧ j < 580 + (i : Int) ∧ M j = x1
        · rw [if_pos q3, if_pos (by omega)]
        · rw [if_neg q3, if_neg (by omega)]
theorem r_merge {x1 x2 : Int} {I : Mm} {M : Rw} {Q : Int → Mm → Prop} (hM : I 237 = M) (h4 : 0 ≤ M 4 ∧ M 4 ≤ 16) (h0 : 0 ≤ M 0 ∧ M 0 ≤ 200) (e1 : ¬ ((0 ≤ x1 ∧ x1 < M 4) ∧ (0 ≤ x2 ∧ x2 < M 4) ∧ ¬ x1 = x2) → Q (-1) I) (e2 : (0 ≤ x1 ∧ x1 < M 4) ∧ (0 ≤ x2 ∧ x2 < M 4) ∧ ¬ x1 = x2 → cnmR M x1 = 0 → Q (-2) I) (e3 : (0 ≤ x1 ∧ x1 < M 4) ∧ (0 ≤ x2 ∧ x2 < M 4) ∧ ¬ x1 = x2 → ¬ cnmR M x1 = 0 → V_M_keepsAct I (fun I27 => ∃ f33 : Nat, L_M_merge_43 x1 x2 (cnmR M x1) Q f33 0 I27)) : V_M_merge x1 x2 I Q := by
  unfold V_M_merge
  exact m_isName hM h4 (fun a1 a2 => ⟨fun q => absurd q (by decide), fun _ => m_isName hM h4 (fun b1 b2 => ⟨fun q => absurd q (by decide), fun _ => ⟨fun q => m_waiting hM h0 ⟨fun q2 => e3 ⟨⟨a1, a2⟩, ⟨b1, b2⟩, q⟩ q2, fun q2 => e2 ⟨⟨a1, a2⟩, ⟨b1, b2⟩, q⟩ q2⟩, fun q => e1 (fun w => w.2.2 q)⟩⟩) (fun q => ⟨fun _ => e1 (fun w => q w.2.1), fun q => absurd rfl q⟩)⟩) (fun q => ⟨fun _ => e1 (fun w => q w.1), fun q => absurd rfl q⟩)
theorem o_merge {G x1 x2 : Int} {I : Mm} {Q : Mm → Prop} (hI : Inv G I) (hG : G ≤ 2143000000) (hQ : ∀ I' : Mm, Inv (G + 3000000) I' → Q I') : V_X_merge x1 x2 I (fun z I1 => V_M_merge x1 x2 I1 (fun z' I2 => (z = z' → Q I2) ∧ (¬ z = z' → False))) := by
  obtain ⟨M, u, H, k, S, l, T, hC, hR, hA⟩ := hI
  have hst : Q I := hQ I ⟨M, u, H, k, S, l, T, hC, hR, aw_mono hA (by omega)⟩
  have hW := hA.1
  have b0 := hW.1.1
  have b4 := hW.1.2.2.2.2.1
  have hu := hC.2.1.2.1
  have n4 : I (1 + 1) 0 = M 4 := hC.1.1.1
  have hM := hR.1
  have refuse : ¬ ((0 ≤ x1 ∧ x1 < M 4) ∧ (0 ≤ x2 ∧ x2 < M 4) ∧ ¬ x1 = x2) → V_M_merge x1 x2 I (fun z' I2 => ((-1 : Int) = z' → Q I2) ∧ (¬ (-1 : Int) = z' → False)) := fun q => r_merge hM b4 b0 (fun _ => fin rfl hst) (fun w => absurd w q) (fun w => absurd w q)
  unfold V_X_merge
  refine s_nmHas (fun a1 a2 => ⟨fun q => absurd q (by decide), fun _ => s_nmHas (fun c1 c2 => ⟨fun q => absurd q (by decide), fun _ => ⟨fun q => ?_, fun q => refuse (fun w => w.2.2 q)⟩⟩) (fun q => ⟨fun _ => refuse (fun w => q (by rw [n4]; exact w.2.1)), fun q => absurd rfl q⟩)⟩) (fun q => ⟨fun _ => refuse (fun w => q (by rw [n4]; exact w.1)), fun q => absurd rfl q⟩)
  rw [n4] at a2 c2
  have hall : (0 ≤ x1 ∧ x1 < M 4) ∧ (0 ≤ x2 ∧ x2 < M 4) ∧ ¬ x1 = x2 := ⟨⟨a1, a2⟩, ⟨c1, c2⟩, q⟩
  refine s_countOf hC.1.2.1 b0 ⟨fun e => ?_, fun e => r_merge hM b4 b0 (fun w => absurd hall w) (fun _ _ => fin rfl hst) (fun _ w => absurd e w)⟩
  refine x_rem hC hA (fun I1 C1 F1 => s_rename C1.1.2.1 b0 q (fun I2 T2 F2 => ?_))
  obtain ⟨R2, FF2⟩ := rep_th C1.1 (wf_b hW) T2 F2 (fun j u v => by unfold renR; rw [if_neg (by omega)])
  have hR2 := rs_fr2 hR (I' := I2) (fun a ha => by rw [FF2 a (by omega), F1 a (by omega)])
  exact r_merge hR2.1 b4 b0 (fun w => absurd hall w) (fun _ w => absurd w e) (fun _ _ => m_keepsAct hR2 hu (fun I3 S3 F3 => m_mergeLoop S3.1 b0 (fin rfl (hQ _ (act_set hA hu (by omega) (wf_mono (wf_ren hW hall.2.1) (by omega)) C1 R2 FF2 S3 F3)))))
