/-! swap, shift, undo, keep, back, feed, end -/
theorem com_ok {G : Int} {M : Rw} (hW : WF G M) {num nam due : Int} (h0 : M 0 < 200) (hn : 0 ≤ num ∧ num < M 6) (hin : ¬ inN M num) (hnam : 0 ≤ nam ∧ nam < M 4) (hdue : M 3 ≤ due ∧ due ≤ 999999999) : WF (G + 201) (comR M num nam due) ∧ comR M num nam due 0 = M 0 + 1 ∧ comR M num nam due 3 = M 3 ∧ comR M num nam due 4 = M 4 ∧ comR M num nam due 6 = M 6 := by
  refine ⟨wf_com hW h0 hn (not_in hin) hnam hdue, com_0, com_lo (by omega) (by omega), com_lo (by omega) (by omega), com_lo (by omega) (by omega)⟩
def swpR (M : Rw) (x1 x2 : Int) : Rw :=
  comR (comR (goeR (goeR M (plcR M x1)) (plcR (goeR M (plcR M x1)) x2)) x1 (M (580 + plcR M x1)) (M (780 + plcR M x2))) x2 (M (580 + plcR M x2)) (M (780 + plcR M x1))
theorem r_swap {x1 x2 : Int} {I : Mm} {M : Rw} {Q : Int → Mm → Prop} (hM : I 237 = M) (h0 : 0 ≤ M 0 ∧ M 0 ≤ 200) (e1 : (plcR M x1 = -1 ∨ plcR M x2 = -1 ∨ plcR M x1 = plcR M x2) → Q (-1) I) (e2 : plcR M x1 ≠ -1 → plcR M x2 ≠ -1 → plcR M x1 ≠ plcR M x2 → M (780 + plcR M x1) = M (780 + plcR M x2) → Q (-2) I) (e3 : plcR M x1 ≠ -1 → plcR M x2 ≠ -1 → plcR M x1 ≠ plcR M x2 → ¬ M (780 + plcR M x1) = M (780 + plcR M x2) → V_M_keepsAct I (fun I29 => V_M_leaves (plcR M x1) I29 (fun I30 => V_M_placeOf x2 I30 (fun z31 I32 => V_M_leaves z31 I32 (fun I33 => V_M_comes x1 (M (580 + plcR M x1)) (M (780 + plcR M x2)) I33 (fun I34 => V_M_comes x2 (M (580 + plcR M x2)) (M (780 + plcR M x1)) I34 (fun I35 => Q 1 I35))))))) : V_M_swap x1 x2 I Q := by
  have p1 := @plc_neg M x1
  have p2 := @plc_neg M x2
  unfold V_M_swap
  refine m_placeOf hM h0 (m_placeOf hM h0 ⟨fun q => e1 (by omega), fun q => ⟨fun q2 => e1 (by omega), fun q2 => ⟨fun q3 => ?_, fun q3 => e1 (by omega)⟩⟩⟩)
  have r1 := (plc_rng (M := M) (num := x1) (by omega)).1
  have r2 := (plc_rng (M := M) (num := x2) (by omega)).1
  rw [hM]
  exact ⟨by omega, by omega, fun q4 => ⟨by omega, by omega, e3 (by omega) (by omega) q3 q4⟩, fun q4 => e2 (by omega) (by omega) q3 q4⟩
theorem o_swap {G x1 x2 : Int} {I : Mm} {Q : Mm → Prop} (hI : Inv G I) (hG : G ≤ 2143000000) (hQ : ∀ I' : Mm, Inv (G + 3000000) I' → Q I') : V_X_swap x1 x2 I (fun z I1 => V_M_swap x1 x2 I1 (fun z' I2 => (z = z' → Q I2) ∧ (¬ z = z' → False))) := by
  obtain ⟨M, u, H, k, S, l, T, hC, hR, hA⟩ := hI
  have hst : Q I := hQ I ⟨M, u, H, k, S, l, T, hC, hR, aw_mono hA (by omega)⟩
  have hW := hA.1
  have b0 := hW.1.1
  have hu := hC.2.1.2.1
  have hM := hR.1
  have refuse : (plcR M x1 = -1 ∨ plcR M x2 = -1 ∨ plcR M x1 = plcR M x2) → V_M_swap x1 x2 I (fun z' I2 => ((-1 : Int) = z' → Q I2) ∧ (¬ (-1 : Int) = z' → False)) := fun q => r_swap hM b0 (fun _ => fin rfl hst) (fun _ _ _ => by omega) (fun _ _ _ => by omega)
  unfold V_X_swap
  refine s_placeOf hC.1.2.1 b0 (s_placeOf hC.1.2.1 b0 ⟨fun q => refuse (.inl q), fun q => ⟨fun q2 => refuse (.inr (.inl q2)), fun q2 => ⟨fun q3 => ?_, fun q3 => refuse (.inr (.inr q3))⟩⟩⟩)
  obtain ⟨p1, p2⟩ := plc_rng q
  obtain ⟨p3, p4⟩ := plc_rng q2
  obtain ⟨k1, k2, k3⟩ := hC.1.2.1.2 _ p1.1 p1.2
  obtain ⟨j1, j2, j3⟩ := hC.1.2.1.2 _ p3.1 p3.2
  rw [k3, j3, k2, j2]
  refine ⟨by omega, by omega, fun q4 => ⟨by omega, by omega, ?_⟩, fun q4 => r_swap hM b0 (fun w => by omega) (fun _ _ _ _ => fin rfl hst) (fun _ _ _ w => absurd q4 w)⟩
  have w1 := hW.2.1.1 _ p1.1 p1.2
  have w2 := hW.2.1.1 _ p3.1 p3.2
  have hne : x2 ≠ x1 := fun h => q3 (by rw [h])
  have hne2 : x2 ≠ M (380 + plcR M x1) := by rw [p2]; exact hne
  have W1 := wf_goe hW p1
  have in2 : inN (goeR M (plcR M x1)) x2 := (goe_in hW p1).mpr ⟨plc_in.mp q2, hne2⟩
  have nin1 : ¬ inN (goeR M (plcR M x1)) x1 := fun h => ((goe_in hW p1).mp h).2 p2.symm
  have q5 : plcR (goeR M (plcR M x1)) x2 ≠ -1 := plc_in.mpr in2
  obtain ⟨p5, p6⟩ := plc_rng q5
  have g3 : goeR M (plcR M x1) 3 = M 3 := goe_lo b0.2 p1.1 (by omega) (by omega)
  have g4 : goeR M (plcR M x1) 4 = M 4 := goe_lo b0.2 p1.1 (by omega) (by omega)
  have g6 : goeR M (plcR M x1) 6 = M 6 := goe_lo b0.2 p1.1 (by omega) (by omega)
  have g0 : goeR M (plcR M x1) 0 = M 0 - 1 := goe_0
  have hSR : swpR M x1 x2 = comR (comR (goeR (goeR M (plcR M x1)) (plcR (goeR M (plcR M x1)) x2)) x1 (M (580 + plcR M x1)) (M (780 + plcR M x2))) x2 (M (580 + plcR M x2)) (M (780 + plcR M x1)) := rfl
  generalize hM1 : goeR M (plcR M x1) = M1 at *
  have W2 := wf_goe W1 p5
  have b01 := W1.1.1
  have f3 : goeR M1 (plcR M1 x2) 3 = M1 3 := goe_lo b01.2 p5.1 (by omega) (by omega)
  have f4 : goeR M1 (plcR M1 x2) 4 = M1 4 := goe_lo b01.2 p5.1 (by omega) (by omega)
  have f6 : goeR M1 (plcR M1 x2) 6 = M1 6 := goe_lo b01.2 p5.1 (by omega) (by omega)
  have f0 : goeR M1 (plcR M1 x2) 0 = M1 0 - 1 := goe_0
  have nin2 : ¬ inN (goeR M1 (plcR M1 x2)) x1 := fun h => nin1 ((goe_in W1 p5).mp h).1
  have nin3 : ¬ inN (goeR M1 (plcR M1 x2)) x2 := fun h => ((goe_in W1 p5).mp h).2 p6.symm
  generalize hM2 : goeR M1 (plcR M1 x2) = M2 at *
  obtain ⟨W3, c0, c3, c4, c6⟩ := com_ok W2 (num := x1) (nam := M (580 + plcR M x1)) (due := M (780 + plcR M x2)) (by omega) (by omega) nin2 (by omega) (by omega)
  have nin4 : ¬ inN (comR M2 x1 (M (580 + plcR M x1)) (M (780 + plcR M x2))) x2 := fun h => by
    rcases (com_in ⟨W2.1.1.1, by omega⟩ (pos_rng W2 _ _)).mp h with h1 | h1
    · exact hne h1
    · exact nin3 h1
  have wi2 := wf_ins W2 (num := x1) (nam := M (580 + plcR M x1)) (due := M (780 + plcR M x2)) (by omega) (by omega) (not_in nin2) (by omega) (by omega)
  generalize hM3 : comR M2 x1 (M (580 + plcR M x1)) (M (780 + plcR M x2)) = M3 at *
  obtain ⟨W4, -⟩ := com_ok W3 (num := x2) (nam := M (580 + plcR M x2)) (due := M (780 + plcR M x1)) (by omega) (by omega) nin4 (by omega) (by omega)
  have wi3 := wf_ins W3 (num := x2) (nam := M (580 + plcR M x2)) (due := M (780 + plcR M x1)) (by omega) (by omega) (not_in nin4) (by omega) (by omega)
  refine x_rem hC hA (fun I1 C1 F1 => s_caGoes C1.1 hW p1 (by omega) (fun I2 R2 F2 => ?_))
  rw [hM1] at R2
  refine s_placeOf R2.2.1 W1.1.1 (s_caGoes R2 W1 p5 (by omega) (fun I3 R3 F3 => ?_))
  rw [hM2] at R3
  refine s_caComes R3 W2 (by omega) (by omega) (not_in nin2) (by omega) (by omega) (by omega) (fun I4 R4 F4 => ?_)
  rw [hM3] at R4
  refine s_caComes R4 W3 (by omega) (by omega) (not_in nin4) (by omega) (by omega) (by omega) (fun I5 R5 F5 => ?_)
  have FF := frm_tr F2 (frm_tr F3 (frm_tr F4 F5))
  have hR2 := rs_fr2 hR (I' := I5) (fun a ha => by rw [FF a (by omega), F1 a (by omega)])
  refine r_swap hR2.1 b0 (fun w => by omega) (fun _ _ _ w => absurd w q4) (fun _ _ _ _ => m_keepsAct hR2 hu (fun I6 S6 F6 => ?_))
  refine m_leaves S6.1 hW p1 (by omega) ?_
  rw [hM1]
  refine m_placeOf (rs_237 _ _) W1.1.1 (m_leaves (rs_237 _ _) W1 p5 (by omega) ?_)
  rw [hM2, rs_rs]
  refine m_comes (rs_237 _ _) W2 (by omega) (fun j _ => rfl) wi2 (not_in nin2) (by omega) ?_
  rw [hM3, rs_rs]
  refine m_comes (rs_237 _ _) W3 (by omega) (fun j _ => rfl) wi3 (not_in nin4) (by omega) ?_
  rw [rs_rs]
  exact fin rfl (hQ _ (act_set hA hu (by omega) (wf_mono W4 (by omega)) C1 R5 FF S6 F6))
/-- the t-th of a name -/
def knR (M : Rw) (nam t : Int) : Int := fstB (fun k => decide (M (580 + k) = nam ∧ cntB (fun k => decide (M (580 + k) = nam)) k.toNat = t)) (M 0).toNat
theorem cnt_hit (p : Int → Bool) : ∀ n : Nat, ∀ t : Int, 0 ≤ t → t < cntB p n → ∃ k : Nat, k < n ∧ p (k : Int) = true ∧ cntB p k = t
  | 0, t, a, b => by
    have : cntB p 0 = 0 := rfl
    omega
  | n + 1, t, a, b => by
    rw [cntB_s] at b
    by_cases q : t < cntB p n
    · obtain ⟨k, h1, h2⟩ := cnt_hit p n t a q
      exact ⟨k, by omega, h2⟩
    · by_cases r : p (n : Int) = true
      · rw [if_pos r] at b
        exact ⟨n, by omega, r, by omega⟩
      · rw [if_neg r] at b
        omega
theorem kn_is {M : Rw} {nam t : Int} (h0 : 0 ≤ M 0) (ht : 0 ≤ t ∧ t < cnmR M nam) : (0 ≤ knR M nam t ∧ knR M nam t < M 0) ∧ M (580 + knR M nam t) = nam ∧ cntB (fun k => decide (M (580 + k) = nam)) (knR M nam t).toNat = t := by
  rcases fstB_is (fun k => decide (M (580 + k) = nam ∧ cntB (fun k => decide (M (580 + k) = nam)) k.toNat = t)) (M 0).toNat with ⟨-, h2⟩ | ⟨h1, h2, -⟩
  · exfalso
    obtain ⟨k, a, b, c⟩ := cnt_hit (fun k => decide (M (580 + k) = nam)) (M 0).toNat t ht.1 ht.2
    have := of_decide_eq_false (h2 (k : Int) (by omega) (by omega))
    exact this ⟨of_decide_eq_true b, by simpa using c⟩
  · have := of_decide_eq_true h2
    exact ⟨⟨h1.1, by have := h1.2; unfold knR; omega⟩, this.1, this.2⟩
/-- a number waits for an hour -/
def duN (M : Rw) (num h : Int) : Prop := ∃ k : Int, 0 ≤ k ∧ k < M 0 ∧ M (380 + k) = num ∧ M (780 + k) = h
theorem du_plc {G : Int} {M : Rw} (hW : WF G M) {num h : Int} (hd : duN M num h) : plcR M num ≠ -1 ∧ M (780 + plcR M num) = h := by
  obtain ⟨k, a, b, c, d⟩ := hd
  have hp : plcR M num ≠ -1 := plc_in.mpr ⟨k, a, b, c⟩
  obtain ⟨p1, p2⟩ := plc_rng hp
  refine ⟨hp, ?_⟩
  have w12 := hW.2.1.2.2
  rcases (show k < plcR M num ∨ k = plcR M num ∨ plcR M num < k by omega) with q | q | q
  · exact absurd (c.trans p2.symm) (w12 k _ a q p1.2)
  · rw [← q]; exact d
  · exact absurd (p2.trans c.symm) (w12 _ k p1.1 q b)
theorem goe_du {G : Int} {M : Rw} (hW : WF G M) {p num h : Int} (hp : 0 ≤ p ∧ p < M 0) (hne : num ≠ M (380 + p)) (hd : duN M num h) : duN (goeR M p) num h := by
  have b0 := hW.1.1
  obtain ⟨k, a, b, c, d⟩ := hd
  have hk : k ≠ p := fun h => hne (by rw [← c, h])
  have b1 := (goe_0 : goeR M p 0 = M 0 - 1)
  have eh : ∀ j : Int, 380 ≤ j → goeR M p j = delR M p j := fun j hj => shr_hi hj
  by_cases q : k < p
  · refine ⟨k, a, by omega, ?_⟩
    rw [eh _ (by omega), eh _ (by omega)]
    rcases del_k b0 hp k a (by omega) with ⟨q, h1, -, h3⟩ | ⟨q, h1, -⟩
    · rw [h1, h3]; exact ⟨c, d⟩
    · omega
  · refine ⟨k - 1, by omega, by omega, ?_⟩
    rw [eh _ (by omega), eh _ (by omega)]
    rcases del_k b0 hp (k - 1) (by omega) (by omega) with ⟨q, h1, -⟩ | ⟨q, h1, -, h3⟩
    · omega
    · rw [h1, h3, show k - 1 + 1 = k by omega]; exact ⟨c, d⟩
theorem com_du {M : Rw} {num nam due n h : Int} (h0 : 0 ≤ M 0 ∧ M 0 < 200) (hp : 0 ≤ posR M num due ∧ posR M num due ≤ M 0) (hd : duN M n h) : duN (comR M num nam due) n h := by
  obtain ⟨k, a, b, c, d⟩ := hd
  have K := fun k a b => ins_k (M := M) (p := posR M num due) (num := num) (nam := nam) (due := due) h0 hp k a b
  have e0 : comR M num nam due 0 = M 0 + 1 := com_0
  have eh : ∀ j : Int, 380 ≤ j → comR M num nam due j = insR M (posR M num due) num nam due j := fun j hj => gro_hi hj
  by_cases q : k < posR M num due
  · refine ⟨k, a, by rw [e0]; omega, ?_⟩
    rw [eh _ (by omega), eh _ (by omega)]
    rcases K k a (by omega) with ⟨q, h1, -, h3⟩ | ⟨q, h1, -⟩ | ⟨q, h1, -⟩
    · rw [h1, h3]; exact ⟨c, d⟩
    · omega
    · omega
  · refine ⟨k + 1, by omega, by rw [e0]; omega, ?_⟩
    rw [eh _ (by omega), eh _ (by omega)]
    rcases K (k + 1) (by omega) (by omega) with ⟨q, h1, -⟩ | ⟨q, h1, -⟩ | ⟨q, h1, -, h3⟩
    · omega
    · omega
    · rw [h1, h3, show k + 1 - 1 = k by omega]; exact ⟨c, d⟩
theorem put_du {G : Int} {M : Rw} (hW : WF G M) {p hour num h : Int} (hp : 0 ≤ p ∧ p < M 0) (hh : M 3 ≤ hour ∧ hour ≤ 999999999) (hne : num ≠ M (380 + p)) (hd : duN M num h) : duN (putR M p hour) num h := by
  obtain ⟨h1, h2, -⟩ := put_ok hW hp hh
  exact com_du ⟨h1.1.1.1, h2⟩ (pos_rng h1 _ _) (goe_du hW hp hne hd)
theorem put_3 {M : Rw} {p hour : Int} (h0 : M 0 ≤ 200) (hp : 0 ≤ p) : putR M p hour 3 = M 3 := by
  unfold putR
  rw [com_lo (by omega) (by omega), goe_lo h0 hp (by omega) (by omega)]
def shiR (M : Rw) (nam hours : Int) : Nat → Rw
  | 0 => M
  | t + 1 => putR (shiR M nam hours t) (plcR (shiR M nam hours t) (M (380 + knR M nam (t : Int)))) (M (780 + knR M nam (t : Int)) + hours)
theorem kn_num {G : Int} {M : Rw} (hW : WF G M) {nam : Int} {t s : Int} (ht : 0 ≤ t ∧ t < cnmR M nam) (hs : 0 ≤ s ∧ s < cnmR M nam) (hne : t ≠ s) : M (380 + knR M nam t) ≠ M (380 + knR M nam s) := by
  obtain ⟨a1, a2, a3⟩ := kn_is hW.1.1.1 ht
  obtain ⟨c1, c2, c3⟩ := kn_is hW.1.1.1 hs
  have w12 := hW.2.1.2.2
  rcases (show knR M nam t < knR M nam s ∨ knR M nam t = knR M nam s ∨ knR M nam s < knR M nam t by omega) with q | q | q
  · exact w12 _ _ a1.1 q c1.2
  · rw [q] at a3; omega
  · exact fun h => w12 _ _ c1.1 q a1.2 h.symm
theorem shi_is {G : Int} {M : Rw} (hW : WF G M) {nam hours : Int} (hh : 1 ≤ hours) (hl : ∀ t : Int, 0 ≤ t → t < cnmR M nam → M (780 + knR M nam t) + hours ≤ 999999999) : ∀ n : Nat, (n : Int) ≤ cnmR M nam → WF (G + 402 * (n : Int)) (shiR M nam hours n) ∧ shiR M nam hours n 3 = M 3 ∧ ∀ t : Int, (n : Int) ≤ t → t < cnmR M nam → duN (shiR M nam hours n) (M (380 + knR M nam t)) (M (780 + knR M nam t))
  | 0, _ => ⟨wf_mono hW (by omega), rfl, fun t a b => by
      obtain ⟨k1, -, -⟩ := kn_is hW.1.1.1 ⟨by omega, b⟩
      exact ⟨_, k1.1, k1.2, rfl, rfl⟩⟩
  | n + 1, h => by
    obtain ⟨h1, h2, h3⟩ := shi_is hW hh hl n (by omega)
    have hd := h3 (n : Int) (by omega) (by omega)
    obtain ⟨d1, d2⟩ := du_plc h1 hd
    obtain ⟨p1, p2⟩ := plc_rng d1
    obtain ⟨k1, k2, k3⟩ := kn_is (nam := nam) (t := (n : Int)) hW.1.1.1 ⟨by omega, by omega⟩
    have w := hW.2.1.1 _ k1.1 k1.2
    have hl1 := hl (n : Int) (by omega) (by omega)
    have hhr : shiR M nam hours n 3 ≤ M (780 + knR M nam (n : Int)) + hours ∧ M (780 + knR M nam (n : Int)) + hours ≤ 999999999 := by omega
    refine ⟨wf_mono (wf_put h1 p1 hhr) (by omega), (put_3 h1.1.1.2 p1.1).trans h2, fun t a b => ?_⟩
    refine put_du h1 p1 hhr ?_ (h3 t (by omega) b)
    rw [p2]
    exact kn_num hW ⟨by omega, b⟩ ⟨by omega, by omega⟩ (by omega)
theorem r_shift {x1 x2 : Int} {I : Mm} {M : Rw} {Q : Int → Mm → Prop} (hM : I 237 = M) (h4 : 0 ≤ M 4 ∧ M 4 ≤ 16) (h0 : 0 ≤ M 0 ∧ M 0 ≤ 200) (hh : ∀ k : Int, 0 ≤ k → k < M 0 → 0 ≤ M (780 + k) ∧ M (780 + k) ≤ 999999999) (e1 : ¬ ((0 ≤ x1 ∧ x1 < M 4) ∧ (1 ≤ x2 ∧ x2 ≤ 999999)) → Q (-1) I) (e2 : (0 ≤ x1 ∧ x1 < M 4) ∧ (1 ≤ x2 ∧ x2 ≤ 999999) → cnmR M x1 = 0 → ∀ I' : Mm, (∀ a : Int, a ≠ 242 → a ≠ 243 → I' a = I a) → Q (-2) I') (e3 : (0 ≤ x1 ∧ x1 < M 4) ∧ (1 ≤ x2 ∧ x2 ≤ 999999) → 0 < cnmR M x1 → 999999999 < M (780 + knR M x1 (cnmR M x1 - 1)) + x2 → ∀ I' : Mm, (∀ a : Int, a ≠ 242 → a ≠ 243 → I' a = I a) → Q (-3) I') (e4 : (0 ≤ x1 ∧ x1 < M 4) ∧ (1 ≤ x2 ∧ x2 ≤ 999999) → 0 < cnmR M x1 → M (780 + knR M x1 (cnmR M x1 - 1)) + x2 ≤ 999999999 → ∀ I' : Mm, (∀ a : Int, a ≠ 242 → a ≠ 243 → I' a = I a) → (∀ t : Int, 0 ≤ t → t < cnmR M x1 → I' 242 t = M (380 + knR M x1 t) ∧ I' 243 t = M (780 + knR M x1 t)) → V_M_keepsAct I' (fun I39 => ∃ f45 : Nat, L_M_shift_131 x1 x2 (cnmR M x1) Q f45 0 I39)) : V_M_shift x1 x2 I Q := by
  unfold V_M_shift
  refine m_isName hM h4 (fun a1 a2 => ⟨fun q => absurd q (by decide), fun _ => m_in (fun b1 b2 => ⟨fun _ => ?_, fun q => absurd q (by decide)⟩) (fun q => ⟨fun q => absurd rfl q, fun _ => e1 (fun w => q w.2)⟩)⟩) (fun q => ⟨fun _ => e1 (fun w => q w.1), fun q => absurd rfl q⟩)
  have hall : (0 ≤ x1 ∧ x1 < M 4) ∧ (1 ≤ x2 ∧ x2 ≤ 999999) := ⟨⟨a1, a2⟩, b1, b2⟩
  refine lpr (P := fun f i I1 => L_M_shift_27 x1 x2 Q _ f (cntB (fun k => decide (M (580 + k) = x1)) i) (i : Int) I1) (S := fun i I1 => (∀ a : Int, a ≠ 242 → a ≠ 243 → I1 a = I a) ∧ ∀ k : Int, 0 ≤ k → k < (i : Int) → M (580 + k) = x1 → I1 242 (cntB (fun k => decide (M (580 + k) = x1)) k.toNat) = M (380 + k) ∧ I1 243 (cntB (fun k => decide (M (580 + k) = x1)) k.toNat) = M (780 + k)) (M 0).toNat ⟨fun a _ _ => rfl, fun k a b => by omega⟩ ?_ ?_
  · intro n I1 hS
    obtain ⟨s1, s2⟩ := hS
    have c := cntB_rng (fun k => decide (M (580 + k) = x1)) (M 0).toNat
    have ce : cnmR M x1 = cntB (fun k => decide (M (580 + k) = x1)) (M 0).toNat := rfl
    unfold L_M_shift_27
    rw [s1 237 (by omega) (by omega), hM, ← ce]
    refine ⟨fun _ => ⟨fun q => ?_, fun q => e2 hall q I1 s1⟩, fun q => by omega⟩
    have hk : ∀ t : Int, 0 ≤ t → t < cnmR M x1 → I1 242 t = M (380 + knR M x1 t) ∧ I1 243 t = M (780 + knR M x1 t) := by
      intro t t0 t1
      obtain ⟨k1, k2, k3⟩ := kn_is h0.1 ⟨t0, t1⟩
      have := s2 (knR M x1 t) k1.1 (by omega) k2
      rw [k3] at this
      exact this
    obtain ⟨k1, k2, k3⟩ := kn_is (nam := x1) (t := cnmR M x1 - 1) h0.1 ⟨by omega, by omega⟩
    have hr := hh _ k1.1 k1.2
    rw [(hk (cnmR M x1 - 1) (by omega) (by omega)).2]
    exact ⟨by omega, by omega, fun q2 => e4 hall (by omega) q2 I1 s1 hk, fun q2 => e3 hall (by omega) q2 I1 s1⟩
  · intro i n I1 hi hS ih
    obtain ⟨s1, s2⟩ := hS
    have c := cntB_rng (fun k => decide (M (580 + k) = x1)) i
    rw [cntB_s] at ih
    unfold L_M_shift_27
    have e37 : I1 237 = M := by rw [s1 237 (by omega) (by omega), hM]
    have e37' : ∀ v w : Int, wrM I1 242 v w 237 = M := fun v w => by rw [wr_oth _ (by decide), e37]
    rw [e37', e37]
    refine ⟨fun q => by omega, fun _ => ⟨by omega, fun q => ⟨by omega, by omega, by omega, by omega, by omega, by omega, ?_⟩, fun q => ⟨by omega, ?_⟩⟩⟩
    · rw [if_pos (by simpa using q)] at ih
      refine ih _ ⟨fun a p r => by rw [wr_oth _ r, wr_oth _ p]; exact s1 a p r, fun k p r w => ?_⟩
      by_cases hk : k = (i : Int)
      · subst hk
        rw [Int.toNat_natCast]
        exact ⟨by rw [wr_oth _ (by decide), wr_s], by rw [wr_s]⟩
      · have hlt := cntB_lt (fun k => decide (M (580 + k) = x1)) k.toNat i (by omega) (by rw [show ((k.toNat : Nat) : Int) = k by omega]; simpa using w)
        obtain ⟨v1, v2⟩ := s2 k p (by omega) w
        exact ⟨by rw [wr_oth _ (by decide), wr_n (by omega)]; exact v1, by rw [wr_n (by omega), wr_oth _ (by decide)]; exact v2⟩
    · rw [if_neg (by simpa using q), Int.add_zero] at ih
      refine ih _ ⟨s1, fun k p r w => ?_⟩
      by_cases hk : k = (i : Int)
      · subst hk; exact absurd w q
      · exact s2 k p (by omega) w
theorem o_shift {G x1 x2 : Int} {I : Mm} {Q : Mm → Prop} (hI : Inv G I) (hG : G ≤ 2143000000) (hQ : ∀ I' : Mm, Inv (G + 3000000) I' → Q I') : V_X_shift x1 x2 I (fun z I1 => V_M_shift x1 x2 I1 (fun z' I2 => (z = z' → Q I2) ∧ (¬ z = z' → False))) := by
  obtain ⟨M, u, H, k, S, l, T, hC, hR, hA⟩ := hI
  have hW := hA.1
  have b0 := hW.1.1
  have b3 := hW.1.2.2.2.1
  have b4 := hW.1.2.2.2.2.1
  have hu := hC.2.1.2.1
  have n4 : I (1 + 1) 0 = M 4 := hC.1.1.1
  have hM := hR.1
  have hh := fun k a b => wf_h hW k a b
  have hst : ∀ I' : Mm, (∀ a : Int, a ≠ 235 → a ≠ 242 → a ≠ 243 → I' a = I a) → Q I' := fun I' hI' => hQ I' (stay hC (rs_fr hR (fun a ha => hI' a (by omega) (by omega) (by omega)) (by rw [hI' 236 (by omega) (by omega) (by omega)]) (by rw [hI' 236 (by omega) (by omega) (by omega)])) (aw_mono hA (by omega)) (fun a ha => hI' a (by omega) (by omega) (by omega)))
  have refuse : ¬ ((0 ≤ x1 ∧ x1 < M 4) ∧ (1 ≤ x2 ∧ x2 ≤ 999999)) → V_M_shift x1 x2 I (fun z' I2 => ((-1 : Int) = z' → Q I2) ∧ (¬ (-1 : Int) = z' → False)) := fun q => r_shift hM b4 b0 hh (fun _ => fin rfl (hst I (fun _ _ _ _ => rfl))) (fun w => absurd w q) (fun w => absurd w q) (fun w => absurd w q)
  unfold V_X_shift
  refine s_nmHas (fun a1 a2 => ⟨fun q => absurd q (by decide), fun _ => x_gap (fun c1 c2 => ⟨fun _ => s_pickAll (r2 := 235) hC.1.2.1 b0 (by omega) (fun I1 pk F0 => ?_), fun q => absurd q (by decide)⟩) (fun q => ⟨fun q => absurd rfl q, fun _ => refuse (fun w => q w.2)⟩)⟩) (fun q => ⟨fun _ => refuse (fun w => q (by rw [n4]; exact w.1)), fun q => absurd rfl q⟩)
  rw [n4] at a2
  have hall : (0 ≤ x1 ∧ x1 < M 4) ∧ (1 ≤ x2 ∧ x2 ≤ 999999) := ⟨⟨a1, a2⟩, c1, c2⟩
  have hC1 := cs_fr hC hA (I' := I1) (fun a ha => F0 a (by omega))
  have hR1 := rs_fr2 hR (I' := I1) (fun a ha => F0 a (by omega))
  have c := cntB_rng (fun k => decide (M (580 + k) = x1)) (M 0).toNat
  have ce : cnmR M x1 = cntB (fun k => decide (M (580 + k) = x1)) (M 0).toNat := rfl
  refine ⟨fun q => ?_, fun q => r_shift hR1.1 b4 b0 hh (fun w => absurd hall w) (fun _ _ I' F' => fin rfl (hst I' (fun a p1 p2 p3 => by rw [F' a p2 p3, F0 a p1]))) (fun _ w => by omega) (fun _ w => by omega)⟩
  obtain ⟨k1, k2, k3⟩ := kn_is (nam := x1) (t := cnmR M x1 - 1) b0.1 ⟨by omega, by omega⟩
  have hr := hh _ k1.1 k1.2
  refine s_lastHourOf hC1.1.2.1 b0 (knR M x1 (cnmR M x1 - 1)) k1 k2 (fun j j1 j2 w => ?_) ?_
  · have h1 := cntB_lt (fun k => decide (M (580 + k) = x1)) (knR M x1 (cnmR M x1 - 1)).toNat j.toNat (by omega) (by rw [show (((knR M x1 (cnmR M x1 - 1)).toNat : Nat) : Int) = knR M x1 (cnmR M x1 - 1) by omega]; simpa using k2)
    have h2 := cntB_lt (fun k => decide (M (580 + k) = x1)) j.toNat (M 0).toNat (by omega) (by rw [show ((j.toNat : Nat) : Int) = j by omega]; simpa using w)
    omega
  refine ⟨by omega, fun q2 => ?_, fun q2 => r_shift hR1.1 b4 b0 hh (fun w => absurd hall w) (fun _ w => absurd w q) (fun _ _ _ I' F' => fin rfl (hst I' (fun a p1 p2 p3 => by rw [F' a p2 p3, F0 a p1]))) (fun _ _ w => by omega)⟩
  have hl : ∀ t : Int, 0 ≤ t → t < cnmR M x1 → M (780 + knR M x1 t) + x2 ≤ 999999999 := by
    intro t t0 t1
    obtain ⟨v1, v2, v3⟩ := kn_is b0.1 ⟨t0, t1⟩
    have hle : knR M x1 t ≤ knR M x1 (cnmR M x1 - 1) := by
      by_cases w : knR M x1 t ≤ knR M x1 (cnmR M x1 - 1)
      · exact w
      · have h1 := cntB_lt (fun k => decide (M (580 + k) = x1)) (knR M x1 (cnmR M x1 - 1)).toNat (knR M x1 t).toNat (by omega) (by rw [show (((knR M x1 (cnmR M x1 - 1)).toNat : Nat) : Int) = knR M x1 (cnmR M x1 - 1) by omega]; simpa using k2)
        omega
    by_cases w : knR M x1 t = knR M x1 (cnmR M x1 - 1)
    · rw [w]; exact q2
    · have := wf_s hW _ _ v1.1 (show knR M x1 t < knR M x1 (cnmR M x1 - 1) by omega) k1.2
      omega
  have hpk : ∀ t : Int, 0 ≤ t → t < cnmR M x1 → I1 235 t = M (380 + knR M x1 t) := by
    intro t t0 t1
    obtain ⟨v1, v2, v3⟩ := kn_is b0.1 ⟨t0, t1⟩
    have := pk (knR M x1 t) v1.1 v1.2 v2
    rw [v3] at this
    exact this
  refine x_rem hC1 hA (fun I2 C2 F2 => ?_)
  refine lpr (P := fun f i I3 => L_X_shift_79 x1 x2 (cnmR M x1) (fun z I1 => V_M_shift x1 x2 I1 (fun z' I2 => (z = z' → Q I2) ∧ (¬ z = z' → False))) f (i : Int) I3) (S := fun i I3 => RepC I3 1 (shiR M x1 x2 i) ∧ Frm 1 I2 I3) (cnmR M x1).toNat ⟨C2.1, frm_rf 1 I2⟩ ?_ ?_
  · intro n I3 hS
    obtain ⟨R3, F3⟩ := hS
    have hR3 := rs_fr2 hR1 (I' := I3) (fun a ha => by rw [F3 a (by omega), F2 a (by omega)])
    unfold L_X_shift_79
    refine ⟨fun _ => r_shift hR3.1 b4 b0 hh (fun w => absurd hall w) (fun _ w => absurd w q) (fun _ _ w => by omega) (fun _ _ _ I4 F4 hk => ?_), fun w => by omega⟩
    have hR4 := rs_fr hR3 (I' := I4) (fun a ha => F4 a (by omega) (by omega)) (by rw [F4 236 (by omega) (by omega)]) (by rw [F4 236 (by omega) (by omega)])
    refine m_keepsAct2 hR4 hu (fun I5 S5 F5 => ?_)
    refine lpr (P := fun f i I6 => L_M_shift_131 x1 x2 (cnmR M x1) (fun z' I2 => (cnmR M x1 = z' → Q I2) ∧ (¬ cnmR M x1 = z' → False)) f (i : Int) I6) (S := fun i I6 => I6 237 = shiR M x1 x2 i ∧ rsF I5 I6) (cnmR M x1).toNat ⟨S5.1, rsF_rf I5⟩ ?_ ?_
    · intro n I6 hS6
      obtain ⟨W1, -, -⟩ := shi_is hW (nam := x1) c1 hl (cnmR M x1).toNat (by omega)
      unfold L_M_shift_131
      exact ⟨fun _ => fin rfl (hQ _ (act_F hA hu (by omega) (wf_mono W1 (by omega)) C2 R3 F3 S5 (fun a ha => by rw [F5 a (by omega) (by omega), F4 a (by omega) (by omega)]) hS6.1 hS6.2)), fun w => by omega⟩
    · intro i n I6 hi hS6 ih
      obtain ⟨W1, e3, hd⟩ := shi_is hW (nam := x1) c1 hl i (by omega)
      obtain ⟨d1, d2⟩ := du_plc W1 (hd (i : Int) (by omega) (by omega))
      obtain ⟨p1, p2⟩ := plc_rng d1
      obtain ⟨v1, v2, v3⟩ := kn_is (nam := x1) (t := (i : Int)) b0.1 ⟨by omega, by omega⟩
      have w3 := hW.2.1.1 _ v1.1 v1.2
      have hl1 := hl (i : Int) (by omega) (by omega)
      obtain ⟨t1, t2⟩ := hk (i : Int) (by omega) (by omega)
      have e242 : I6 242 (i : Int) = M (380 + knR M x1 (i : Int)) := by rw [hS6.2.1 242 (by omega) (by omega), F5 242 (by omega) (by omega)]; exact t1
      have e243 : I6 243 (i : Int) = M (780 + knR M x1 (i : Int)) := by rw [hS6.2.1 243 (by omega) (by omega), F5 243 (by omega) (by omega)]; exact t2
      unfold L_M_shift_131
      rw [e242, e243]
      exact ⟨fun w => by omega, fun _ => ⟨by omega, by omega, by omega, m_putsOff hS6.1 W1 d1 (by omega) (by omega) ⟨by omega, ih _ ⟨rs_237 _ _, rsF_tr hS6.2 (rsF_set _ _)⟩⟩⟩⟩
  · intro i n I3 hi hS ih
    obtain ⟨W1, e3, hd⟩ := shi_is hW (nam := x1) c1 hl i (by omega)
    obtain ⟨d1, d2⟩ := du_plc W1 (hd (i : Int) (by omega) (by omega))
    obtain ⟨p1, p2⟩ := plc_rng d1
    obtain ⟨v1, v2, v3⟩ := kn_is (nam := x1) (t := (i : Int)) b0.1 ⟨by omega, by omega⟩
    have w3 := hW.2.1.1 _ v1.1 v1.2
    have hl1 := hl (i : Int) (by omega) (by omega)
    have e235 : I3 235 (i : Int) = M (380 + knR M x1 (i : Int)) := by rw [hS.2 235 (by omega), F2 235 (by omega)]; exact hpk _ (by omega) (by omega)
    unfold L_X_shift_79
    rw [e235]
    refine ⟨fun w => by omega, fun _ => ⟨by omega, s_placeOf hS.1.2.1 W1.1.1 ⟨fun w => absurd w d1, fun _ => ?_⟩⟩⟩
    have hk := (hS.1.2.1.2 _ p1.1 p1.2).2.2
    have b01 := W1.1.1
    rw [hk, d2]
    exact ⟨by omega, by omega, s_putOff hS.1 W1 p1 (by omega) (by omega) (fun I4 R4 F4 => ⟨by omega, ih I4 ⟨R4, frm_tr hS.2 F4⟩⟩)⟩
