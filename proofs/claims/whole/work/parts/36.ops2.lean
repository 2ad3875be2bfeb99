/-! more operations that change the calendar -/
def rsF (I I' : Mm) : Prop := (∀ a : Int, a ≠ 236 → a ≠ 237 → I' a = I a) ∧ ∀ j : Int, j ≠ 6 → j ≠ 7 → I' 236 j = I 236 j
theorem rsF_rf (I : Mm) : rsF I I := ⟨fun _ _ _ => rfl, fun _ _ _ => rfl⟩
theorem rsF_tr {I I1 I2 : Mm} (h1 : rsF I I1) (h2 : rsF I1 I2) : rsF I I2 := ⟨fun a x y => (h2.1 a x y).trans (h1.1 a x y), fun j x y => (h2.2 j x y).trans (h1.2 j x y)⟩
theorem rsF_set (I : Mm) (M : Rw) : rsF I (rset I M) := ⟨fun a _ y => rs_ne _ _ y, fun j _ _ => by rw [rs_236]⟩
theorem act_F {G G' : Int} {I1 I2 I3 I4 : Mm} {M M' : Rw} {u : Int} {H : Int → Rw} {k : Int → Int} {S : Int → Rw} {l : Int} {T : Int → Int} (hA : AW G M u H k S l T) (hu : 0 ≤ u ∧ u ≤ 10) (hG : G ≤ G') (hW : WF G' M') (C1 : CS I1 M (min (u + 1) 10) (psh u H M) k S l T) (R2 : RepC I2 1 M') (F2 : Frm 1 I1 I2) (S3 : RS I3 M (min (u + 1) 10) (psh u H M) k S l T) (F3 : ∀ a : Int, a < 236 → I3 a = I2 a) (h4 : I4 237 = M') (F4 : rsF I3 I4) : Inv G' I4 :=
  act_end (I := I1) hA hu hG hW C1 R2 F2 S3 F3 h4 F4.1 (F4.2 3 (by omega) (by omega)) (F4.2 16 (by omega) (by omega))
theorem m_takeLoop {G x1 : Int} {I : Mm} {M : Rw} {Q : Int → Mm → Prop} (hM : I 237 = M) (hW : WF G M) (hx : 1 ≤ x1 ∧ x1 ≤ 300) (hG : G ≤ 2146000000) (hQ : ∀ I' : Mm, I' 237 = itR tkeR M (tksN M x1.toNat) → rsF I I' → Q (tksN M x1.toNat : Nat) I') : ∃ f, L_M_take_32 x1 Q f 0 I := by
  obtain ⟨t1, t2, t3⟩ := tks_is M x1.toNat
  refine lpr (P := fun f i I1 => L_M_take_32 x1 Q f (i : Int) I1) (S := fun i I1 => I1 237 = itR tkeR M i ∧ rsF I I1) (tksN M x1.toNat) ⟨hM, rsF_rf I⟩ ?_ ?_
  · intro n I1 hS
    simp only [L_M_take_32]
    rw [hS.1]
    refine ⟨fun _ => hQ _ hS.1 hS.2, fun q => ⟨fun _ => hQ _ hS.1 hS.2, fun q2 => ?_⟩⟩
    have := t3 (by omega)
    omega
  · intro i n I1 hi hS ih
    have W1 := wf_it hW i (fun k hk => t2 k (by omega))
    have h0 := t2 i hi
    simp only [L_M_take_32]
    rw [hS.1]
    exact ⟨fun q => by omega, fun _ => ⟨fun q => by omega, fun _ => m_takes hS.1 W1 h0 (by omega) (fun I2 e F F' => ⟨by omega, ih I2 ⟨e, rsF_tr hS.2 ⟨F, F'⟩⟩⟩)⟩⟩
theorem m_untilLoop {G x1 : Int} {I : Mm} {M : Rw} {Q : Int → Mm → Prop} (hM : I 237 = M) (hW : WF G M) (hG : G ≤ 2144000000) (hQ : ∀ I' : Mm, I' 237 = itR tkeR M (untN M x1 999) → rsF I I' → Q (untN M x1 999 : Nat) I') : ∃ f, L_M_until_44 x1 Q f 0 I := by
  obtain ⟨t1, t2, t3⟩ := unt_is M x1 999
  refine lpr (P := fun f i I1 => L_M_until_44 x1 Q f (i : Int) I1) (S := fun i I1 => I1 237 = itR tkeR M i ∧ rsF I I1) (untN M x1 999) ⟨hM, rsF_rf I⟩ ?_ ?_
  · intro n I1 hS
    simp only [L_M_until_44]
    rw [hS.1]
    refine ⟨fun _ => hQ _ hS.1 hS.2, fun q => ⟨fun _ => hQ _ hS.1 hS.2, fun q2 => ⟨fun _ => hQ _ hS.1 hS.2, fun q3 => ?_⟩⟩⟩
    exact absurd ⟨q2, q3⟩ (t3 (by omega))
  · intro i n I1 hi hS ih
    have W1 := wf_it hW i (fun k hk => (t2 k (by omega)).1)
    have h0 := t2 i hi
    simp only [L_M_until_44]
    rw [hS.1]
    exact ⟨fun q => by omega, fun _ => ⟨fun q => by omega, fun _ => ⟨fun q => by omega, fun _ => m_takes hS.1 W1 h0.1 (by omega) (fun I2 e F F' => ⟨by omega, ih I2 ⟨e, rsF_tr hS.2 ⟨F, F'⟩⟩⟩)⟩⟩⟩
theorem r_take {x1 : Int} {I : Mm} {M : Rw} {Q : Int → Mm → Prop} (hM : I 237 = M) (e1 : ¬ (1 ≤ x1 ∧ x1 ≤ 99) → Q (-1) I) (e2 : 1 ≤ x1 → x1 ≤ 99 → M 0 = 0 → Q (-2) I) (e3 : 1 ≤ x1 → x1 ≤ 99 → ¬ M 0 = 0 → V_M_keepsAct I (fun I23 => ∃ f, L_M_take_32 x1 Q f 0 I23)) : V_M_take x1 I Q := by
  unfold V_M_take
  exact m_in (fun a b => ⟨fun _ => ⟨fun q => e3 a b (by rw [hM] at q; exact q), fun q => e2 a b (by rw [hM] at q; exact q)⟩, fun q => absurd q (by decide)⟩) (fun q => ⟨fun q => absurd rfl q, fun _ => e1 q⟩)
theorem o_take {G x1 : Int} {I : Mm} {Q : Mm → Prop} (hI : Inv G I) (hG : G ≤ 2143000000) (hQ : ∀ I' : Mm, Inv (G + 3000000) I' → Q I') : V_X_take x1 I (fun z I1 => V_M_take x1 I1 (fun z' I2 => (z = z' → Q I2) ∧ (¬ z = z' → False))) := by
  obtain ⟨M, u, H, k, S, l, T, hC, hR, hA⟩ := hI
  have hst : Q I := hQ I ⟨M, u, H, k, S, l, T, hC, hR, aw_mono hA (by omega)⟩
  have hW := hA.1
  have b0 := hW.1.1
  have hu := hC.2.1.2.1
  have n0 : I (1 + 5) 0 = M 0 := hC.1.2.1.1
  have hM := hR.1
  unfold V_X_take
  rw [n0]
  refine ⟨fun q => ?_, fun q1 => ⟨fun q2 => ⟨fun q3 => ?_, fun q3 => ?_⟩, fun q2 => ?_⟩⟩
  · refine r_take hM ?_ ?_ ?_ <;> intros <;> first | exact fin rfl hst | (exfalso; omega)
  · refine x_rem hC hA (fun I1 C1 F1 => s_takeSome C1.1 hW (by omega) (by omega) (fun I2 R2 F2 => ?_))
    have hR2 := rs_fr2 hR (I' := I2) (fun a ha => by rw [F2 a (by omega), F1 a (by omega)])
    refine r_take hR2.1 (fun q => by omega) (fun _ _ q => by omega) (fun _ _ _ => m_keepsAct hR2 hu (fun I3 S3 F3 => m_takeLoop S3.1 hW (by omega) (by omega) (fun I4 e4 F4 => fin rfl (hQ _ ?_))))
    obtain ⟨t1, t2, -⟩ := tks_is M x1.toNat
    exact act_F hA hu (by omega) (wf_mono (wf_it hW _ t2) (by omega)) C1 R2 F2 S3 F3 e4 F4
  · refine r_take hM ?_ ?_ ?_ <;> intros <;> first | exact fin rfl hst | (exfalso; omega)
  · refine r_take hM ?_ ?_ ?_ <;> intros <;> first | exact fin rfl hst | (exfalso; omega)
theorem r_until {x1 : Int} {I : Mm} {M : Rw} {Q : Int → Mm → Prop} (hM : I 237 = M) (h0 : 0 ≤ M 0) (e1 : ¬ (0 ≤ x1 ∧ x1 ≤ 999999999) → Q (-1) I) (e2 : 0 ≤ x1 → x1 ≤ 999999999 → ¬ (0 < M 0 ∧ M 780 ≤ x1) → Q (-2) I) (e3 : 0 ≤ x1 → x1 ≤ 999999999 → 0 < M 0 → M 780 ≤ x1 → V_M_keepsAct I (fun I23 => ∃ f, L_M_until_44 x1 Q f 0 I23)) : V_M_until x1 I Q := by
  unfold V_M_until
  exact m_in (fun a b => ⟨fun _ => by rw [hM]; exact ⟨fun q => e2 a b (by omega), fun q => ⟨fun q2 => e3 a b (by omega) q2, fun q2 => e2 a b (by omega)⟩⟩, fun q => absurd q (by decide)⟩) (fun q => ⟨fun q => absurd rfl q, fun _ => e1 q⟩)
theorem o_until {G x1 : Int} {I : Mm} {Q : Mm → Prop} (hI : Inv G I) (hG : G ≤ 2143000000) (hQ : ∀ I' : Mm, Inv (G + 3000000) I' → Q I') : V_X_until x1 I (fun z I1 => V_M_until x1 I1 (fun z' I2 => (z = z' → Q I2) ∧ (¬ z = z' → False))) := by
  obtain ⟨M, u, H, k, S, l, T, hC, hR, hA⟩ := hI
  have hst : Q I := hQ I ⟨M, u, H, k, S, l, T, hC, hR, aw_mono hA (by omega)⟩
  have hW := hA.1
  have b0 := hW.1.1
  have hu := hC.2.1.2.1
  have hM := hR.1
  unfold V_X_until
  refine x_hour (fun a b => ⟨fun _ => s_waitsBy hC.1 (fun c d => ⟨fun _ => ?_, fun q => absurd q (by decide)⟩) (fun q => ⟨fun q => absurd rfl q, fun _ => ?_⟩), fun q => absurd q (by decide)⟩) (fun q => ⟨fun q => absurd rfl q, fun _ => ?_⟩)
  · refine x_rem hC hA (fun I1 C1 F1 => s_takeDue C1.1 hW (by omega) (fun I2 R2 F2 => ?_))
    have hR2 := rs_fr2 hR (I' := I2) (fun a ha => by rw [F2 a (by omega), F1 a (by omega)])
    refine r_until hR2.1 b0.1 (fun q => by omega) (fun _ _ q => by omega) (fun _ _ _ _ => m_keepsAct hR2 hu (fun I3 S3 F3 => m_untilLoop S3.1 hW (by omega) (fun I4 e4 F4 => fin rfl (hQ _ ?_))))
    obtain ⟨t1, t2, -⟩ := unt_is M x1 999
    exact act_F hA hu (by omega) (wf_mono (wf_it hW _ (fun k hk => (t2 k hk).1)) (by omega)) C1 R2 F2 S3 F3 e4 F4
  · refine r_until hM b0.1 ?_ ?_ ?_ <;> intros <;> first | exact fin rfl hst | (exfalso; omega)
  · refine r_until hM b0.1 ?_ ?_ ?_ <;> intros <;> first | exact fin rfl hst | (exfalso; omega)
theorem plc_rng {M : Rw} {num : Int} (h : plcR M num ≠ -1) : (0 ≤ plcR M num ∧ plcR M num < M 0) ∧ M (380 + plcR M num) = num := by
  rcases plcR_is M num with ⟨h1, -⟩ | ⟨h1, h2, -⟩
  · exact absurd h1 h
  · exact ⟨h1, h2⟩
theorem plc_neg {M : Rw} {num : Int} : plcR M num = -1 ∨ 0 ≤ plcR M num := by
  rcases plcR_is M num with ⟨h1, -⟩ | ⟨h1, h2, -⟩
  · exact .inl h1
  · exact .inr h1.1
theorem goe_st {M : Rw} {p : Int} : goeR (moR M 15 1) p = cnlR M p := rfl
theorem m_cancel {G p : Int} {I : Mm} {M : Rw} {Q : Mm → Prop} (hM : I 237 = M) (hW : WF G M) (hp : 0 ≤ p ∧ p < M 0) (hG : G ≤ 2147400000) (hQ : Q (rset I (cnlR M p))) : r32 (I 237 15 + 1) ∧ V_M_leaves p (wrM I 237 15 (I 237 15 + 1)) Q := by
  have b15 := hW.1.2.2.2.2.2.2.2.2 15 (by omega) (by omega)
  rw [hM]
  refine ⟨by omega, ?_⟩
  rw [wr_rs, hM, st_mo]
  refine m_leaves (rs_237 _ _) (wf_mo hW (i := 15) (d := 1) (by omega) (by omega)) (by rw [mo_ne (by omega)]; exact hp) (by omega) ?_
  rw [rs_rs]
  exact hQ
theorem o_cancel {G x1 : Int} {I : Mm} {Q : Mm → Prop} (hI : Inv G I) (hG : G ≤ 2143000000) (hQ : ∀ I' : Mm, Inv (G + 3000000) I' → Q I') : V_X_cancel x1 I (fun z I1 => V_M_cancel x1 I1 (fun z' I2 => (z = z' → Q I2) ∧ (¬ z = z' → False))) := by
  obtain ⟨M, u, H, k, S, l, T, hC, hR, hA⟩ := hI
  have hst : Q I := hQ I ⟨M, u, H, k, S, l, T, hC, hR, aw_mono hA (by omega)⟩
  have hW := hA.1
  have b0 := hW.1.1
  have hu := hC.2.1.2.1
  have hM := hR.1
  unfold V_X_cancel V_M_cancel
  refine s_placeOf hC.1.2.1 b0 ⟨fun q => ?_, fun q => m_placeOf hM b0 ⟨fun q2 => by omega, fun _ => fin rfl hst⟩⟩
  obtain ⟨p1, p2⟩ := plc_rng q
  refine x_rem hC hA (fun I1 C1 F1 => s_cancelAt C1.1 hW p1 (by omega) (fun I2 R2 F2 => ?_))
  have hR2 := rs_fr2 hR (I' := I2) (fun a ha => by rw [F2 a (by omega), F1 a (by omega)])
  have e0 : I2 (1 + 5) 0 = cnlR M (plcR M x1) 0 := R2.2.1.1
  refine m_placeOf hR2.1 b0 ⟨fun _ => m_keepsAct hR2 hu (fun I3 S3 F3 => m_cancel S3.1 hW p1 (by omega) (fin (by rw [rs_237, e0]) (hQ _ (act_set hA hu (by omega) (wf_mono (wf_cnl hW p1) (by omega)) C1 R2 F2 S3 F3)))), fun q2 => by omega⟩
theorem m_putsOff {G num hour : Int} {I : Mm} {M : Rw} {Q : Mm → Prop} (hM : I 237 = M) (hW : WF G M) (hp : plcR M num ≠ -1) (hh : M 3 ≤ hour ∧ hour ≤ 999999999) (hG : G ≤ 2147400000) (hQ : Q (rset I (putR M (plcR M num) hour))) : V_M_putsOff num hour I Q := by
  have b0 := hW.1.1
  obtain ⟨p1, p2⟩ := plc_rng hp
  obtain ⟨h1, h2, h3, h4, h5, h6⟩ := put_ok hW p1 hh
  unfold V_M_putsOff
  refine m_placeOf hM b0 ⟨by omega, ?_⟩
  refine m_leaves hM hW p1 (by omega) ?_
  rw [hM]
  unfold putR at hQ
  rw [p2] at hQ h3 h4
  refine m_comes (rs_237 _ _) h1 h2 (fun j _ => rfl) (wf_ins h1 h2 h3 h4 h5 h6) h4 (by omega) ?_
  rw [rs_rs]
  exact hQ
theorem r_postpone {x1 x2 : Int} {I : Mm} {M : Rw} {Q : Int → Mm → Prop} (hM : I 237 = M) (h0 : 0 ≤ M 0 ∧ M 0 ≤ 200) (e1 : (plcR M x1 = -1 ∨ ¬ (0 ≤ x2 ∧ x2 ≤ 999999999)) → Q (-1) I) (e2 : plcR M x1 ≠ -1 → (0 ≤ x2 ∧ x2 ≤ 999999999) → x2 < M 3 → Q (-2) I) (e3 : plcR M x1 ≠ -1 → (0 ≤ x2 ∧ x2 ≤ 999999999) → M 3 ≤ x2 → M (780 + plcR M x1) = x2 → Q (-3) I) (e4 : plcR M x1 ≠ -1 → (0 ≤ x2 ∧ x2 ≤ 999999999) → M 3 ≤ x2 → ¬ M (780 + plcR M x1) = x2 → V_M_keepsAct I (fun I26 => V_M_putsOff x1 x2 I26 (fun I27 => Q (M (780 + plcR M x1)) I27))) : V_M_postpone x1 x2 I Q := by
  unfold V_M_postpone
  have pn := @plc_neg M x1
  refine m_placeOf hM h0 ⟨fun q => e1 (.inl (by omega)), fun q => m_in (fun a b => ⟨fun _ => ?_, fun q => absurd q (by decide)⟩) (fun q => ⟨fun q => absurd rfl q, fun _ => e1 (.inr q)⟩)⟩
  obtain ⟨p1, p2⟩ := plc_rng (M := M) (num := x1) (by omega)
  rw [hM]
  exact ⟨fun q2 => ⟨by omega, fun q3 => e4 (by omega) ⟨a, b⟩ q2 q3, fun q3 => e3 (by omega) ⟨a, b⟩ q2 q3⟩, fun q2 => e2 (by omega) ⟨a, b⟩ q2⟩
theorem o_postpone {G x1 x2 : Int} {I : Mm} {Q : Mm → Prop} (hI : Inv G I) (hG : G ≤ 2143000000) (hQ : ∀ I' : Mm, Inv (G + 3000000) I' → Q I') : V_X_postpone x1 x2 I (fun z I1 => V_M_postpone x1 x2 I1 (fun z' I2 => (z = z' → Q I2) ∧ (¬ z = z' → False))) := by
  obtain ⟨M, u, H, k, S, l, T, hC, hR, hA⟩ := hI
  have hst : Q I := hQ I ⟨M, u, H, k, S, l, T, hC, hR, aw_mono hA (by omega)⟩
  have hW := hA.1
  have b0 := hW.1.1
  have hu := hC.2.1.2.1
  have n7 : I 1 7 = M 3 := hC.1.2.2.2.2.2.2.2.1
  have hM := hR.1
  unfold V_X_postpone
  refine s_placeOf hC.1.2.1 b0 ⟨fun q => ?_, fun q => x_hour (fun a b => ⟨fun _ => ?_, fun q => absurd q (by decide)⟩) (fun q => ⟨fun q => absurd rfl q, fun _ => ?_⟩)⟩
  · refine r_postpone hM b0 ?_ ?_ ?_ ?_ <;> intros <;> first | exact fin rfl hst | (exfalso; omega)
  · obtain ⟨p1, p2⟩ := plc_rng q
    have hk := (hC.1.2.1.2 _ p1.1 p1.2).2.2
    rw [n7, hk]
    refine ⟨fun q2 => ⟨by omega, fun q3 => ?_, fun q3 => ?_⟩, fun q2 => ?_⟩
    · refine x_rem hC hA (fun I1 C1 F1 => s_putOff C1.1 hW p1 ⟨q2, b⟩ (by omega) (fun I2 R2 F2 => ?_))
      have hR2 := rs_fr2 hR (I' := I2) (fun a ha => by rw [F2 a (by omega), F1 a (by omega)])
      refine r_postpone hR2.1 b0 (fun w => by omega) (fun _ _ w => by omega) (fun _ _ _ w => by omega) (fun _ _ _ _ => m_keepsAct hR2 hu (fun I3 S3 F3 => m_putsOff S3.1 hW q ⟨q2, b⟩ (by omega) (fin rfl (hQ _ (act_set hA hu (by omega) (wf_mono (wf_put hW p1 ⟨q2, b⟩) (by omega)) C1 R2 F2 S3 F3)))))
    · refine r_postpone hM b0 ?_ ?_ ?_ ?_ <;> intros <;> first | exact fin rfl hst | (exfalso; omega)
    · refine r_postpone hM b0 ?_ ?_ ?_ ?_ <;> intros <;> first | exact fin rfl hst | (exfalso; omega)
  · refine r_postpone hM b0 ?_ ?_ ?_ ?_ <;> intros <;> first | exact fin rfl hst | (exfalso; omega)
theorem r_series {x1 x2 x3 x4 : Int} {I : Mm} {M : Rw} {Q : Int → Mm → Prop} (hM : I 237 = M) (h4 : 0 ≤ M 4 ∧ M 4 ≤ 16) (h0 : 0 ≤ M 0 ∧ M 0 ≤ 200) (e1 : ¬ ((0 ≤ x1 ∧ x1 < M 4) ∧ (1 ≤ x2 ∧ x2 ≤ 999999) ∧ (0 ≤ x3 ∧ x3 ≤ 999999999) ∧ (1 ≤ x4 ∧ x4 ≤ 50)) → Q (-1) I) (e2 : (0 ≤ x1 ∧ x1 < M 4) ∧ (1 ≤ x2 ∧ x2 ≤ 999999) ∧ (0 ≤ x3 ∧ x3 ≤ 999999999) ∧ (1 ≤ x4 ∧ x4 ≤ 50) → x3 < M 3 → Q (-2) I) (e3 : (0 ≤ x1 ∧ x1 < M 4) ∧ (1 ≤ x2 ∧ x2 ≤ 999999) ∧ (0 ≤ x3 ∧ x3 ≤ 999999999) ∧ (1 ≤ x4 ∧ x4 ≤ 50) → M 3 ≤ x3 → ¬ (M 0 + x4 ≤ 200 ∧ x3 + (x4 - 1) * x2 ≤ 999999999) → Q (-3) I) (e4 : (0 ≤ x1 ∧ x1 < M 4) ∧ (1 ≤ x2 ∧ x2 ≤ 999999) ∧ (0 ≤ x3 ∧ x3 ≤ 999999999) ∧ (1 ≤ x4 ∧ x4 ≤ 50) → M 3 ≤ x3 → M 0 + x4 ≤ 200 ∧ x3 + (x4 - 1) * x2 ≤ 999999999 → V_M_keepsAct I (fun I32 => ∃ f37 : Nat, L_M_series_112 x1 x2 x3 x4 (I32 237 6) Q f37 0 I32)) : V_M_series x1 x2 x3 x4 I Q := by
  unfold V_M_series
  refine m_isName hM h4 (fun a1 a2 => ⟨fun q => absurd q (by decide), fun _ => m_in (fun b1 b2 => ⟨fun q => absurd q (by decide), fun _ => m_in (fun c1 c2 => ⟨fun q => absurd q (by decide), fun _ => m_in (fun d1 d2 => ⟨fun _ => ?_, fun q => absurd q (by decide)⟩) (fun q => ⟨fun q => absurd rfl q, fun _ => e1 (by omega)⟩)⟩) (fun q => ⟨fun _ => e1 (by omega), fun q => absurd rfl q⟩)⟩) (fun q => ⟨fun _ => e1 (by omega), fun q => absurd rfl q⟩)⟩) (fun q => ⟨fun _ => e1 (by omega), fun q => absurd rfl q⟩)
  have m1 : 0 ≤ (x4 - 1) * x2 := Int.mul_nonneg (by omega) (by omega)
  have m2 : (x4 - 1) * x2 ≤ 49 * 999999 := Int.le_trans (Int.mul_le_mul_of_nonneg_right (by omega : x4 - 1 ≤ 49) (by omega)) (by omega)
  have hall : (0 ≤ x1 ∧ x1 < M 4) ∧ (1 ≤ x2 ∧ x2 ≤ 999999) ∧ (0 ≤ x3 ∧ x3 ≤ 999999999) ∧ (1 ≤ x4 ∧ x4 ≤ 50) := ⟨⟨a1, a2⟩, ⟨b1, b2⟩, ⟨c1, c2⟩, d1, d2⟩
  rw [hM, show x2 * (x4 - 1) = (x4 - 1) * x2 from Int.mul_comm _ _]
  exact ⟨fun q => ⟨by omega, fun q2 => e3 hall q (by omega), fun q2 => ⟨by omega, by omega, fun q3 => e4 hall q (by omega), fun q3 => e3 hall q (by omega)⟩⟩, fun q => e2 hall q⟩
theorem m_often {G nam gap hour count z : Int} {I : Mm} {M : Rw} {Q : Int → Mm → Prop} (hM : I 237 = M) (hW : WF G M) (hnam : 0 ≤ nam ∧ nam < M 4) (hh : M 3 ≤ hour) (hg : 0 ≤ gap) (h1 : 0 ≤ count) (hc : M 0 + count ≤ 200) (hl : hour + (count - 1) * gap ≤ 999999999) (hG : G ≤ 2147200000) (hQ : Q z (rset I (oftR M nam gap hour count.toNat))) : ∃ f, L_M_series_112 nam gap hour count z Q f 0 I := by
  have b3 := hW.1.2.2.2.1
  have b0 := hW.1.1
  have hI : I = rset I (oftR M nam gap hour 0) := by unfold oftR; rw [← hM]; exact (rs_id I).symm
  rw [hI]
  refine lp (P := fun f i => L_M_series_112 nam gap hour count z Q f (i : Int) (rset I (oftR M nam gap hour i))) count.toNat (fun f => ?_) (fun i f hi ih => ?_)
  · simp only [L_M_series_112]
    exact ⟨fun _ => hQ, fun q => by omega⟩
  · have W1 := wf_oft hW hnam hh hg hc hl i (by omega)
    obtain ⟨e0, e6, el⟩ := oft_lo (M := M) (nam := nam) (gap := gap) (hour := hour) i
    have hd := oft_due hg hl i (by omega)
    simp only [L_M_series_112]
    rw [show gap * (i : Int) = (i : Int) * gap from Int.mul_comm _ _]
    refine ⟨fun q => by omega, fun _ => ⟨by omega, m_comesNew (rs_237 _ _) W1 (by rw [e0]; omega) (by rw [el 4 (by omega) (by omega)]; exact hnam) (by rw [el 3 (by omega) (by omega)]; omega) (by omega) ⟨by omega, ?_⟩⟩⟩
    rw [rs_rs]
    exact ih
theorem o_series {G x1 x2 x3 x4 : Int} {I : Mm} {Q : Mm → Prop} (hI : Inv G I) (hG : G ≤ 2143000000) (hQ : ∀ I' : Mm, Inv (G + 3000000) I' → Q I') : V_X_series x1 x2 x3 x4 I (fun z I1 => V_M_series x1 x2 x3 x4 I1 (fun z' I2 => (z = z' → Q I2) ∧ (¬ z = z' → False))) := by
  obtain ⟨M, u, H, k, S, l, T, hC, hR, hA⟩ := hI
  have hst : Q I := hQ I ⟨M, u, H, k, S, l, T, hC, hR, aw_mono hA (by omega)⟩
  have hW := hA.1
  have b0 := hW.1.1
  have b4 := hW.1.2.2.2.2.1
  have b3 := hW.1.2.2.2.1
  have hu := hC.2.1.2.1
  have n4 : I (1 + 1) 0 = M 4 := hC.1.1.1
  have n7 : I 1 7 = M 3 := hC.1.2.2.2.2.2.2.2.1
  have hM := hR.1
  have refuse : ¬ ((0 ≤ x1 ∧ x1 < M 4) ∧ (1 ≤ x2 ∧ x2 ≤ 999999) ∧ (0 ≤ x3 ∧ x3 ≤ 999999999) ∧ (1 ≤ x4 ∧ x4 ≤ 50)) → V_M_series x1 x2 x3 x4 I (fun z' I2 => ((-1 : Int) = z' → Q I2) ∧ (¬ (-1 : Int) = z' → False)) := fun q => r_series hM b4 b0 (fun _ => fin rfl hst) (fun w => absurd w q) (fun w => absurd w q) (fun w => absurd w q)
  unfold V_X_series
  refine s_nmHas (fun a1 a2 => ⟨fun q => absurd q (by decide), fun _ => x_gap (fun b1 b2 => ⟨fun q => absurd q (by decide), fun _ => x_hour (fun c1 c2 => ⟨fun q => absurd q (by decide), fun _ => ⟨fun q => refuse (by omega), fun d1 => ⟨fun q => refuse (by omega), fun d2 => ?_⟩⟩⟩) (fun q => ⟨fun _ => refuse (by omega), fun q => absurd rfl q⟩)⟩) (fun q => ⟨fun _ => refuse (by omega), fun q => absurd rfl q⟩)⟩) (fun q => ⟨fun _ => refuse (by omega), fun q => absurd rfl q⟩)
  rw [n4] at a2
  have hall : (0 ≤ x1 ∧ x1 < M 4) ∧ (1 ≤ x2 ∧ x2 ≤ 999999) ∧ (0 ≤ x3 ∧ x3 ≤ 999999999) ∧ (1 ≤ x4 ∧ x4 ≤ 50) := ⟨⟨a1, a2⟩, ⟨b1, b2⟩, ⟨c1, c2⟩, d1, d2⟩
  rw [n7]
  refine ⟨fun e => s_hasRoom hC.1 b0 ⟨d1, d2⟩ (by omega) ⟨b1, b2⟩ (fun r1 r2 => ⟨fun _ => ?_, fun q => absurd q (by decide)⟩) (fun r => ⟨fun q => absurd rfl q, fun _ => r_series hM b4 b0 (fun w => absurd hall w) (fun _ w => by omega) (fun _ _ _ => fin rfl hst) (fun _ _ w => absurd w r)⟩), fun e => r_series hM b4 b0 (fun w => absurd hall w) (fun _ _ => fin rfl hst) (fun _ w => by omega) (fun _ w => by omega)⟩
  refine x_rem hC hA (fun I1 C1 F1 => s_often C1.1 hW ⟨a1, a2⟩ e (by omega) (by omega) r1 r2 (by omega) (fun I2 R2 F2 => ?_))
  have hR2 := rs_fr2 hR (I' := I2) (fun a ha => by rw [F2 a (by omega), F1 a (by omega)])
  refine r_series hR2.1 b4 b0 (fun w => absurd hall w) (fun _ w => by omega) (fun _ _ w => absurd ⟨r1, r2⟩ w) (fun _ _ _ => m_keepsAct hR2 hu (fun I3 S3 F3 => ?_))
  rw [S3.1]
  exact m_often S3.1 hW ⟨a1, a2⟩ e (by omega) (by omega) r1 r2 (by omega) (fin rfl (hQ _ (act_set hA hu (by omega) (wf_mono (wf_oft hW ⟨a1, a2⟩ e (by omega) r1 r2 x4.toNat (by omega)) (by omega)) C1 R2 F2 S3 F3)))
