/-! operations that change the calendar -/
theorem x_hour {x : Int} {I : Mm} {Q : Int → Mm → Prop} (h1 : 0 ≤ x → x ≤ 999999999 → Q 1 I) (h0 : ¬ (0 ≤ x ∧ x ≤ 999999999) → Q 0 I) : V_X_isHour x I Q :=
  ⟨fun q => h0 (by omega), fun q => ⟨fun r => h0 (by omega), fun r => h1 q r⟩⟩
theorem x_gap {x : Int} {I : Mm} {Q : Int → Mm → Prop} (h1 : 1 ≤ x → x ≤ 999999 → Q 1 I) (h0 : ¬ (1 ≤ x ∧ x ≤ 999999) → Q 0 I) : V_X_isGap x I Q :=
  ⟨fun q => h0 (by omega), fun q => ⟨fun r => h0 (by omega), fun r => h1 q r⟩⟩
theorem x_width {x : Int} {I : Mm} {Q : Int → Mm → Prop} (h1 : 1 ≤ x → x ≤ 99999999 → Q 1 I) (h0 : ¬ (1 ≤ x ∧ x ≤ 99999999) → Q 0 I) : V_X_isWidth x I Q :=
  ⟨fun q => h0 (by omega), fun q => ⟨fun r => h0 (by omega), fun r => h1 q r⟩⟩
theorem x_span {x : Int} {I : Mm} {Q : Int → Mm → Prop} (h1 : 1 ≤ x → x ≤ 999999999 → Q 1 I) (h0 : ¬ (1 ≤ x ∧ x ≤ 999999999) → Q 0 I) : V_X_isSpan x I Q :=
  ⟨fun q => h0 (by omega), fun q => ⟨fun r => h0 (by omega), fun r => h1 q r⟩⟩
theorem x_shelf {x : Int} {I : Mm} {Q : Int → Mm → Prop} (h1 : 0 ≤ x → x < 2 → Q 1 I) (h0 : ¬ (0 ≤ x ∧ x < 2) → Q 0 I) : V_X_isShelf x I Q :=
  ⟨fun q => h0 (by omega), fun q => ⟨fun r => h0 (by omega), fun r => h1 q r⟩⟩
def pcI (x : Int) : Int :=
  bAnd (((bAnd ((bAnd (x - bAnd (bUshr x 1) 1431655765) 858993459 + bAnd (bUshr (x - bAnd (bUshr x 1) 1431655765) 2) 858993459) + bUshr (bAnd (x - bAnd (bUshr x 1) 1431655765) 858993459 + bAnd (bUshr (x - bAnd (bUshr x 1) 1431655765) 2) 858993459) 4) 252645135) + bUshr (bAnd ((bAnd (x - bAnd (bUshr x 1) 1431655765) 858993459 + bAnd (bUshr (x - bAnd (bUshr x 1) 1431655765) 2) 858993459) + bUshr (bAnd (x - bAnd (bUshr x 1) 1431655765) 858993459 + bAnd (bUshr (x - bAnd (bUshr x 1) 1431655765) 2) 858993459) 4) 252645135) 8) + bUshr ((bAnd ((bAnd (x - bAnd (bUshr x 1) 1431655765) 858993459 + bAnd (bUshr (x - bAnd (bUshr x 1) 1431655765) 2) 858993459) + bUshr (bAnd (x - bAnd (bUshr x 1) 1431655765) 858993459 + bAnd (bUshr (x - bAnd (bUshr x 1) 1431655765) 2) 858993459) 4) 252645135) + bUshr (bAnd ((bAnd (x - bAnd (bUshr x 1) 1431655765) 858993459 + bAnd (bUshr (x - bAnd (bUshr x 1) 1431655765) 2) 858993459) + bUshr (bAnd (x - bAnd (bUshr x 1) 1431655765) 858993459 + bAnd (bUshr (x - bAnd (bUshr x 1) 1431655765) 2) 858993459) 4) 252645135) 8) 16) 63
theorem pc_rows : ∀ n : Nat, n < 65 → 2 ≤ n → (decide (pcI (n : Int) = 1) = decide (n = 2 ∨ n = 4 ∨ n = 8 ∨ n = 16 ∨ n = 32 ∨ n = 64)) := by decide
theorem x_rows {x : Int} {I : Mm} {Q : Int → Mm → Prop} (h1 : rw6 x → Q 1 I) (h0 : ¬ rw6 x → Q 0 I) : V_X_isRows x I Q := by
  refine ⟨fun q => h0 (by omega), fun q => ⟨fun r => h0 (by omega), fun r => ?_⟩⟩
  obtain ⟨n, rfl⟩ := nat_of (show 0 ≤ x by omega)
  have hp := pc_rows n (by omega) (by omega)
  intro y1 e1 y2 e2 y3 e3 y4 e4
  subst e1 e2 e3 e4
  refine ⟨fun q2 => h0 (fun w => ?_), fun q2 => h1 ?_⟩
  · have : decide (n = 2 ∨ n = 4 ∨ n = 8 ∨ n = 16 ∨ n = 32 ∨ n = 64) = true := decide_eq_true (by omega)
    rw [this] at hp
    exact q2 (of_decide_eq_true hp)
  · have : decide (pcI (n : Int) = 1) = true := decide_eq_true q2
    rw [this] at hp
    have := of_decide_eq_true hp.symm
    omega
theorem m_areRows {x : Int} {I : Mm} {Q : Int → Mm → Prop} (h1 : rw6 x → Q 1 I) (h0 : ¬ rw6 x → Q 0 I) : V_M_areRows x I Q :=
  ⟨fun q => h1 (by omega), fun _ => ⟨fun q => h1 (by omega), fun _ => ⟨fun q => h1 (by omega), fun _ => ⟨fun q => h1 (by omega), fun _ => ⟨fun q => h1 (by omega), fun _ => ⟨fun q => h0 (by omega), fun q => h1 (by omega)⟩⟩⟩⟩⟩⟩
theorem m_placeOf {x1 : Int} {I : Mm} {M : Rw} {Q : Int → Mm → Prop} (hM : I 237 = M) (h0 : 0 ≤ M 0 ∧ M 0 ≤ 200) (hQ : Q (plcR M x1) I) : V_M_placeOf x1 I Q := by
  unfold plcR at hQ
  refine lp_first (P := fun f i => L_M_placeOf_2 x1 Q f (i : Int) I) (fun k => decide (M (380 + k) = x1)) (M 0).toNat (fun hall f => ?_) (fun i f hi hi2 hp => ?_) (fun i f hi hp ih => ?_)
  · simp only [L_M_placeOf_2]
    rw [hM]
    refine ⟨fun _ => ?_, fun q => by omega⟩
    rcases fstB_is (fun k => decide (M (380 + k) = x1)) (M 0).toNat with ⟨h, -⟩ | ⟨h, h2, -⟩
    · rw [h] at hQ; exact hQ
    · exact absurd h2 (by rw [hall _ h.1 h.2]; decide)
  · simp only [L_M_placeOf_2]
    rw [hM]
    rw [← hi] at hQ
    exact ⟨fun q => by omega, fun _ => ⟨by omega, fun q => absurd (of_decide_eq_true hp) q, fun _ => hQ⟩⟩
  · simp only [L_M_placeOf_2]
    rw [hM]
    exact ⟨fun q => by omega, fun _ => ⟨by omega, fun q => ⟨by omega, ih⟩, fun q => absurd q (of_decide_eq_false hp)⟩⟩
theorem m_firstOf {x1 : Int} {I : Mm} {M : Rw} {Q : Int → Mm → Prop} (hM : I 237 = M) (h0 : 0 ≤ M 0 ∧ M 0 ≤ 200) (hQ : Q (fnmR M x1) I) : V_M_firstOf x1 I Q := by
  unfold fnmR at hQ
  refine lp_first (P := fun f i => L_M_firstOf_2 x1 Q f (i : Int) I) (fun k => decide (M (580 + k) = x1)) (M 0).toNat (fun hall f => ?_) (fun i f hi hi2 hp => ?_) (fun i f hi hp ih => ?_)
  · simp only [L_M_firstOf_2]
    rw [hM]
    refine ⟨fun _ => ?_, fun q => by omega⟩
    rcases fstB_is (fun k => decide (M (580 + k) = x1)) (M 0).toNat with ⟨h, -⟩ | ⟨h, h2, -⟩
    · rw [h] at hQ; exact hQ
    · exact absurd h2 (by rw [hall _ h.1 h.2]; decide)
  · simp only [L_M_firstOf_2]
    rw [hM]
    rw [← hi] at hQ
    exact ⟨fun q => by omega, fun _ => ⟨by omega, fun q => absurd (of_decide_eq_true hp) q, fun _ => hQ⟩⟩
  · simp only [L_M_firstOf_2]
    rw [hM]
    exact ⟨fun q => by omega, fun _ => ⟨by omega, fun q => ⟨by omega, ih⟩, fun q => absurd q (of_decide_eq_false hp)⟩⟩
theorem m_waiting {x1 : Int} {I : Mm} {M : Rw} {Q : Int → Mm → Prop} (hM : I 237 = M) (h0 : 0 ≤ M 0 ∧ M 0 ≤ 200) (hQ : Q (cnmR M x1) I) : V_M_waiting x1 I Q := by
  unfold cnmR at hQ
  refine lp (P := fun f i => L_M_waiting_4 x1 Q f (cntB (fun k => decide (M (580 + k) = x1)) i) (i : Int) I) (M 0).toNat (fun f => ?_) (fun i f hi ih => ?_)
  · simp only [L_M_waiting_4]
    rw [hM]
    exact ⟨fun _ => hQ, fun q => by omega⟩
  · have r := cntB_rng (fun k => decide (M (580 + k) = x1)) i
    rw [cntB_s] at ih
    simp only [L_M_waiting_4]
    rw [hM]
    refine ⟨fun q => by omega, fun _ => ⟨by omega, fun q => ⟨by omega, by omega, ?_⟩, fun q => ⟨by omega, by omega, ?_⟩⟩⟩
    · rw [if_neg (by simpa using q)] at ih; exact ih
    · rw [if_pos (by simpa using q)] at ih; exact ih
theorem m_rulesOf {x1 : Int} {I : Mm} {M : Rw} {Q : Int → Mm → Prop} (hM : I 237 = M) (h0 : 0 ≤ M 5 ∧ M 5 ≤ 12) (hQ : Q (crlR M x1) I) : V_M_rulesOf x1 I Q := by
  unfold crlR at hQ
  refine lp (P := fun f i => L_M_rulesOf_4 x1 Q f (cntB (fun r => decide (M (144 + 3 * r) = x1)) i) (i : Int) I) (M 5).toNat (fun f => ?_) (fun i f hi ih => ?_)
  · simp only [L_M_rulesOf_4]
    rw [hM]
    exact ⟨fun _ => hQ, fun q => by omega⟩
  · have r := cntB_rng (fun r => decide (M (144 + 3 * r) = x1)) i
    rw [cntB_s] at ih
    simp only [L_M_rulesOf_4]
    rw [hM]
    refine ⟨fun q => by omega, fun _ => ⟨by omega, fun q => ⟨by omega, by omega, ?_⟩, fun q => ⟨by omega, by omega, ?_⟩⟩⟩
    · rw [if_neg (by simpa using q)] at ih; exact ih
    · rw [if_pos (by simpa using q)] at ih; exact ih
theorem stay {G : Int} {I I' : Mm} {M : Rw} {u : Int} {H : Int → Rw} {k : Int → Int} {S : Int → Rw} {l : Int} {T : Int → Int} (hC : CS I M u H k S l T) (hR : RS I' M u H k S l T) (hA : AW G M u H k S l T) (hI : ∀ a : Int, cell1 a → I' a = I a) : Inv G I' := ⟨M, u, H, k, S, l, T, cs_fr hC hA hI, hR, hA⟩
/-- an act: both remember, then both rows become M' -/
theorem act_end {G G' : Int} {I I1 I2 I3 I4 : Mm} {M M' : Rw} {u : Int} {H : Int → Rw} {k : Int → Int} {S : Int → Rw} {l : Int} {T : Int → Int} (hA : AW G M u H k S l T) (hu : 0 ≤ u ∧ u ≤ 10) (hG : G ≤ G') (hW : WF G' M') (C1 : CS I1 M (min (u + 1) 10) (psh u H M) k S l T) (R2 : RepC I2 1 M') (F2 : Frm 1 I1 I2) (S3 : RS I3 M (min (u + 1) 10) (psh u H M) k S l T) (F3 : ∀ a : Int, a < 236 → I3 a = I2 a) (h4 : I4 237 = M') (F4 : ∀ a : Int, a ≠ 236 → a ≠ 237 → I4 a = I3 a) (h43 : I4 236 3 = I3 236 3) (h416 : I4 236 16 = I3 236 16) : Inv G' I4 := by
  have A2 := aw_psh hA hu
  have C2 := cs_upd C1 A2 R2 F2
  have A3 := aw_upd (aw_mono A2 hG) hW
  exact ⟨M', _, _, _, _, _, _, cs_fr C2 A3 (fun a ha => by rw [F4 a (by omega) (by omega), F3 a (by omega)]), rs_row S3 h4 (fun a ha => F4 a (by omega) (by omega)) h43 h416, A3⟩
theorem act_set {G G' : Int} {I1 I2 I3 : Mm} {M M' : Rw} {u : Int} {H : Int → Rw} {k : Int → Int} {S : Int → Rw} {l : Int} {T : Int → Int} (hA : AW G M u H k S l T) (hu : 0 ≤ u ∧ u ≤ 10) (hG : G ≤ G') (hW : WF G' M') (C1 : CS I1 M (min (u + 1) 10) (psh u H M) k S l T) (R2 : RepC I2 1 M') (F2 : Frm 1 I1 I2) (S3 : RS I3 M (min (u + 1) 10) (psh u H M) k S l T) (F3 : ∀ a : Int, a < 236 → I3 a = I2 a) : Inv G' (rset I3 M') :=
  act_end (I := I1) hA hu hG hW C1 R2 F2 S3 F3 (rs_237 _ _) (fun a _ h => rs_ne _ _ h) (by rw [rs_236]) (by rw [rs_236])
theorem o_push {G x1 x2 : Int} {I : Mm} {Q : Mm → Prop} (hI : Inv G I) (hG : G ≤ 2143000000) (hQ : ∀ I' : Mm, Inv (G + 3000000) I' → Q I') : V_X_push x1 x2 I (fun z I1 => V_M_push x1 x2 I1 (fun z' I2 => (z = z' → Q I2) ∧ (¬ z = z' → False))) := by
  obtain ⟨M, u, H, k, S, l, T, hC, hR, hA⟩ := hI
  have hst : Q I := hQ I ⟨M, u, H, k, S, l, T, hC, hR, aw_mono hA (by omega)⟩
  have hW := hA.1
  obtain ⟨b0, b1, b2, b3, b4, b5, b6, b7, b8⟩ := hW.1
  have hu := hC.2.1.2.1
  have n4 : I (1 + 1) 0 = M 4 := hC.1.1.1
  have n0 : I (1 + 5) 0 = M 0 := hC.1.2.1.1
  have n7 : I 1 7 = M 3 := hC.1.2.2.2.2.2.2.2.1
  have hM := hR.1
  unfold V_X_push V_M_push
  refine s_nmHas (fun a b => ⟨fun q => absurd q (by decide), fun _ => ?_⟩) (fun q => ⟨fun _ => m_isName hM b4 (fun c d => absurd ⟨c, by rw [n4]; exact d⟩ q) (fun _ => ⟨fun _ => fin rfl hst, fun q => absurd rfl q⟩), fun q => absurd rfl q⟩)
  rw [n4] at b
  refine x_hour (fun c d => ⟨fun _ => ?_, fun q => absurd q (by decide)⟩) (fun q => ⟨fun q => absurd rfl q, fun _ => m_isName hM b4 (fun _ _ => ⟨fun q => absurd q (by decide), fun _ => m_in (fun c d => absurd ⟨c, d⟩ q) (fun _ => ⟨fun q => absurd rfl q, fun _ => fin rfl hst⟩)⟩) (fun q => absurd ⟨a, b⟩ q)⟩)
  have mn : ∀ (I1 : Mm) (P : Mm → Prop) (P' : Mm → Prop), I1 237 = M → (V_M_in x2 0 999999999 I1 (fun z23 I24 => (¬ z23 = 0 → P I24) ∧ (z23 = 0 → P' I24)) ↔ V_M_in x2 0 999999999 I1 (fun z23 I24 => (¬ z23 = 0 → P I24) ∧ (z23 = 0 → P' I24))) := fun _ _ _ _ => Iff.rfl
  rw [n7, n0]
  refine ⟨fun e => ⟨fun e2 => ?_, fun e2 => m_isName hM b4 (fun _ _ => ⟨fun q => absurd q (by decide), fun _ => m_in (fun _ _ => ⟨fun _ => ⟨fun _ => ⟨fun q => by rw [hM] at q; omega, fun _ => fin rfl hst⟩, fun q => by rw [hM] at q; omega⟩, fun q => absurd q (by decide)⟩) (fun q => absurd ⟨c, d⟩ q)⟩) (fun q => absurd ⟨a, b⟩ q)⟩, fun e => m_isName hM b4 (fun _ _ => ⟨fun q => absurd q (by decide), fun _ => m_in (fun _ _ => ⟨fun _ => ⟨fun q => by rw [hM] at q; omega, fun _ => fin rfl hst⟩, fun q => absurd q (by decide)⟩) (fun q => absurd ⟨c, d⟩ q)⟩) (fun q => absurd ⟨a, b⟩ q)⟩
  refine x_rem hC hA (fun I1 C1 F1 => s_often C1.1 hW ⟨a, b⟩ e (by omega) (by omega) (by omega) (by omega) (by omega) (fun I2 R2 F2 => ?_))
  have hR2 := rs_fr2 hR (I' := I2) (fun a ha => by rw [F2 a (by omega), F1 a (by omega)])
  have hM2 := hR2.1
  have eo : oftR M x1 1 x2 (1 : Int).toNat = newR M x1 x2 := by
    show newR M x1 (x2 + ((0 : Nat) : Int) * 1) = newR M x1 x2
    rw [show x2 + ((0 : Nat) : Int) * 1 = x2 by omega]
  rw [eo] at R2
  refine m_isName hM2 b4 (fun _ _ => ⟨fun q => absurd q (by decide), fun _ => m_in (fun _ _ => ⟨fun _ => ⟨fun _ => ⟨fun _ => ?_, fun q => by rw [hM2] at q; omega⟩, fun q => by rw [hM2] at q; omega⟩, fun q => absurd q (by decide)⟩) (fun q => absurd ⟨c, d⟩ q)⟩) (fun q => absurd ⟨a, b⟩ q)
  exact m_keepsAct hR2 hu (fun I3 S3 F3 => m_comesNew S3.1 hW e2 ⟨a, b⟩ ⟨e, d⟩ (by omega) (fin rfl (hQ _ (act_set hA hu (by omega) (wf_mono (wf_new hW e2 ⟨a, b⟩ ⟨e, d⟩) (by omega)) C1 R2 F2 S3 F3))))
