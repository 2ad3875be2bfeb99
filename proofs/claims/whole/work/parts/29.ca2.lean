/-! the Calendar's methods -/
theorem s_hasRoom {c x1 x2 x3 : Int} {I : Mm} {M : Rw} {Q : Int → Mm → Prop} (hR : RepC I c M) (h0 : 0 ≤ M 0 ∧ M 0 ≤ 200) (h3 : 1 ≤ x3 ∧ x3 ≤ 50) (h2 : 0 ≤ x2 ∧ x2 ≤ 1000999998) (h1 : 1 ≤ x1 ∧ x1 ≤ 999999) (hq1 : M 0 + x3 ≤ 200 → x2 + (x3 - 1) * x1 ≤ 999999999 → Q 1 I) (hq0 : ¬ (M 0 + x3 ≤ 200 ∧ x2 + (x3 - 1) * x1 ≤ 999999999) → Q 0 I) : V_Ca_hasRoomFor c x1 x2 x3 I Q := by
  obtain ⟨-, ⟨hn, -⟩, -⟩ := hR
  have e : I (c + 5) 0 = M 0 := hn
  have b1 : 0 ≤ (x3 - 1) * x1 := Int.mul_nonneg (by omega) (by omega)
  have b2 : (x3 - 1) * x1 ≤ 49 * 999999 := Int.le_trans (Int.mul_le_mul_of_nonneg_right (by omega : x3 - 1 ≤ 49) (by omega)) (by omega)
  unfold V_Ca_hasRoomFor
  rw [e]
  refine ⟨by omega, fun q => hq0 (by omega), fun q => ⟨by omega, fun r => hq0 (by omega), fun r => hq1 (by omega) r⟩⟩
theorem s_caLay {c r w : Int} {I : Mm} {M : Rw} {Q : Mm → Prop} (hR : RepC I c M) (hB : (0 ≤ M 4 ∧ M 4 ≤ 16) ∧ (0 ≤ M 5 ∧ M 5 ≤ 12) ∧ (0 ≤ M 7 ∧ M 7 ≤ 50)) (hr : r32 (M 9 + M 0)) (hQ : ∀ I' : Mm, RepC I' c (layR M r w) → Frm c I I' → Q I') : V_Ca_lay c r w I Q := by
  obtain ⟨rn, rt, ru, rl, tot, h5, h6, h7, h8⟩ := hR
  have t1 := tot 1 (by omega) (by omega)
  have t0 := rt.1
  unfold V_Ca_lay
  have e1 : wrM (wrM I c 5 r) c 6 w (c + 15) 1 = M 9 := by rw [← show (8 + 1 : Int) = 9 by decide, ← t1]; rw [wr_n (by omega), wr_n (by omega)]
  have e2 : wrM (wrM I c 5 r) c 6 w (c + 5) 0 = M 0 := by rw [← t0, wr_n (by omega), wr_n (by omega)]
  rw [e1, e2]
  have hI : ∀ a : Int, a ≠ c → a ≠ c + 15 → wrM (wrM (wrM I c 5 r) c 6 w) (c + 15) 1 (M 9 + M 0) a = I a := fun a u v => by rw [wr_oth _ v, wr_oth _ u, wr_oth _ u]
  have hL : ∀ j : Int, j ≠ 1 → j ≠ 2 → j ≠ 9 → layR M r w j = M j := fun j u v x => by unfold layR; rw [if_neg u, if_neg v, if_neg x]
  refine ⟨hr, hQ _ ⟨rnm_c rn hB.1.2 (fun a u v => hI a (by omega) (by omega)) rfl (fun j u v => hL j (by omega) (by omega) (by omega)), rth_c rt (fun a u v => hI a (by omega) (by omega)) rfl (fun j u => hL j (by omega) (by omega) (by omega)), rru_c ru hB.2.1.2 (fun a u v => hI a (by omega) (by omega)) rfl (fun j u v => hL j (by omega) (by omega) (by omega)), rlo_c rl hB.2.2.2 (fun a u v => hI a (by omega) (by omega)) rfl (fun j u v => hL j (by omega) (by omega) (by omega)), fun j u v => ?_, ?_, ?_, ?_, ?_⟩ (fun a ha => hI a (by omega) (by omega))⟩
  · have := tot j u v
    by_cases q : j = 1
    · subst q; simp [wrM, layR]
    · rw [wr_n (by omega), wr_n (by omega), wr_n (by omega), hL _ (by omega) (by omega) (by omega)]; exact this
  · simp [wrM, layR]
  · simp [wrM, layR]
  · rw [wr_n (by omega), wr_n (by omega), wr_n (by omega), hL _ (by omega) (by omega) (by omega)]; exact h7
  · rw [wr_n (by omega), wr_n (by omega), wr_n (by omega), hL _ (by omega) (by omega) (by omega)]; exact h8
/-- one of the totals is more by d -/
theorem rep_mo {c k d : Int} {I : Mm} {M : Rw} (hR : RepC I c M) (hB : (0 ≤ M 4 ∧ M 4 ≤ 16) ∧ (0 ≤ M 5 ∧ M 5 ≤ 12) ∧ (0 ≤ M 7 ∧ M 7 ≤ 50)) (hk : 0 ≤ k ∧ k < 8) (v : Int) (hv : v = I (c + 15) k + d) : RepC (wrM I (c + 15) k v) c (moR M (8 + k) d) ∧ Frm c I (wrM I (c + 15) k v) := by
  obtain ⟨rn, rt, ru, rl, tot, h5, h6, h7, h8⟩ := hR
  subst hv
  have hI : ∀ (a v : Int), a ≠ c + 15 → wrM I (c + 15) k v a = I a := fun a v u => wr_oth _ u
  have hL : ∀ j : Int, j ≠ 8 + k → moR M (8 + k) d j = M j := fun j u => mo_ne u
  refine ⟨⟨rnm_c rn hB.1.2 (fun a u v => hI a _ (by omega)) (hL _ (by omega)) (fun j u v => hL j (by omega)), rth_c rt (fun a u v => hI a _ (by omega)) (hL _ (by omega)) (fun j u => hL j (by omega)), rru_c ru hB.2.1.2 (fun a u v => hI a _ (by omega)) (hL _ (by omega)) (fun j u v => hL j (by omega)), rlo_c rl hB.2.2.2 (fun a u v => hI a _ (by omega)) (hL _ (by omega)) (fun j u v => hL j (by omega)), fun j u v => ?_, ?_, ?_, ?_, ?_⟩, fun a ha => hI a _ (by omega)⟩
  · have := tot j u v
    by_cases q : j = k
    · subst q; rw [wr_s, this]; simp [moR]
    · rw [wr_n (by omega), hL _ (by omega)]; exact this
  · rw [wr_n (by omega), hL _ (by omega)]; exact h5
  · rw [wr_n (by omega), hL _ (by omega)]; exact h6
  · rw [wr_n (by omega), hL _ (by omega)]; exact h7
  · rw [wr_n (by omega), hL _ (by omega)]; exact h8
/-- the next number is one more -/
theorem rep_nx {c : Int} {I : Mm} {M : Rw} (hR : RepC I c M) (hB : (0 ≤ M 4 ∧ M 4 ≤ 16) ∧ (0 ≤ M 5 ∧ M 5 ≤ 12) ∧ (0 ≤ M 7 ∧ M 7 ≤ 50)) : RepC (wrM I c 8 (I c 8 + 1)) c (moR M 6 1) ∧ Frm c I (wrM I c 8 (I c 8 + 1)) := by
  obtain ⟨rn, rt, ru, rl, tot, h5, h6, h7, h8⟩ := hR
  have hI : ∀ (a v : Int), a ≠ c → wrM I c 8 v a = I a := fun a v u => wr_oth _ u
  have hL : ∀ j : Int, j ≠ 6 → moR M 6 1 j = M j := fun j u => mo_ne u
  refine ⟨⟨rnm_c rn hB.1.2 (fun a u v => hI a _ (by omega)) (hL _ (by omega)) (fun j u v => hL j (by omega)), rth_c rt (fun a u v => hI a _ (by omega)) (hL _ (by omega)) (fun j u => hL j (by omega)), rru_c ru hB.2.1.2 (fun a u v => hI a _ (by omega)) (hL _ (by omega)) (fun j u v => hL j (by omega)), rlo_c rl hB.2.2.2 (fun a u v => hI a _ (by omega)) (hL _ (by omega)) (fun j u v => hL j (by omega)), fun j u v => ?_, ?_, ?_, ?_, ?_⟩, fun a ha => hI a _ (by omega)⟩
  · rw [hI _ _ (by omega), hL _ (by omega)]; exact tot j u v
  · rw [wr_n (by omega), hL _ (by omega)]; exact h5
  · rw [wr_n (by omega), hL _ (by omega)]; exact h6
  · rw [wr_n (by omega), hL _ (by omega)]; exact h7
  · rw [wr_s, h8]; simp [moR]
/-- now is set -/
def nowR (M : Rw) (h : Int) : Rw := fun j => if j = 3 then h else M j
theorem rep_now {c h : Int} {I : Mm} {M : Rw} (hR : RepC I c M) (hB : (0 ≤ M 4 ∧ M 4 ≤ 16) ∧ (0 ≤ M 5 ∧ M 5 ≤ 12) ∧ (0 ≤ M 7 ∧ M 7 ≤ 50)) : RepC (wrM I c 7 h) c (nowR M h) ∧ Frm c I (wrM I c 7 h) := by
  obtain ⟨rn, rt, ru, rl, tot, h5, h6, h7, h8⟩ := hR
  have hI : ∀ (a v : Int), a ≠ c → wrM I c 7 v a = I a := fun a v u => wr_oth _ u
  have hL : ∀ j : Int, j ≠ 3 → nowR M h j = M j := fun j u => by unfold nowR; rw [if_neg u]
  refine ⟨⟨rnm_c rn hB.1.2 (fun a u v => hI a _ (by omega)) (hL _ (by omega)) (fun j u v => hL j (by omega)), rth_c rt (fun a u v => hI a _ (by omega)) (hL _ (by omega)) (fun j u => hL j (by omega)), rru_c ru hB.2.1.2 (fun a u v => hI a _ (by omega)) (hL _ (by omega)) (fun j u v => hL j (by omega)), rlo_c rl hB.2.2.2 (fun a u v => hI a _ (by omega)) (hL _ (by omega)) (fun j u v => hL j (by omega)), fun j u v => ?_, ?_, ?_, ?_, ?_⟩, fun a ha => hI a _ (by omega)⟩
  · rw [hI _ _ (by omega), hL _ (by omega)]; exact tot j u v
  · rw [wr_n (by omega), hL _ (by omega)]; exact h5
  · rw [wr_n (by omega), hL _ (by omega)]; exact h6
  · rw [wr_s]; simp [nowR]
  · rw [wr_n (by omega), hL _ (by omega)]; exact h8
/-- the Things alone have changed -/
theorem rep_th {c : Int} {I I' : Mm} {M M' : Rw} (hR : RepC I c M) (hB : (0 ≤ M 4 ∧ M 4 ≤ 16) ∧ (0 ≤ M 5 ∧ M 5 ≤ 12) ∧ (0 ≤ M 7 ∧ M 7 ≤ 50)) (hT : RTh I' (c + 5) M') (hF : ∀ a : Int, ¬ (c + 5 ≤ a ∧ a < c + 5 + 4) → I' a = I a) (hM : ∀ j : Int, j ≠ 0 → j < 380 → M' j = M j) : RepC I' c M' ∧ Frm c I I' := by
  obtain ⟨rn, rt, ru, rl, tot, h5, h6, h7, h8⟩ := hR
  refine ⟨⟨rnm_c rn hB.1.2 (fun a u v => hF a (by omega)) (hM _ (by omega) (by omega)) (fun j u v => hM j (by omega) (by omega)), hT, rru_c ru hB.2.1.2 (fun a u v => hF a (by omega)) (hM _ (by omega) (by omega)) (fun j u v => hM j (by omega) (by omega)), rlo_c rl hB.2.2.2 (fun a u v => hF a (by omega)) (hM _ (by omega) (by omega)) (fun j u v => hM j (by omega) (by omega)), fun j u v => ?_, ?_, ?_, ?_, ?_⟩, fun a ha => hF a (by omega)⟩
  · rw [hF _ (by omega), hM _ (by omega) (by omega)]; exact tot j u v
  · rw [hF _ (by omega), hM _ (by omega) (by omega)]; exact h5
  · rw [hF _ (by omega), hM _ (by omega) (by omega)]; exact h6
  · rw [hF _ (by omega), hM _ (by omega) (by omega)]; exact h7
  · rw [hF _ (by omega), hM _ (by omega) (by omega)]; exact h8
theorem rep_nm {c : Int} {I I' : Mm} {M M' : Rw} (hR : RepC I c M) (hB : (0 ≤ M 4 ∧ M 4 ≤ 16) ∧ (0 ≤ M 5 ∧ M 5 ≤ 12) ∧ (0 ≤ M 7 ∧ M 7 ≤ 50)) (hT : RNm I' (c + 1) M') (hF : ∀ a : Int, ¬ (c + 1 ≤ a ∧ a < c + 1 + 4) → I' a = I a) (hM : ∀ j : Int, ¬ (j = 4 ∨ 16 ≤ j ∧ j < 144) → M' j = M j) : RepC I' c M' ∧ Frm c I I' := by
  obtain ⟨rn, rt, ru, rl, tot, h5, h6, h7, h8⟩ := hR
  refine ⟨⟨hT, rth_c rt (fun a u v => hF a (by omega)) (hM _ (by omega)) (fun j u => hM j (by omega)), rru_c ru hB.2.1.2 (fun a u v => hF a (by omega)) (hM _ (by omega)) (fun j u v => hM j (by omega)), rlo_c rl hB.2.2.2 (fun a u v => hF a (by omega)) (hM _ (by omega)) (fun j u v => hM j (by omega)), fun j u v => ?_, ?_, ?_, ?_, ?_⟩, fun a ha => hF a (by omega)⟩
  · rw [hF _ (by omega), hM _ (by omega)]; exact tot j u v
  · rw [hF _ (by omega), hM _ (by omega)]; exact h5
  · rw [hF _ (by omega), hM _ (by omega)]; exact h6
  · rw [hF _ (by omega), hM _ (by omega)]; exact h7
  · rw [hF _ (by omega), hM _ (by omega)]; exact h8
theorem rep_ru {c : Int} {I I' : Mm} {M M' : Rw} (hR : RepC I c M) (hB : (0 ≤ M 4 ∧ M 4 ≤ 16) ∧ (0 ≤ M 5 ∧ M 5 ≤ 12) ∧ (0 ≤ M 7 ∧ M 7 ≤ 50)) (hT : RRu I' (c + 9) M') (hF : ∀ a : Int, ¬ (c + 9 ≤ a ∧ a < c + 9 + 4) → I' a = I a) (hM : ∀ j : Int, ¬ (j = 5 ∨ 144 ≤ j ∧ j < 180) → M' j = M j) : RepC I' c M' ∧ Frm c I I' := by
  obtain ⟨rn, rt, ru, rl, tot, h5, h6, h7, h8⟩ := hR
  refine ⟨⟨rnm_c rn hB.1.2 (fun a u v => hF a (by omega)) (hM _ (by omega)) (fun j u v => hM j (by omega)), rth_c rt (fun a u v => hF a (by omega)) (hM _ (by omega)) (fun j u => hM j (by omega)), hT, rlo_c rl hB.2.2.2 (fun a u v => hF a (by omega)) (hM _ (by omega)) (fun j u v => hM j (by omega)), fun j u v => ?_, ?_, ?_, ?_, ?_⟩, fun a ha => hF a (by omega)⟩
  · rw [hF _ (by omega), hM _ (by omega)]; exact tot j u v
  · rw [hF _ (by omega), hM _ (by omega)]; exact h5
  · rw [hF _ (by omega), hM _ (by omega)]; exact h6
  · rw [hF _ (by omega), hM _ (by omega)]; exact h7
  · rw [hF _ (by omega), hM _ (by omega)]; exact h8
theorem rep_lo {c : Int} {I I' : Mm} {M M' : Rw} (hR : RepC I c M) (hB : (0 ≤ M 4 ∧ M 4 ≤ 16) ∧ (0 ≤ M 5 ∧ M 5 ≤ 12) ∧ (0 ≤ M 7 ∧ M 7 ≤ 50)) (hT : RLo I' (c + 13) M') (hF : ∀ a : Int, ¬ (c + 13 ≤ a ∧ a < c + 13 + 2) → I' a = I a) (hM : ∀ j : Int, ¬ (j = 7 ∨ 180 ≤ j ∧ j < 380) → M' j = M j) : RepC I' c M' ∧ Frm c I I' := by
  obtain ⟨rn, rt, ru, rl, tot, h5, h6, h7, h8⟩ := hR
  refine ⟨⟨rnm_c rn hB.1.2 (fun a u v => hF a (by omega)) (hM _ (by omega)) (fun j u v => hM j (by omega)), rth_c rt (fun a u v => hF a (by omega)) (hM _ (by omega)) (fun j u => hM j (by omega)), rru_c ru hB.2.1.2 (fun a u v => hF a (by omega)) (hM _ (by omega)) (fun j u v => hM j (by omega)), hT, fun j u v => ?_, ?_, ?_, ?_, ?_⟩, fun a ha => hF a (by omega)⟩
  · rw [hF _ (by omega), hM _ (by omega)]; exact tot j u v
  · rw [hF _ (by omega), hM _ (by omega)]; exact h5
  · rw [hF _ (by omega), hM _ (by omega)]; exact h6
  · rw [hF _ (by omega), hM _ (by omega)]; exact h7
  · rw [hF _ (by omega), hM _ (by omega)]; exact h8
theorem wf_b {G : Int} {M : Rw} (h : WF G M) : (0 ≤ M 4 ∧ M 4 ≤ 16) ∧ (0 ≤ M 5 ∧ M 5 ≤ 12) ∧ (0 ≤ M 7 ∧ M 7 ≤ 50) := by
  obtain ⟨⟨b0, b1, b2, b3, b4, b5, b6, b7, b8⟩, -⟩ := h
  exact ⟨b4, b5, b7⟩
/-- the rows anew, and a total of it -/
theorem s_anew {c G r k : Int} {I : Mm} {M : Rw} {Q : Mm → Prop} (hR : RepC I c M) (hW : WF G M) (hG : G ≤ 2147483000) (hk : k = 3 ∨ k = 4) (hrr : rw6 r) (hQ : ∀ I' : Mm, RepC I' c (moR (layR M r (wanR M)) (8 + k) 1) → Frm c I I' → Q I') : r32 (I (c + 15) k + 1) ∧ V_Th_widthAnew (c + 5) ((wrM I (c + 15) k (I (c + 15) k + 1)) c 6) (wrM I (c + 15) k (I (c + 15) k + 1)) (fun z I1 => V_Ca_lay c r z I1 Q) := by
  have hB := wf_b hW
  have b8 := hW.1.2.2.2.2.2.2.2.2
  have tk := hR.2.2.2.2.1 k (by omega) (by omega)
  have b1 := b8 (8 + k) (by omega) (by omega)
  have b9 := b8 9 (by omega) (by omega)
  have b0 := hW.1.1
  refine ⟨by omega, ?_⟩
  obtain ⟨R1, F1⟩ := rep_mo (d := 1) hR hB (by omega) (k := k) _ rfl
  have h6 := R1.2.2.2.2.2.2.1
  refine s_widthAnew (M := M) (rth_c R1.2.1 (fun a u v => rfl) (mo_ne (by omega)).symm (fun j u => (mo_ne (by omega)).symm)) hW (by rw [h6]; exact mo_ne (by omega)) ?_
  refine s_caLay R1 (by rw [mo_ne (by omega), mo_ne (by omega), mo_ne (by omega)]; exact hB) (by rw [mo_ne (by omega), mo_ne (by omega)]; omega) (fun I' R2 F2 => hQ I' ?_ (frm_tr F1 F2))
  have e : layR (moR M (8 + k) 1) r (wanR M) = moR (layR M r (wanR M)) (8 + k) 1 := by
    funext j
    unfold layR moR
    grind
  rw [← e]
  exact R2
theorem s_caComes {c G num nam due : Int} {I : Mm} {M : Rw} {Q : Mm → Prop} (hR : RepC I c M) (hW : WF G M) (h0 : M 0 < 200) (hn : 0 ≤ num ∧ num < M 6) (hw : ∀ k : Int, 0 ≤ k → k < M 0 → M (380 + k) ≠ num) (hnam : 0 ≤ nam ∧ nam < M 4) (hdue : M 3 ≤ due ∧ due ≤ 999999999) (hG : G ≤ 2147483000) (hQ : ∀ I' : Mm, RepC I' c (comR M num nam due) → Frm c I I' → Q I') : V_Ca_comes c num nam due I Q := by
  have hB := wf_b hW
  have hp := posR_is hW.1.1.1 hW.2.1.2.1 num due
  unfold V_Ca_comes
  refine s_placeFor hR.2.1 hW.1.1 hW.2.1.2.1 ?_
  refine s_insertAt hR.2.1 ⟨hW.1.1.1, h0⟩ ⟨hp.1, hp.2.1⟩ (fun I1 T1 F1 => ?_)
  obtain ⟨R1, FF1⟩ := rep_th hR hB T1 F1 (fun j u v => ins_lo u v)
  have W1 := wf_ins hW h0 hn hw hnam hdue
  have hr := R1.2.2.2.2.2.1
  have hc := R1.2.1.1
  have hrw := W1.1.2.1
  unfold comR at hQ
  generalize insR M (posR M num due) num nam due = M1 at *
  rw [hr, hc]
  unfold groR at hQ
  refine ⟨by omega, fun q => hQ _ (by rw [if_neg (by omega)]; exact R1) FF1, fun q => ⟨fun q2 => hQ _ (by rw [if_neg (by omega)]; exact R1) FF1, fun q2 => ?_⟩⟩
  rw [if_pos (by omega)] at hQ
  have h1 := s_anew (k := 3) (r := 2 * M1 1) (Q := Q) R1 W1 hG (by omega) (by omega) (fun I' R2 F2 => hQ I' R2 (frm_tr FF1 F2))
  refine ⟨h1.1, ?_⟩
  have e : wrM I1 (c + 15) 3 (I1 (c + 15) 3 + 1) c 5 = M1 1 := by rw [wr_n (by omega)]; exact hr
  rw [e]
  have h2 := h1.2
  refine (?_ : V_Th_widthAnew _ _ _ (fun z I1 => r32 (2 * M1 1) ∧ V_Ca_lay c (2 * M1 1) z I1 Q))
  have e3 : (fun (z : Int) (I1 : Mm) => r32 (2 * M1 1) ∧ V_Ca_lay c (2 * M1 1) z I1 Q) = (fun z I1 => V_Ca_lay c (2 * M1 1) z I1 Q) := by
    funext z I1
    exact propext ⟨fun h => h.2, fun h => ⟨by omega, h⟩⟩
  rw [e3]
  exact h2
theorem s_caGoes {c G p : Int} {I : Mm} {M : Rw} {Q : Mm → Prop} (hR : RepC I c M) (hW : WF G M) (hp : 0 ≤ p ∧ p < M 0) (hG : G ≤ 2147483000) (hQ : ∀ I' : Mm, RepC I' c (goeR M p) → Frm c I I' → Q I') : V_Ca_goes c p I Q := by
  have hB := wf_b hW
  have hc0 := hR.2.1.1
  unfold V_Ca_goes
  refine s_has (fun a b => ⟨fun _ => ?_, fun q => absurd q (by decide)⟩) (fun q => absurd hp (by rw [hc0] at q; exact q))
  refine s_removeAt hR.2.1 hW.1.1 hp (fun I1 T1 F1 => ?_)
  obtain ⟨R1, FF1⟩ := rep_th hR hB T1 F1 (fun j u v => del_lo hW.1.1.2 u v hp.1)
  have W1 := wf_del hW hp
  have hr := R1.2.2.2.2.2.1
  have hc := R1.2.1.1
  have hrw := W1.1.2.1
  unfold goeR at hQ
  generalize delR M p = M1 at *
  rw [hr, hc]
  unfold shrR at hQ
  refine ⟨by omega, fun q => hQ _ (by rw [if_neg (by omega)]; exact R1) FF1, fun q => ⟨fun q2 => hQ _ (by rw [if_neg (by omega)]; exact R1) FF1, fun q2 => ?_⟩⟩
  rw [if_pos (by omega)] at hQ
  have h1 := s_anew (k := 4) (r := M1 1 / 2) (Q := Q) R1 W1 hG (by omega) (by omega) (fun I' R2 F2 => hQ I' R2 (frm_tr FF1 F2))
  have e : wrM I1 (c + 15) 4 (I1 (c + 15) 4 + 1) c 5 = M1 1 := by rw [wr_n (by omega)]; exact hr
  rw [e]
  exact ⟨h1.1, by omega, h1.2⟩
