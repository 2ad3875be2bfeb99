/-! taking -/
def lkR (a b rows width : Int) : Int := if rows ≤ b / width - a / width then 2 * rows else b / width - a / width + 1
def newR (M : Rw) (nam due : Int) : Rw := comR (moR M 6 1) (M 6) nam due
def brgR (M : Rw) (r : Int) : Rw := if M 0 < 200 ∧ M 3 + M (144 + 3 * r + 2) ≤ 999999999 then newR M (M (144 + 3 * r + 1)) (M 3 + M (144 + 3 * r + 2)) else moR (moR M 14 1) (32 + M (144 + 3 * r + 1)) 1
def brsR (M : Rw) (nam : Int) : Nat → Rw
  | 0 => M
  | n + 1 => if brsR M nam n (144 + 3 * (n : Int)) = nam then brgR (brsR M nam n) (n : Int) else brsR M nam n
def cntR (M : Rw) : Rw := if M 1 < lkR (M 3) (M 780) (M 1) (M 2) then moR (moR (moR M 8 (lkR (M 3) (M 780) (M 1) (M 2))) 13 1) 10 1 else moR (moR M 8 (lkR (M 3) (M 780) (M 1) (M 2))) 13 1
def tkeR (M : Rw) : Rw := brsR (moR (goeR (nowR (logR (cntR M) (M 380) (M 580) (M 780) (lkR (M 3) (M 780) (M 1) (M 2))) (M 780)) 0) (16 + M 580) 1) (M 580) (M 5).toNat
theorem lk_rng {a b rows width : Int} (h : 0 ≤ a ∧ a ≤ b) (hb : b ≤ 999999999) (hr : rw6 rows) (hw : 1 ≤ width) : 0 ≤ b / width ∧ 0 ≤ a / width ∧ b / width - a / width ≤ 999999999 ∧ 1 ≤ lkR a b rows width ∧ lkR a b rows width ≤ 128 := by
  have h1 := Int.ediv_nonneg h.1 (show 0 ≤ width by omega)
  have h2 := Int.ediv_le_self width (show 0 ≤ b by omega)
  have h3 := Int.ediv_le_ediv (show 0 < width by omega) h.2
  unfold lkR
  refine ⟨by omega, by omega, by omega, ?_, ?_⟩ <;> (split <;> omega)
theorem s_looksFrom {a b rows width : Int} {I : Mm} {Q : Int → Mm → Prop} (h : 0 ≤ a ∧ a ≤ b) (hb : b ≤ 999999999) (hr : rw6 rows) (hw : 1 ≤ width) (hQ : Q (lkR a b rows width) I) : V_X_looksFrom a b rows width I Q := by
  obtain ⟨h1, h2, h3, h4, h5⟩ := lk_rng h hb hr hw
  have h6 := Int.ediv_le_ediv (show 0 < width by omega) h.2
  unfold V_X_looksFrom V_X_dayOf
  unfold lkR at hQ
  refine ⟨fun _ => ⟨by omega, fun _ => ⟨by omega, by omega, fun q => ⟨by omega, by rw [if_pos q] at hQ; exact hQ⟩, fun q => ⟨by omega, by rw [if_neg (by omega)] at hQ; exact hQ⟩⟩, fun q => absurd hw (by omega)⟩, fun q => absurd hw (by omega)⟩
theorem gro_lo {M : Rw} {j : Int} (h : j ≠ 1 ∧ j ≠ 2 ∧ j ≠ 9 ∧ j ≠ 11) : groR M j = M j := by
  unfold groR
  split
  · rw [mo_ne h.2.2.2]; unfold layR; rw [if_neg h.1, if_neg h.2.1, if_neg h.2.2.1]
  · rfl
theorem shr_lo {M : Rw} {j : Int} (h : j ≠ 1 ∧ j ≠ 2 ∧ j ≠ 9 ∧ j ≠ 12) : shrR M j = M j := by
  unfold shrR
  split
  · rw [mo_ne h.2.2.2]; unfold layR; rw [if_neg h.1, if_neg h.2.1, if_neg h.2.2.1]
  · rfl
theorem com_lo {M : Rw} {num nam due j : Int} (h : j < 380) (h2 : j ≠ 0 ∧ j ≠ 1 ∧ j ≠ 2 ∧ j ≠ 9 ∧ j ≠ 11) : comR M num nam due j = M j := by
  unfold comR
  rw [gro_lo ⟨h2.2.1, h2.2.2.1, h2.2.2.2.1, h2.2.2.2.2⟩, ins_lo h2.1 h]
theorem com_0 {M : Rw} {num nam due : Int} : comR M num nam due 0 = M 0 + 1 := by
  unfold comR
  rw [gro_lo (by omega), ins_0]
theorem new_lo {M : Rw} {nam due j : Int} (h : j < 380) (h2 : j ≠ 0 ∧ j ≠ 1 ∧ j ≠ 2 ∧ j ≠ 6 ∧ j ≠ 9 ∧ j ≠ 11) : newR M nam due j = M j := by
  unfold newR
  rw [com_lo h ⟨h2.1, h2.2.1, h2.2.2.1, h2.2.2.2.2⟩, mo_ne h2.2.2.2.1]
theorem new_0 {M : Rw} {nam due : Int} : newR M nam due 0 = M 0 + 1 := by
  unfold newR
  rw [com_0, mo_ne (by omega)]
theorem new_6 {M : Rw} {nam due : Int} : newR M nam due 6 = M 6 + 1 := by
  unfold newR
  rw [com_lo (by omega) (by omega)]; simp [moR]
theorem goe_lo {M : Rw} {p j : Int} (h0 : M 0 ≤ 200) (hp : 0 ≤ p) (h : j < 380) (h2 : j ≠ 0 ∧ j ≠ 1 ∧ j ≠ 2 ∧ j ≠ 9 ∧ j ≠ 12) : goeR M p j = M j := by
  unfold goeR
  rw [shr_lo ⟨h2.2.1, h2.2.2.1, h2.2.2.2.1, h2.2.2.2.2⟩, del_lo h0 h2.1 h hp]
theorem goe_0 {M : Rw} {p : Int} : goeR M p 0 = M 0 - 1 := by
  unfold goeR
  rw [shr_lo (by omega), del_0]
theorem wf_new {G : Int} {M : Rw} (h : WF G M) (h0 : M 0 < 200) {nam due : Int} (hnam : 0 ≤ nam ∧ nam < M 4) (hdue : M 3 ≤ due ∧ due ≤ 999999999) : WF (G + 202) (newR M nam due) := by
  have b6 := h.1.2.2.2.2.2.2.1
  have w1 := h.2.1.1
  have h1 := wf_mo (i := 6) (d := 1) h (by omega) (by omega)
  have h2 := wf_com (num := M 6) (nam := nam) (due := due) h1 (by rw [mo_ne (by omega)]; exact h0) (by simp [moR]; omega) (fun k a b => by
    rw [mo_ne (by omega)] at b ⊢
    have := w1 k a b
    omega) (by rw [mo_ne (by omega)]; exact hnam) (by rw [mo_ne (by omega)]; exact hdue)
  exact wf_mono h2 (by omega)
theorem wf_nm {G : Int} {M : Rw} (h : WF G M) {i : Int} (hi : 16 ≤ i ∧ i < 16 + M 4 ∨ 32 ≤ i ∧ i < 32 + M 4) : WF (G + 1) (moR M i 1) := by
  obtain ⟨⟨b0, b1, b2, b3, b4, b5, b6, b7, b8⟩, w1, w2, w3, w4⟩ := h
  have L : ∀ j : Int, j < 16 ∨ 48 ≤ j → moR M i 1 j = M j := fun j q => mo_ne (by omega)
  refine ⟨⟨by rw [L _ (by omega)]; exact b0, by rw [L _ (by omega)]; exact b1, by rw [L _ (by omega)]; exact b2, by rw [L _ (by omega)]; exact b3, by rw [L _ (by omega)]; exact b4, by rw [L _ (by omega)]; exact b5, by rw [L _ (by omega)]; omega, by rw [L _ (by omega)]; exact b7, fun j p q => ?_⟩, ?_, ?_, ?_, ?_⟩
  · have h1 := b8 j p q
    by_cases q : j = i
    · subst q; simp [moR]; omega
    · rw [mo_ne q]; omega
  · exact wt_c w1 (L _ (by omega)) (by rw [L _ (by omega)]; exact Int.le_refl _) (by rw [L _ (by omega)]; exact Int.le_refl _) (by rw [L _ (by omega)]; exact Int.le_refl _) (fun j hj => L j (by omega))
  · exact wr_c w2 (L _ (by omega)) b5.2 (by rw [L _ (by omega)]; exact Int.le_refl _) (fun j hj hj2 => L j (by omega))
  · intro n p q
    rw [L 4 (by omega)] at p
    rw [mo_ne (by omega), mo_ne (by omega)]
    exact w3 n p q
  · intro n p q
    rw [L 4 (by omega)] at q
    obtain ⟨m, m1, m2, m3, m4⟩ := w4 n p q
    refine ⟨m, m1, m2, fun k u v => ?_, fun k u v => ?_⟩
    · rw [L _ (by omega)]; exact m3 k u v
    · rw [L _ (by omega)]; exact m4 k u v
theorem wf_brg {G : Int} {M : Rw} (h : WF G M) {r : Int} (hr : 0 ≤ r ∧ r < M 5) : WF (G + 202) (brgR M r) := by
  have w := h.2.2.1 r hr.1 hr.2
  unfold brgR
  split
  · rename_i q
    exact wf_new h q.1 w.2.1 (by omega)
  · have h1 := wf_mo (i := 14) (d := 1) h (by omega) (by omega)
    have h2 := wf_nm (i := 32 + M (144 + 3 * r + 1)) h1 (by rw [mo_ne (by omega)]; omega)
    exact wf_mono h2 (by omega)
theorem brg_lo {M : Rw} {r j : Int} (hb : 0 ≤ M (144 + 3 * r + 1) ∧ M (144 + 3 * r + 1) < 16) (h : j < 380) (h2 : j ≠ 0 ∧ j ≠ 1 ∧ j ≠ 2 ∧ j ≠ 6 ∧ j ≠ 9 ∧ j ≠ 11 ∧ j ≠ 14) (h3 : j < 32 ∨ 48 ≤ j) : brgR M r j = M j := by
  unfold brgR
  split
  · exact new_lo h (by omega)
  · rw [mo_ne (by omega), mo_ne (by omega)]
theorem brs_lo {G : Int} {M : Rw} {nam : Int} (hW : WF G M) : ∀ n : Nat, (n : Int) ≤ M 5 → WF (G + 202 * (n : Int)) (brsR M nam n) ∧ ∀ j : Int, j < 380 → (j ≠ 0 ∧ j ≠ 1 ∧ j ≠ 2 ∧ j ≠ 6 ∧ j ≠ 9 ∧ j ≠ 11 ∧ j ≠ 14) → (j < 32 ∨ 48 ≤ j) → brsR M nam n j = M j
  | 0, _ => ⟨by simpa [brsR] using hW, fun j _ _ _ => rfl⟩
  | n + 1, h => by
    obtain ⟨h1, h2⟩ := brs_lo (nam := nam) hW n (by omega)
    have e5 := h2 5 (by omega) (by omega) (by omega)
    have e4 := h2 4 (by omega) (by omega) (by omega)
    have b5 := hW.1.2.2.2.2.2.1
    have b4 := hW.1.2.2.2.2.1
    unfold brsR
    split
    · refine ⟨wf_mono (wf_brg h1 (r := n) (by omega)) (by omega), fun j a b c => ?_⟩
      rw [brg_lo (by have := (h1.2.2.1 n (by omega) (by omega)).2.1; omega) a b c]
      exact h2 j a b c
    · exact ⟨wf_mono h1 (by omega), h2⟩
theorem wf_now {G : Int} {M : Rw} (h : WF G M) {x : Int} (hx : 0 ≤ x ∧ x ≤ 999999999) (hk : ∀ k : Int, 0 ≤ k → k < M 0 → x ≤ M (780 + k)) : WF G (nowR M x) := by
  obtain ⟨⟨b0, b1, b2, b3, b4, b5, b6, b7, b8⟩, ⟨w1, w11, w12⟩, w2, w3⟩ := h
  have L : ∀ j : Int, j ≠ 3 → nowR M x j = M j := fun j u => by unfold nowR; rw [if_neg u]
  refine ⟨⟨b0, b1, b2, hx, b4, b5, b6, b7, fun j p q => by rw [L j (by omega)]; exact b8 j p q⟩, ⟨fun k a b => ?_, fun i j a b d => ?_, fun i j a b d => ?_⟩, ?_, ?_⟩
  · have := w1 k a b
    have := hk k a b
    rw [L (380 + k) (by omega), L (580 + k) (by omega), L (780 + k) (by omega), L 4 (by omega), L 6 (by omega)]
    exact ⟨by omega, by omega, this, by omega⟩
  · rw [L _ (by omega), L _ (by omega), L _ (by omega), L _ (by omega)]; exact w11 i j a b d
  · rw [L _ (by omega), L _ (by omega)]; exact w12 i j a b d
  · exact wr_c w2 rfl b5.2 (Int.le_refl _) (fun j hj hj2 => L j (by omega))
  · exact wl_c w3 rfl b4 (fun j hj hj2 => L j (by omega))
theorem log_ne {M : Rw} {a b d e j : Int} (h : j ≠ 7) (h2 : j < 180 ∨ 380 ≤ j) : logR M a b d e j = M j := by
  unfold logR
  rw [if_neg h, if_neg (by omega), if_neg (by omega), if_neg (by omega), if_neg (by omega), if_neg (by omega)]
theorem wf_log {G : Int} {M : Rw} (h : WF G M) {a b d e : Int} : WF G (logR M a b d e) := by
  obtain ⟨⟨b0, b1, b2, b3, b4, b5, b6, b7, b8⟩, w1, w2, w3⟩ := h
  have L : ∀ j : Int, j ≠ 7 → (j < 180 ∨ 380 ≤ j) → logR M a b d e j = M j := fun j u v => log_ne u v
  refine ⟨⟨by rw [L _ (by omega) (by omega)]; exact b0, by rw [L _ (by omega) (by omega)]; exact b1, by rw [L _ (by omega) (by omega)]; exact b2, by rw [L _ (by omega) (by omega)]; exact b3, by rw [L _ (by omega) (by omega)]; exact b4, by rw [L _ (by omega) (by omega)]; exact b5, by rw [L _ (by omega) (by omega)]; exact b6, by simp only [logR, if_true]; omega, fun j p q => by rw [L j (by omega) (by omega)]; exact b8 j p q⟩, ?_, ?_, ?_⟩
  · exact wt_c w1 (L _ (by omega) (by omega)) (by rw [L _ (by omega) (by omega)]; exact Int.le_refl _) (by rw [L _ (by omega) (by omega)]; exact Int.le_refl _) (by rw [L _ (by omega) (by omega)]; exact Int.le_refl _) (fun j hj => L j (by omega) (by omega))
  · exact wr_c w2 (L _ (by omega) (by omega)) b5.2 (by rw [L _ (by omega) (by omega)]; exact Int.le_refl _) (fun j hj hj2 => L j (by omega) (by omega))
  · exact wl_c w3 (L _ (by omega) (by omega)) b4 (fun j hj hj2 => L j (by omega) (by omega))
theorem cnt_ne {M : Rw} {j : Int} (h : j ≠ 8 ∧ j ≠ 10 ∧ j ≠ 13) : cntR M j = M j := by
  unfold cntR
  split
  · rw [mo_ne (by omega), mo_ne (by omega), mo_ne (by omega)]
  · rw [mo_ne (by omega), mo_ne (by omega)]
theorem wf_first {G : Int} {M : Rw} (h : WF G M) (h0 : 0 < M 0) : (0 ≤ M 380 ∧ M 380 < M 6) ∧ (0 ≤ M 580 ∧ M 580 < M 4) ∧ M 3 ≤ M 780 ∧ M 780 ≤ 999999999 := h.2.1.1 0 (Int.le_refl 0) h0
theorem lk_wf {G : Int} {M : Rw} (h : WF G M) (h0 : 0 < M 0) : 1 ≤ lkR (M 3) (M 780) (M 1) (M 2) ∧ lkR (M 3) (M 780) (M 1) (M 2) ≤ 128 := by
  have f := wf_first h h0
  have b3 := h.1.2.2.2.1
  have b2 := h.1.2.2.1
  have := lk_rng (a := M 3) (b := M 780) (rows := M 1) (width := M 2) (by omega) (by omega) h.1.2.1 (by omega)
  omega
theorem wf_cnt {G : Int} {M : Rw} (h : WF G M) (h0 : 0 < M 0) : WF (G + 130) (cntR M) := by
  have l := lk_wf h h0
  unfold cntR
  split
  · exact wf_mono (wf_mo (d := 1) (wf_mo (d := 1) (wf_mo h (i := 8) (by omega) (by omega)) (i := 13) (by omega) (by omega)) (i := 10) (by omega) (by omega)) (by omega)
  · exact wf_mono (wf_mo (d := 1) (wf_mo h (i := 8) (by omega) (by omega)) (i := 13) (by omega) (by omega)) (by omega)
/-- ahead of what is brought -/
def tk1R (M : Rw) : Rw := nowR (logR (cntR M) (M 380) (M 580) (M 780) (lkR (M 3) (M 780) (M 1) (M 2))) (M 780)
theorem tk1_ne {M : Rw} {j : Int} (h : j ≠ 3 ∧ j ≠ 7 ∧ j ≠ 8 ∧ j ≠ 10 ∧ j ≠ 13) (h2 : j < 180 ∨ 380 ≤ j) : tk1R M j = M j := by
  unfold tk1R nowR
  rw [if_neg h.1, log_ne (by omega) h2, cnt_ne (by omega)]
theorem wf_tk1 {G : Int} {M : Rw} (h : WF G M) (h0 : 0 < M 0) : WF (G + 130) (tk1R M) := by
  have h1 := wf_log (a := M 380) (b := M 580) (d := M 780) (e := lkR (M 3) (M 780) (M 1) (M 2)) (wf_cnt h h0)
  have f := wf_first h h0
  have b3 := h.1.2.2.2.1
  refine wf_now h1 (by omega) (fun k a b => ?_)
  rw [log_ne (by omega) (by omega), cnt_ne (by omega)] at b ⊢
  by_cases q : k = 0
  · subst q; exact Int.le_refl _
  · exact wf_s h 0 k (by omega) (by omega) b
theorem wf_tk2 {G : Int} {M : Rw} (h : WF G M) (h0 : 0 < M 0) : WF (G + 332) (moR (goeR (tk1R M) 0) (16 + M 580) 1) := by
  have h1 := wf_tk1 h h0
  have f := wf_first h h0
  have h2 := wf_goe (p := 0) h1 (by rw [tk1_ne (by omega) (by omega)]; omega)
  have e4 : goeR (tk1R M) 0 4 = M 4 := by rw [goe_lo h1.1.1.2 (by omega) (by omega) (by omega), tk1_ne (by omega) (by omega)]
  exact wf_mono (wf_nm (i := 16 + M 580) h2 (by omega)) (by omega)
theorem tk2_5 {G : Int} {M : Rw} (h : WF G M) (h0 : 0 < M 0) : moR (goeR (tk1R M) 0) (16 + M 580) 1 5 = M 5 := by
  have h1 := wf_tk1 h h0
  have f := wf_first h h0
  rw [mo_ne (by omega), goe_lo h1.1.1.2 (by omega) (by omega) (by omega), tk1_ne (by omega) (by omega)]
theorem wf_tke {G : Int} {M : Rw} (h : WF G M) (h0 : 0 < M 0) : WF (G + 3000) (tkeR M) := by
  have h5 := tk2_5 h h0
  have b5 := h.1.2.2.2.2.2.1
  exact wf_mono (brs_lo (nam := M 580) (wf_tk2 h h0) (M 5).toNat (by rw [h5]; omega)).1 (by omega)
theorem lpr {P : Nat → Nat → Mm → Prop} {S : Nat → Mm → Prop} {I : Mm} (e : Nat) (h0 : S 0 I) (h1 : ∀ (n : Nat) (I1 : Mm), S e I1 → P (n + 1) e I1) (h2 : ∀ (i n : Nat) (I1 : Mm), i < e → S i I1 → (∀ I2 : Mm, S (i + 1) I2 → P n (i + 1) I2) → P (n + 1) i I1) : ∃ f, P f 0 I := by
  have h : ∀ n i : Nat, i + n = e → ∀ I1 : Mm, S i I1 → P (n + 1) i I1 := by
    intro n
    induction n with
    | zero => intro i hi I1 hS; rw [show i = e by omega] at hS ⊢; exact h1 0 I1 hS
    | succ n ih => intro i hi I1 hS; exact h2 i (n + 1) I1 (by omega) hS (fun I2 hS2 => ih (i + 1) (by omega) I2 hS2)
  exact ⟨_, h e 0 (by omega) I h0⟩
theorem s_caNew {c G nam due : Int} {I : Mm} {M : Rw} {Q : Mm → Prop} (hR : RepC I c M) (hW : WF G M) (h0 : M 0 < 200) (hnam : 0 ≤ nam ∧ nam < M 4) (hdue : M 3 ≤ due ∧ due ≤ 999999999) (hG : G ≤ 2147400000) (hQ : ∀ I' : Mm, RepC I' c (newR M nam due) → Frm c I I' → Q I') : r32 (I c 8 + 1) ∧ r32 ((wrM I c 8 (I c 8 + 1)) c 8 - 1) ∧ V_Ca_comes c ((wrM I c 8 (I c 8 + 1)) c 8 - 1) nam due (wrM I c 8 (I c 8 + 1)) Q := by
  have hB := wf_b hW
  have b6 := hW.1.2.2.2.2.2.2.1
  have h8 := hR.2.2.2.2.2.2.2.2
  obtain ⟨R2, F2⟩ := rep_nx hR hB
  have e : wrM I c 8 (I c 8 + 1) c 8 - 1 = M 6 := by rw [wr_s, h8]; omega
  have w1 := hW.2.1.1
  have e0 : moR M 6 1 0 = M 0 := mo_ne (by omega)
  rw [e]
  refine ⟨by omega, by omega, ?_⟩
  refine s_caComes R2 (wf_mo hW (i := 6) (d := 1) (by omega) (by omega)) (by rw [e0]; exact h0) (by simp [moR]; omega) (fun k a b => ?_) (by rw [mo_ne (by omega)]; exact hnam) (by rw [mo_ne (by omega)]; exact hdue) (by omega) (fun I' R3 F3 => hQ I' R3 (frm_tr F2 F3))
  rw [e0] at b
  rw [mo_ne (by omega)]
  have := w1 k a b
  omega
theorem s_caBring {c G nam : Int} {I : Mm} {M : Rw} {Q : Mm → Prop} (hR : RepC I c M) (hW : WF G M) (hG : G ≤ 2147300000) (hQ : ∀ I' : Mm, RepC I' c (brsR M nam (M 5).toNat) → Frm c I I' → Q I') : V_Ca_bring c nam I Q := by
  have b5 := hW.1.2.2.2.2.2.1
  refine lpr (P := fun f i I1 => L_Ca_bring_2 c nam Q f (i : Int) I1) (S := fun i I1 => RepC I1 c (brsR M nam i) ∧ Frm c I I1) (M 5).toNat ⟨hR, frm_rf c I⟩ ?_ ?_
  · intro n I1 hS
    obtain ⟨R1, F1⟩ := hS
    have e5 := (brs_lo (nam := nam) hW (M 5).toNat (by omega)).2 5 (by omega) (by omega) (by omega)
    have hu : I1 (c + 9) 0 = M 5 := R1.2.2.1.1.trans e5
    simp only [L_Ca_bring_2]
    rw [hu]
    exact ⟨fun _ => hQ _ R1 F1, fun q => by omega⟩
  · intro i n I1 hi hS ih
    obtain ⟨R1, F1⟩ := hS
    obtain ⟨W1, L1⟩ := brs_lo (nam := nam) hW i (by omega)
    have e5 := L1 5 (by omega) (by omega) (by omega)
    have hu : I1 (c + 9) 0 = M 5 := R1.2.2.1.1.trans e5
    obtain ⟨u1, u2, u3⟩ := R1.2.2.1.2 (i : Int) (by omega) (by omega)
    have w := W1.2.2.1 (i : Int) (by omega) (by omega)
    have h7 := R1.2.2.2.2.2.2.2.1
    have b3 := W1.1.2.2.2.1
    have b0 := W1.1.1
    have b4 := W1.1.2.2.2.2.1
    have b8 := W1.1.2.2.2.2.2.2.2.2
    have hB := wf_b W1
    have t6 : I1 (c + 15) 6 = brsR M nam i 14 := R1.2.2.2.2.1 6 (by omega) (by omega)
    have ih1 : ∀ I2 : Mm, RepC I2 c (brsR M nam (i + 1)) → Frm c I1 I2 → r32 ((i : Int) + 1) ∧ L_Ca_bring_2 c nam Q n ((i : Int) + 1) I2 := by
      intro I2 R2 F2
      exact ⟨by omega, ih I2 ⟨R2, frm_tr F1 F2⟩⟩
    have es : brsR M nam (i + 1) = if brsR M nam i (144 + 3 * (i : Int)) = nam then brgR (brsR M nam i) (i : Int) else brsR M nam i := rfl
    rw [es] at ih1
    clear ih es L1
    generalize brsR M nam i = M1 at *
    simp only [L_Ca_bring_2]
    rw [hu, u1]
    refine ⟨fun q => by omega, fun _ => ⟨by omega, fun q => ?_, fun q => ?_⟩⟩
    · rw [if_neg q] at ih1
      exact ih1 I1 R1 (frm_rf c I1)
    · rw [if_pos q] at ih1
      unfold brgR at ih1
      rw [h7, u2, u3]
      refine ⟨by omega, by omega, by omega, ?_⟩
      refine s_hasRoom R1 b0 (by omega) (by omega) (by omega) (fun v1 v2 => ⟨fun q => absurd q (by decide), fun _ => ?_⟩) (fun v => ⟨fun _ => ?_, fun q => absurd rfl q⟩)
      · rw [if_pos (by omega)] at ih1
        exact s_caNew R1 W1 (by omega) w.2.1 (by omega) (by omega) ih1
      · rw [if_neg (by omega)] at ih1
        have b14 := b8 14 (by omega) (by omega)
        obtain ⟨R2, F2⟩ := rep_mo (d := 1) R1 hB (k := 6) (by omega) _ rfl
        have b32 := b8 (32 + M1 (144 + 3 * (i : Int) + 1)) (by omega) (by omega)
        refine ⟨by omega, s_countLost (G := G) R2.1 (by rw [mo_ne (by omega)]; exact b4) (by rw [mo_ne (by omega)]; exact w.2.1) (by rw [mo_ne (by omega)]; omega) (fun I3 T3 F3 => ?_)⟩
        obtain ⟨R4, F4⟩ := rep_nm R2 (by rw [mo_ne (by omega), mo_ne (by omega), mo_ne (by omega)]; exact hB) T3 F3 (fun j hj => by unfold lstR; rw [if_neg (by omega)])
        exact ih1 I3 R4 (frm_tr F2 F4)
theorem s_caTakeFirst {c G : Int} {I : Mm} {M : Rw} {Q : Mm → Prop} (hR : RepC I c M) (hW : WF G M) (h0 : 0 < M 0) (hG : G ≤ 2147200000) (hQ : ∀ I' : Mm, RepC I' c (tkeR M) → Frm c I I' → Q I') : V_Ca_takeFirst c I Q := by
  have hB := wf_b hW
  have f := wf_first hW h0
  have l := lk_wf hW h0
  have b8 := hW.1.2.2.2.2.2.2.2.2
  have b3 := hW.1.2.2.2.1
  have b2 := hW.1.2.2.1
  have ht := hR.2.1.2 0 (by omega) (by omega)
  rw [Int.add_zero, Int.add_zero, Int.add_zero] at ht
  obtain ⟨t1, t2, t3⟩ := ht
  have hr := hR.2.2.2.2.2.1
  have hw := hR.2.2.2.2.2.2.1
  have hn := hR.2.2.2.2.2.2.2.1
  have tot := hR.2.2.2.2.1
  have tc := hR.2.1.1
  unfold V_Ca_takeFirst
  rw [t2, t3, hr, hw, hn, tc]
  refine ⟨fun _ => s_looksFrom (by omega) (by omega) hW.1.2.1 (by omega) ?_, fun q => by omega⟩
  have T0 : I (c + 15) 0 = M 8 := tot 0 (by omega) (by omega)
  have c8 := b8 8 (by omega) (by omega)
  have c13 := b8 13 (by omega) (by omega)
  have c10 := b8 10 (by omega) (by omega)
  have hlk : lkR (M 3) (M 780) (M 1) (M 2) = lkR (M 3) (M 780) (M 1) (M 2) := rfl
  generalize hlk0 : lkR (M 3) (M 780) (M 1) (M 2) = lk at *
  obtain ⟨R1, F1⟩ := rep_mo (d := lk) hR hB (k := 0) (by omega) _ rfl
  have hB1 : (0 ≤ moR M 8 lk 4 ∧ moR M 8 lk 4 ≤ 16) ∧ (0 ≤ moR M 8 lk 5 ∧ moR M 8 lk 5 ≤ 12) ∧ (0 ≤ moR M 8 lk 7 ∧ moR M 8 lk 7 ≤ 50) := by rw [mo_ne (by omega), mo_ne (by omega), mo_ne (by omega)]; exact hB
  have T5 := R1.2.2.2.2.1 5 (by omega) (by omega)
  rw [mo_ne (by omega), show (8 + 5 : Int) = 13 by decide] at T5
  obtain ⟨R2, F2⟩ := rep_mo (d := 1) R1 hB1 (k := 5) (by omega) _ rfl
  have hB2 : (0 ≤ moR (moR M 8 lk) 13 1 4 ∧ moR (moR M 8 lk) 13 1 4 ≤ 16) ∧ (0 ≤ moR (moR M 8 lk) 13 1 5 ∧ moR (moR M 8 lk) 13 1 5 ≤ 12) ∧ (0 ≤ moR (moR M 8 lk) 13 1 7 ∧ moR (moR M 8 lk) 13 1 7 ≤ 50) := by rw [mo_ne (by omega), mo_ne (by omega), mo_ne (by omega)]; exact hB1
  have T2 := R2.2.2.2.2.1 2 (by omega) (by omega)
  rw [mo_ne (by omega), mo_ne (by omega), show (8 + 2 : Int) = 10 by decide] at T2
  obtain ⟨R3, F3⟩ := rep_mo (d := 1) R2 hB2 (k := 2) (by omega) _ rfl
  have r2 := R2.2.2.2.2.2.1
  rw [mo_ne (by omega), mo_ne (by omega)] at r2
  have J : ∀ I1 : Mm, RepC I1 c (cntR M) → Frm c I I1 → J_Ca_takeFirst_87 c Q (M 580) (M 780) lk I1 := by
    intro I1 Rc Fc
    have W0 := wf_cnt hW h0
    have hBc := wf_b W0
    unfold J_Ca_takeFirst_87
    have s1 := (Rc.2.1.2 0 (by omega) (by rw [cnt_ne (by omega)]; exact h0)).1
    rw [Int.add_zero, cnt_ne (by omega)] at s1
    rw [s1]
    refine s_loAdd Rc.2.2.2.1 W0.1.2.2.2.2.2.2.2.1 (fun I2 L2 F2 => ?_)
    obtain ⟨Rl, Fl⟩ := rep_lo Rc hBc L2 F2 (fun j hj => log_ne (by omega) (by omega))
    have Wl := wf_log (a := M 380) (b := M 580) (d := M 780) (e := lk) W0
    obtain ⟨Rn, Fn⟩ := rep_now (h := M 780) Rl (wf_b Wl)
    have Wn := wf_tk1 hW h0
    have W2 := wf_tk2 hW h0
    have e5 := tk2_5 hW h0
    unfold tkeR at hQ
    have et : nowR (logR (cntR M) (M 380) (M 580) (M 780) (lkR (M 3) (M 780) (M 1) (M 2))) (M 780) = tk1R M := rfl
    rw [hlk0] at et
    rw [hlk0, et] at hQ
    rw [et] at Rn
    have m0 : tk1R M 0 = M 0 := tk1_ne (by omega) (by omega)
    refine s_caGoes Rn Wn (by rw [m0]; omega) (by omega) (fun I3 R3 F3 => ?_)
    have W3 := wf_goe (p := 0) Wn (by rw [m0]; omega)
    have g4 : goeR (tk1R M) 0 4 = M 4 := by rw [goe_lo Wn.1.1.2 (by omega) (by omega) (by omega), tk1_ne (by omega) (by omega)]
    have g16 := W3.1.2.2.2.2.2.2.2.2 (16 + M 580) (by omega) (by have := hB.1; omega)
    refine s_countTaken (G := G) R3.1 W3.1.2.2.2.2.1 (by rw [g4]; exact f.2.1) (by omega) (fun I4 T4 F4 => ?_)
    obtain ⟨R5, F5⟩ := rep_nm R3 (wf_b W3) T4 F4 (fun j hj => by unfold tknR; rw [if_neg (by omega)])
    have W2' : WF (G + 332) (tknR (goeR (tk1R M) 0) (M 580)) := W2
    have e5' : tknR (goeR (tk1R M) 0) (M 580) 5 = M 5 := e5
    refine s_caBring R5 W2' (by omega) (fun I6 R6 F6 => hQ I6 ?_ (frm_tr Fc (frm_tr Fl (frm_tr Fn (frm_tr F3 (frm_tr F5 F6))))))
    rw [e5'] at R6
    exact R6
  unfold cntR at J
  rw [hlk0] at J
  rw [T0]
  rw [T0] at R1 F1 R2 F2 R3 F3 T5 T2 r2
  refine ⟨by omega, ?_, fun q => ?_, fun q => ⟨?_, ?_⟩⟩
  · rw [T5]; omega
  · rw [r2] at q
    rw [if_neg (by omega)] at J
    exact J _ R2 (frm_tr F1 F2)
  · rw [T2]; omega
  · rw [r2] at q
    rw [if_pos (by omega)] at J
    exact J _ R3 (frm_tr F1 (frm_tr F2 F3))
