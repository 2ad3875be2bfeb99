/-! the Calendar: many at once, copies, questions -/
def stp (p : Nat → Bool) : Nat → Nat
  | 0 => 0
  | n + 1 => if stp p n < n then stp p n else if p n then n else n + 1
theorem stp_is (p : Nat → Bool) : ∀ n : Nat, stp p n ≤ n ∧ (∀ k : Nat, k < stp p n → p k = false) ∧ (stp p n < n → p (stp p n) = true)
  | 0 => ⟨Nat.le_refl 0, fun k hk => absurd hk (Nat.not_lt_zero k), fun h => absurd h (Nat.lt_irrefl 0)⟩
  | n + 1 => by
    obtain ⟨h1, h2, h3⟩ := stp_is p n
    unfold stp
    by_cases q : stp p n < n
    · rw [if_pos q]
      exact ⟨by omega, h2, fun _ => h3 q⟩
    · rw [if_neg q]
      have e : stp p n = n := by omega
      rw [e] at h2
      by_cases r : p n = true
      · rw [if_pos r]
        exact ⟨by omega, h2, fun _ => r⟩
      · rw [if_neg r]
        refine ⟨by omega, fun k hk => ?_, fun h => by omega⟩
        by_cases k2 : k < n
        · exact h2 k k2
        · have : k = n := by omega
          subst this
          simpa using r
def itR (f : Rw → Rw) (M : Rw) : Nat → Rw
  | 0 => M
  | n + 1 => f (itR f M n)
def tksN (M : Rw) (n : Nat) : Nat := stp (fun i => decide (itR tkeR M i 0 ≤ 0)) n
def untN (M : Rw) (h : Int) (n : Nat) : Nat := stp (fun i => decide (¬ (0 < itR tkeR M i 0 ∧ itR tkeR M i 780 ≤ h))) n
theorem wf_it {G : Int} {M : Rw} (hW : WF G M) : ∀ n : Nat, (∀ k : Nat, k < n → 0 < itR tkeR M k 0) → WF (G + 3000 * (n : Int)) (itR tkeR M n)
  | 0, _ => by simpa [itR] using hW
  | n + 1, h => by
    have h1 := wf_it hW n (fun k hk => h k (by omega))
    exact wf_mono (wf_tke h1 (h n (by omega))) (by omega)
theorem tks_is (M : Rw) (n : Nat) : tksN M n ≤ n ∧ (∀ k : Nat, k < tksN M n → 0 < itR tkeR M k 0) ∧ (tksN M n < n → itR tkeR M (tksN M n) 0 ≤ 0) := by
  obtain ⟨h1, h2, h3⟩ := stp_is (fun i => decide (itR tkeR M i 0 ≤ 0)) n
  exact ⟨h1, fun k hk => by have := h2 k hk; simpa using this, fun h => of_decide_eq_true (h3 h)⟩
theorem unt_is (M : Rw) (h : Int) (n : Nat) : untN M h n ≤ n ∧ (∀ k : Nat, k < untN M h n → 0 < itR tkeR M k 0 ∧ itR tkeR M k 780 ≤ h) ∧ (untN M h n < n → ¬ (0 < itR tkeR M (untN M h n) 0 ∧ itR tkeR M (untN M h n) 780 ≤ h)) := by
  obtain ⟨h1, h2, h3⟩ := stp_is (fun i => decide (¬ (0 < itR tkeR M i 0 ∧ itR tkeR M i 780 ≤ h))) n
  exact ⟨h1, fun k hk => by have := h2 k hk; simpa using this, fun q => of_decide_eq_true (h3 q)⟩
theorem s_takeSome {c G x1 : Int} {I : Mm} {M : Rw} {Q : Int → Mm → Prop} (hR : RepC I c M) (hW : WF G M) (hx : 1 ≤ x1 ∧ x1 ≤ 300) (hG : G ≤ 2146000000) (hQ : ∀ I' : Mm, RepC I' c (itR tkeR M (tksN M x1.toNat)) → Frm c I I' → Q (tksN M x1.toNat : Nat) I') : V_Ca_takeSome c x1 I Q := by
  obtain ⟨t1, t2, t3⟩ := tks_is M x1.toNat
  refine lpr (P := fun f i I1 => L_Ca_takeSome_2 c x1 Q f (i : Int) I1) (S := fun i I1 => RepC I1 c (itR tkeR M i) ∧ Frm c I I1) (tksN M x1.toNat) ⟨hR, frm_rf c I⟩ ?_ ?_
  · intro n I1 hS
    have hc := hS.1.2.1.1
    simp only [L_Ca_takeSome_2]
    rw [hc]
    refine ⟨fun _ => hQ _ hS.1 hS.2, fun q => ⟨fun _ => hQ _ hS.1 hS.2, fun q2 => ?_⟩⟩
    have := t3 (by omega)
    omega
  · intro i n I1 hi hS ih
    have hc := hS.1.2.1.1
    have W1 := wf_it hW i (fun k hk => t2 k (by omega))
    have h0 := t2 i hi
    simp only [L_Ca_takeSome_2]
    rw [hc]
    refine ⟨fun q => by omega, fun _ => ⟨fun q => by omega, fun _ => s_caTakeFirst hS.1 W1 h0 (by omega) (fun I2 R2 F2 => ⟨by omega, ih I2 ⟨R2, frm_tr hS.2 F2⟩⟩)⟩⟩
theorem s_waitsBy {c x1 : Int} {I : Mm} {M : Rw} {Q : Int → Mm → Prop} (hR : RepC I c M) (h1 : 0 < M 0 → M 780 ≤ x1 → Q 1 I) (h0 : ¬ (0 < M 0 ∧ M 780 ≤ x1) → Q 0 I) : V_Ca_waitsBy c x1 I Q := by
  have hc := hR.2.1.1
  have hk := hR.2.1.2 0 (by omega)
  unfold V_Ca_waitsBy
  rw [hc]
  refine ⟨fun q => h0 (by omega), fun q => ?_⟩
  have e := (hk q).2.2
  rw [Int.add_zero] at e
  rw [e]
  exact ⟨fun q2 => h0 (by omega), fun q2 => h1 q q2⟩
theorem s_takeDue {c G x1 : Int} {I : Mm} {M : Rw} {Q : Int → Mm → Prop} (hR : RepC I c M) (hW : WF G M) (hG : G ≤ 2144000000) (hQ : ∀ I' : Mm, RepC I' c (itR tkeR M (untN M x1 999)) → Frm c I I' → Q (untN M x1 999 : Nat) I') : V_Ca_takeDue c x1 999 I Q := by
  obtain ⟨t1, t2, t3⟩ := unt_is M x1 999
  refine lpr (P := fun f i I1 => L_Ca_takeDue_2 c x1 999 Q f (i : Int) I1) (S := fun i I1 => RepC I1 c (itR tkeR M i) ∧ Frm c I I1) (untN M x1 999) ⟨hR, frm_rf c I⟩ ?_ ?_
  · intro n I1 hS
    simp only [L_Ca_takeDue_2]
    refine ⟨fun _ => hQ _ hS.1 hS.2, fun q => s_waitsBy hS.1 (fun a b => absurd ⟨a, b⟩ (t3 (by omega))) (fun _ => ⟨fun _ => hQ _ hS.1 hS.2, fun q => absurd rfl q⟩)⟩
  · intro i n I1 hi hS ih
    have W1 := wf_it hW i (fun k hk => (t2 k (by omega)).1)
    have h0 := t2 i hi
    simp only [L_Ca_takeDue_2]
    refine ⟨fun q => by omega, fun _ => s_waitsBy hS.1 (fun _ _ => ⟨fun q => absurd q (by decide), fun _ => s_caTakeFirst hS.1 W1 h0.1 (by omega) (fun I2 R2 F2 => ⟨by omega, ih I2 ⟨R2, frm_tr hS.2 F2⟩⟩)⟩) (fun q => absurd h0 q)⟩
def oftR (M : Rw) (nam gap hour : Int) : Nat → Rw
  | 0 => M
  | n + 1 => newR (oftR M nam gap hour n) nam (hour + (n : Int) * gap)
theorem oft_lo {M : Rw} {nam gap hour : Int} : ∀ n : Nat, oftR M nam gap hour n 0 = M 0 + n ∧ oftR M nam gap hour n 6 = M 6 + n ∧ ∀ j : Int, j < 380 → (j ≠ 0 ∧ j ≠ 1 ∧ j ≠ 2 ∧ j ≠ 6 ∧ j ≠ 9 ∧ j ≠ 11) → oftR M nam gap hour n j = M j
  | 0 => ⟨by simp [oftR], by simp [oftR], fun j _ _ => rfl⟩
  | n + 1 => by
    obtain ⟨h1, h2, h3⟩ := oft_lo (M := M) (nam := nam) (gap := gap) (hour := hour) n
    unfold oftR
    refine ⟨by rw [new_0, h1]; omega, by rw [new_6, h2]; omega, fun j a b => ?_⟩
    rw [new_lo a b]
    exact h3 j a b
theorem oft_due {gap hour count : Int} (hg : 0 ≤ gap) (hl : hour + (count - 1) * gap ≤ 999999999) (n : Nat) (hn : (n : Int) < count) : 0 ≤ (n : Int) * gap ∧ hour + (n : Int) * gap ≤ 999999999 := by
  have h1 := Int.mul_nonneg (show (0 : Int) ≤ (n : Int) by omega) hg
  have h2 := Int.mul_le_mul_of_nonneg_right (show (n : Int) ≤ count - 1 by omega) hg
  exact ⟨h1, by omega⟩
theorem wf_oft {G : Int} {M : Rw} (hW : WF G M) {nam gap hour count : Int} (hnam : 0 ≤ nam ∧ nam < M 4) (hh : M 3 ≤ hour) (hg : 0 ≤ gap) (hc : M 0 + count ≤ 200) (hl : hour + (count - 1) * gap ≤ 999999999) : ∀ n : Nat, (n : Int) ≤ count → WF (G + 202 * (n : Int)) (oftR M nam gap hour n)
  | 0, _ => by simpa [oftR] using hW
  | n + 1, h => by
    have h1 := wf_oft hW hnam hh hg hc hl n (by omega)
    obtain ⟨e0, e6, el⟩ := oft_lo (M := M) (nam := nam) (gap := gap) (hour := hour) n
    have hd := oft_due hg hl n (by omega)
    exact wf_mono (wf_new h1 (by rw [e0]; omega) (by rw [el 4 (by omega) (by omega)]; exact hnam) (by rw [el 3 (by omega) (by omega)]; omega)) (by omega)
theorem s_often {c G nam gap hour count : Int} {I : Mm} {M : Rw} {Q : Int → Mm → Prop} (hR : RepC I c M) (hW : WF G M) (hnam : 0 ≤ nam ∧ nam < M 4) (hh : M 3 ≤ hour) (hg : 0 ≤ gap) (h1 : 0 ≤ count) (hc : M 0 + count ≤ 200) (hl : hour + (count - 1) * gap ≤ 999999999) (hG : G ≤ 2147200000) (hQ : ∀ I' : Mm, RepC I' c (oftR M nam gap hour count.toNat) → Frm c I I' → Q (M 6) I') : V_Ca_comesOften c nam gap hour count I Q := by
  have h6 := hR.2.2.2.2.2.2.2.2
  have b3 := hW.1.2.2.2.1
  have b0 := hW.1.1
  unfold V_Ca_comesOften
  rw [h6]
  refine lpr (P := fun f i I1 => L_Ca_comesOften_9 c nam gap hour count (M 6) Q f (i : Int) I1) (S := fun i I1 => RepC I1 c (oftR M nam gap hour i) ∧ Frm c I I1) count.toNat ⟨hR, frm_rf c I⟩ ?_ ?_
  · intro n I1 hS
    simp only [L_Ca_comesOften_9]
    exact ⟨fun _ => hQ _ hS.1 hS.2, fun q => by omega⟩
  · intro i n I1 hi hS ih
    have W1 := wf_oft hW hnam hh hg hc hl i (by omega)
    obtain ⟨e0, e6, el⟩ := oft_lo (M := M) (nam := nam) (gap := gap) (hour := hour) i
    have hd := oft_due hg hl i (by omega)
    have hk := s_caNew (Q := fun I25 => r32 ((i : Int) + 1) ∧ L_Ca_comesOften_9 c nam gap hour count (M 6) Q n ((i : Int) + 1) I25) hS.1 W1 (nam := nam) (due := hour + (i : Int) * gap) (by rw [e0]; omega) (by rw [el 4 (by omega) (by omega)]; exact hnam) (by rw [el 3 (by omega) (by omega)]; omega) (by omega) (fun I2 R2 F2 => ⟨by omega, by have h : L_Ca_comesOften_9 c nam gap hour count (M 6) Q n ((i + 1 : Nat) : Int) I2 := ih I2 ⟨R2, frm_tr hS.2 F2⟩; rw [show ((i + 1 : Nat) : Int) = (i : Int) + 1 by omega] at h; exact h⟩)
    simp only [L_Ca_comesOften_9]
    exact ⟨fun q => by omega, fun _ => ⟨hk.1, hk.2.1, by omega, hk.2.2⟩⟩
def cnlR (M : Rw) (p : Int) : Rw := goeR (moR M 15 1) p
theorem wf_cnl {G : Int} {M : Rw} (hW : WF G M) {p : Int} (hp : 0 ≤ p ∧ p < M 0) : WF (G + 202) (cnlR M p) :=
  wf_mono (wf_goe (wf_mo hW (i := 15) (d := 1) (by omega) (by omega)) (by rw [mo_ne (by omega)]; exact hp)) (by omega)
theorem s_cancelAt {c G p : Int} {I : Mm} {M : Rw} {Q : Mm → Prop} (hR : RepC I c M) (hW : WF G M) (hp : 0 ≤ p ∧ p < M 0) (hG : G ≤ 2147400000) (hQ : ∀ I' : Mm, RepC I' c (cnlR M p) → Frm c I I' → Q I') : V_Ca_cancelAt c p I Q := by
  have hB := wf_b hW
  have hc := hR.2.1.1
  have b15 := hW.1.2.2.2.2.2.2.2.2 15 (by omega) (by omega)
  have t7 : I (c + 15) 7 = M 15 := hR.2.2.2.2.1 7 (by omega) (by omega)
  obtain ⟨R1, F1⟩ := rep_mo (d := 1) hR hB (k := 7) (by omega) _ rfl
  unfold V_Ca_cancelAt
  refine s_has (fun a b => ⟨fun _ => ⟨by omega, ?_⟩, fun q => absurd q (by decide)⟩) (fun q => absurd hp (by rw [hc] at q; exact q))
  exact s_caGoes R1 (wf_mo hW (i := 8 + 7) (d := 1) (by omega) (by omega)) (by rw [mo_ne (by omega)]; exact hp) (by omega) (fun I2 R2 F2 => hQ I2 R2 (frm_tr F1 F2))
def putR (M : Rw) (p hour : Int) : Rw := comR (goeR M p) (M (380 + p)) (M (580 + p)) hour
theorem gro_hi {M : Rw} {j : Int} (h : 380 ≤ j) : groR M j = M j := gro_lo (by omega)
theorem shr_hi {M : Rw} {j : Int} (h : 380 ≤ j) : shrR M j = M j := shr_lo (by omega)
theorem put_ok {G : Int} {M : Rw} (hW : WF G M) {p hour : Int} (hp : 0 ≤ p ∧ p < M 0) (hh : M 3 ≤ hour ∧ hour ≤ 999999999) : WF (G + 201) (goeR M p) ∧ goeR M p 0 < 200 ∧ (0 ≤ M (380 + p) ∧ M (380 + p) < goeR M p 6) ∧ (∀ k : Int, 0 ≤ k → k < goeR M p 0 → goeR M p (380 + k) ≠ M (380 + p)) ∧ (0 ≤ M (580 + p) ∧ M (580 + p) < goeR M p 4) ∧ (goeR M p 3 ≤ hour ∧ hour ≤ 999999999) := by
  have w := hW.2.1.1 p hp.1 hp.2
  have w12 := hW.2.1.2.2
  have b0 := hW.1.1
  have e3 : goeR M p 3 = M 3 := goe_lo b0.2 hp.1 (by omega) (by omega)
  have e4 : goeR M p 4 = M 4 := goe_lo b0.2 hp.1 (by omega) (by omega)
  have e6 : goeR M p 6 = M 6 := goe_lo b0.2 hp.1 (by omega) (by omega)
  refine ⟨wf_goe hW hp, by rw [goe_0]; omega, by omega, fun k a b => ?_, by omega, by omega⟩
  rw [goe_0] at b
  have e : goeR M p (380 + k) = delR M p (380 + k) := shr_hi (by omega)
  rw [e]
  rcases del_k b0 hp k a b with ⟨q, h1, -⟩ | ⟨q, h1, -⟩
  · rw [h1]; exact w12 k p a q hp.2
  · rw [h1]; exact fun h => w12 p (k + 1) hp.1 (by omega) (by omega) h.symm
theorem wf_put {G : Int} {M : Rw} (hW : WF G M) {p hour : Int} (hp : 0 ≤ p ∧ p < M 0) (hh : M 3 ≤ hour ∧ hour ≤ 999999999) : WF (G + 402) (putR M p hour) := by
  obtain ⟨h1, h2, h3, h4, h5, h6⟩ := put_ok hW hp hh
  exact wf_mono (wf_com h1 h2 h3 h4 h5 h6) (by omega)
theorem s_putOff {c G p hour : Int} {I : Mm} {M : Rw} {Q : Mm → Prop} (hR : RepC I c M) (hW : WF G M) (hp : 0 ≤ p ∧ p < M 0) (hh : M 3 ≤ hour ∧ hour ≤ 999999999) (hG : G ≤ 2147400000) (hQ : ∀ I' : Mm, RepC I' c (putR M p hour) → Frm c I I' → Q I') : V_Ca_putOff c p hour I Q := by
  obtain ⟨h1, h2, h3, h4, h5, h6⟩ := put_ok hW hp hh
  have hc := hR.2.1.1
  have b0 := hW.1.1
  obtain ⟨k1, k2, k3⟩ := hR.2.1.2 p hp.1 hp.2
  unfold V_Ca_putOff
  refine s_has (fun a b => ⟨fun _ => ⟨by omega, by omega, ?_⟩, fun q => absurd q (by decide)⟩) (fun q => absurd hp (by rw [hc] at q; exact q))
  rw [k1, k2]
  exact s_caGoes hR hW hp (by omega) (fun I2 R2 F2 => s_caComes R2 h1 h2 h3 h4 h5 h6 (by omega) (fun I3 R3 F3 => hQ I3 R3 (frm_tr F2 F3)))
/-- a Calendar becomes another's copy -/
theorem s_caCopy {c c1 : Int} {I : Mm} {M : Rw} {Q : Mm → Prop} (hR : RepC I c1 M) (h0 : 0 ≤ M 0 ∧ M 0 ≤ 200) (hB : (0 ≤ M 4 ∧ M 4 ≤ 16) ∧ (0 ≤ M 5 ∧ M 5 ≤ 12) ∧ (0 ≤ M 7 ∧ M 7 ≤ 50)) (hd : c1 + 16 ≤ c ∨ c + 16 ≤ c1) (hQ : ∀ I' : Mm, RepC I' c M → Frm c I I' → Q I') : V_Ca_copyFrom c c1 I Q := by
  obtain ⟨rn, rt, ru, rl, tot, h5, h6, h7, h8⟩ := hR
  unfold V_Ca_copyFrom
  refine s_nmCopy rn hB.1 (by omega) (fun I1 rn1 F1 => ?_)
  refine s_thCopy (rth_c rt (fun a u v => F1 a (by omega)) rfl (fun j _ => rfl)) h0 (by omega) (fun I2 rt2 F2 => ?_)
  refine s_ruCopy (rru_c ru hB.2.1.2 (fun a u v => by rw [F2 a (by omega), F1 a (by omega)]) rfl (fun j _ _ => rfl)) hB.2.1 (by omega) (fun I3 ru3 F3 => ?_)
  refine s_loCopy (rlo_c rl hB.2.2.2 (fun a u v => by rw [F3 a (by omega), F2 a (by omega), F1 a (by omega)]) rfl (fun j _ _ => rfl)) hB.2.2 (by omega) (fun I4 rl4 F4 => ?_)
  have F : ∀ a : Int, ¬ (c + 1 ≤ a ∧ a < c + 15) → I4 a = I a := fun a ha => by rw [F4 a (by omega), F3 a (by omega), F2 a (by omega), F1 a (by omega)]
  have z5 : cpM I4 (c1 + 15) 0 (c + 15) 0 8 c1 5 = M 1 := by rw [← h5, ← F c1 (by omega)]; unfold cpM; rw [if_neg (by omega)]
  have z6 : cpM I4 (c1 + 15) 0 (c + 15) 0 8 c1 6 = M 2 := by rw [← h6, ← F c1 (by omega)]; unfold cpM; rw [if_neg (by omega)]
  have z7 : cpM I4 (c1 + 15) 0 (c + 15) 0 8 c1 7 = M 3 := by rw [← h7, ← F c1 (by omega)]; unfold cpM; rw [if_neg (by omega)]
  have z8 : cpM I4 (c1 + 15) 0 (c + 15) 0 8 c1 8 = M 6 := by rw [← h8, ← F c1 (by omega)]; unfold cpM; rw [if_neg (by omega)]
  have zt : ∀ j : Int, 0 ≤ j → j < 8 → cpM I4 (c1 + 15) 0 (c + 15) 0 8 (c + 15) j = M (8 + j) := by
    intro j u v
    rw [← tot j u v, ← F (c1 + 15) (by omega)]
    unfold cpM
    rw [if_pos (by omega)]
    congr 1
    omega
  have zo : ∀ a : Int, a ≠ c + 15 → cpM I4 (c1 + 15) 0 (c + 15) 0 8 a = I4 a := by
    intro a ha
    funext j
    unfold cpM
    rw [if_neg (by omega)]
  generalize cpM I4 (c1 + 15) 0 (c + 15) 0 8 = I5 at *
  have w1 : ∀ v : Int, wrM I5 c 5 v c1 = I5 c1 := fun v => wr_oth _ (by omega)
  have w2 : ∀ v w : Int, wrM (wrM I5 c 5 v) c 6 w c1 = I5 c1 := fun v w => by rw [wr_oth _ (by omega), wr_oth _ (by omega)]
  have w3 : ∀ v w x : Int, wrM (wrM (wrM I5 c 5 v) c 6 w) c 7 x c1 = I5 c1 := fun v w x => by rw [wr_oth _ (by omega), wr_oth _ (by omega), wr_oth _ (by omega)]
  rw [w3, w2, w1, z5, z6, z7, z8]
  have hO : ∀ a : Int, a ≠ c → a ≠ c + 15 → wrM (wrM (wrM (wrM I5 c 5 (M 1)) c 6 (M 2)) c 7 (M 3)) c 8 (M 6) a = I4 a := fun a u v => by rw [wr_oth _ u, wr_oth _ u, wr_oth _ u, wr_oth _ u, zo a v]
  refine hQ _ ⟨rnm_c rn1 hB.1.2 (fun a u v => by rw [hO a (by omega) (by omega), F4 a (by omega), F3 a (by omega), F2 a (by omega)]) rfl (fun j _ _ => rfl), rth_c rt2 (fun a u v => by rw [hO a (by omega) (by omega), F4 a (by omega), F3 a (by omega)]) rfl (fun j _ => rfl), rru_c ru3 hB.2.1.2 (fun a u v => by rw [hO a (by omega) (by omega), F4 a (by omega)]) rfl (fun j _ _ => rfl), rlo_c rl4 hB.2.2.2 (fun a u v => hO a (by omega) (by omega)) rfl (fun j _ _ => rfl), fun j u v => ?_, ?_, ?_, ?_, ?_⟩ (fun a ha => by rw [hO a (by omega) (by omega), F a (by omega)])
  · rw [wr_oth _ (by omega), wr_oth _ (by omega), wr_oth _ (by omega), wr_oth _ (by omega)]; exact zt j u v
  · rw [wr_n (by omega), wr_n (by omega), wr_n (by omega), wr_s]
  · rw [wr_n (by omega), wr_n (by omega), wr_s]
  · rw [wr_n (by omega), wr_s]
  · rw [wr_s]
def begR : Rw := fun j => if j = 1 then 4 else if j = 2 then 10 else 0
theorem beg_0 {j : Int} (h : j ≠ 1) (h2 : j ≠ 2) : begR j = 0 := by unfold begR; rw [if_neg h, if_neg h2]
theorem wf_beg {G : Int} (hG : 0 ≤ G) : WF G begR := by
  have z : ∀ j : Int, j ≠ 1 → j ≠ 2 → begR j = 0 := fun j h h2 => beg_0 h h2
  refine ⟨⟨by rw [z 0 (by omega) (by omega)]; omega, by simp [begR, rw6], by simp [begR], by rw [z 3 (by omega) (by omega)]; omega, by rw [z 4 (by omega) (by omega)]; omega, by rw [z 5 (by omega) (by omega)]; omega, by rw [z 6 (by omega) (by omega)]; omega, by rw [z 7 (by omega) (by omega)]; omega, fun j a b => by rw [z j (by omega) (by omega)]; omega⟩, ⟨fun k a b => ?_, fun i j a b d => ?_, fun i j a b d => ?_⟩, fun r a b => ?_, fun n a b => ?_, fun n a b => ?_⟩
  · rw [z 0 (by omega) (by omega)] at b; omega
  · rw [z 0 (by omega) (by omega)] at d; omega
  · rw [z 0 (by omega) (by omega)] at d; omega
  · rw [z 5 (by omega) (by omega)] at b; omega
  · rw [z 4 (by omega) (by omega)] at a
    rw [z _ (by omega) (by omega), z _ (by omega) (by omega)]
    exact ⟨rfl, rfl⟩
  · rw [z 4 (by omega) (by omega)] at b; omega
theorem s_caReset {c : Int} {I : Mm} {Q : Mm → Prop} (hQ : ∀ I' : Mm, RepC I' c begR → Frm c I I' → Q I') : V_Ca_reset c I Q := by
  have z : ∀ j : Int, j ≠ 1 → j ≠ 2 → begR j = 0 := fun j h h2 => beg_0 h h2
  unfold V_Ca_reset V_Lo_empty
  generalize hI1 : wrM (wrM (wrM (wrM (wrM I (c + 1) 0 0) (c + 5) 0 0) (c + 9) 0 0) (c + 13) 0 0) (c + 13) 1 0 = I1
  have a1 : I1 (c + 1) 0 = 0 := by rw [← hI1, wr_n (by omega), wr_n (by omega), wr_n (by omega), wr_n (by omega), wr_s]
  have a5 : I1 (c + 5) 0 = 0 := by rw [← hI1, wr_n (by omega), wr_n (by omega), wr_n (by omega), wr_s]
  have a9 : I1 (c + 9) 0 = 0 := by rw [← hI1, wr_n (by omega), wr_n (by omega), wr_s]
  have a13 : I1 (c + 13) 0 = 0 := by rw [← hI1, wr_n (by omega), wr_s]
  have a131 : I1 (c + 13) 1 = 0 := by rw [← hI1, wr_s]
  have aF : ∀ a : Int, ¬ (c ≤ a ∧ a < c + 16) → I1 a = I a := fun a ha => by rw [← hI1, wr_oth _ (by omega), wr_oth _ (by omega), wr_oth _ (by omega), wr_oth _ (by omega), wr_oth _ (by omega)]
  refine lpr (P := fun f i I2 => L_Ca_reset_33 c Q f (i : Int) I2) (S := fun i I2 => (∀ a : Int, a ≠ c + 15 → I2 a = I1 a) ∧ ∀ j : Int, 0 ≤ j → j < (i : Int) → I2 (c + 15) j = 0) 8 ⟨fun a _ => rfl, fun j u v => by omega⟩ ?_ ?_
  · intro n I2 hS
    simp only [L_Ca_reset_33]
    obtain ⟨s1, s2⟩ := hS
    have hO : ∀ a : Int, a ≠ c → a ≠ c + 15 → wrM (wrM (wrM (wrM I2 c 5 4) c 6 10) c 7 0) c 8 0 a = I1 a := fun a u v => by rw [wr_oth _ u, wr_oth _ u, wr_oth _ u, wr_oth _ u, s1 a v]
    refine ⟨fun _ => hQ _ ⟨⟨?_, fun n a b => ?_⟩, ⟨?_, fun n a b => ?_⟩, ⟨?_, fun n a b => ?_⟩, ⟨?_, ?_, fun n p a b => ?_⟩, fun j u v => ?_, ?_, ?_, ?_, ?_⟩ (fun a ha => by rw [hO a (by omega) (by omega)]; exact aF a ha), fun q => absurd q (by decide)⟩
    · rw [hO _ (by omega) (by omega), a1]; exact (z 4 (by omega) (by omega)).symm
    · rw [z 4 (by omega) (by omega)] at b; omega
    · rw [hO _ (by omega) (by omega), a5]; exact (z 0 (by omega) (by omega)).symm
    · rw [z 0 (by omega) (by omega)] at b; omega
    · rw [hO _ (by omega) (by omega), a9]; exact (z 5 (by omega) (by omega)).symm
    · rw [z 5 (by omega) (by omega)] at b; omega
    · rw [hO _ (by omega) (by omega), a13]; exact (z 7 (by omega) (by omega)).symm
    · rw [hO _ (by omega) (by omega), a131]; omega
    · rw [z 7 (by omega) (by omega)] at b; omega
    · rw [wr_oth _ (by omega), wr_oth _ (by omega), wr_oth _ (by omega), wr_oth _ (by omega), z (8 + j) (by omega) (by omega)]; exact s2 j u (by omega)
    · rw [wr_n (by omega), wr_n (by omega), wr_n (by omega), wr_s]; simp [begR]
    · rw [wr_n (by omega), wr_n (by omega), wr_s]; simp [begR]
    · rw [wr_n (by omega), wr_s]; exact (z 3 (by omega) (by omega)).symm
    · rw [wr_s]; exact (z 6 (by omega) (by omega)).symm
  · intro i n I2 hi hS ih
    simp only [L_Ca_reset_33]
    refine ⟨fun q => by omega, fun _ => ⟨by omega, by omega, ih _ ⟨fun a ha => by rw [wr_oth _ ha]; exact hS.1 a ha, fun j u v => ?_⟩⟩⟩
    by_cases q : j = (i : Int)
    · subst q; rw [wr_s]
    · rw [wr_n (by omega)]; exact hS.2 j u (by omega)
def rowK (M : Rw) (k : Int) : Int := (M (780 + k) / M 2) % M 1
theorem s_rowAt {c G k : Int} {I : Mm} {M : Rw} {Q : Int → Mm → Prop} (hR : RepC I c M) (hW : WF G M) (hQ : Q (if 0 ≤ k ∧ k < M 0 then rowK M k else -1) I) : V_Ca_rowAt c k I Q := by
  have hc := hR.2.1.1
  have hr := hR.2.2.2.2.2.1
  have hw := hR.2.2.2.2.2.2.1
  have b0 := hW.1.1
  have b1 := hW.1.2.1
  have b2 := hW.1.2.2.1
  unfold V_Ca_rowAt
  refine s_has (fun a b => ⟨fun _ => ⟨by omega, ?_⟩, fun q => absurd q (by decide)⟩) (fun q => ⟨fun r => absurd rfl r, fun _ => ?_⟩)
  · rw [hc] at b
    rw [if_pos ⟨a, b⟩] at hQ
    have h3 := wf_h hW k a b
    rw [(hR.2.1.2 k a b).2.2, hr, hw]
    unfold V_X_rowOf V_X_dayOf
    have h4 := Int.ediv_nonneg h3.1 (show 0 ≤ M 2 by omega)
    exact ⟨fun q => by omega, fun _ => ⟨fun _ => ⟨fun _ => ⟨by omega, by omega, hQ⟩, fun q => by omega⟩, fun q => by omega⟩⟩
  · rw [hc] at q
    rw [if_neg q] at hQ
    exact hQ
def cirR (M : Rw) (row : Int) (n : Nat) : Int := cntB (fun k => decide (rowK M k = row)) n
theorem s_countInRow {c G row n : Int} {I : Mm} {M : Rw} {Q : Int → Mm → Prop} (hR : RepC I c M) (hW : WF G M) (hn : 0 ≤ n ∧ n ≤ M 0) (hQ : Q (cirR M row n.toNat) I) : V_Ca_countInRow c row n I Q := by
  have b0 := hW.1.1
  refine lp (P := fun f i => L_Ca_countInRow_5 c row n Q f (cirR M row i) (i : Int) I) n.toNat (fun f => ?_) (fun i f hi ih => ?_)
  · simp only [L_Ca_countInRow_5]
    exact ⟨fun _ => hQ, fun q => by omega⟩
  · have r := cntB_rng (fun k => decide (rowK M k = row)) i
    have e : cirR M row (i + 1) = cirR M row i + (if decide (rowK M (i : Int) = row) = true then 1 else 0) := rfl
    rw [e] at ih
    have e2 : cirR M row i = cntB (fun k => decide (rowK M k = row)) i := rfl
    simp only [L_Ca_countInRow_5]
    refine ⟨fun q => by omega, fun _ => s_rowAt hR hW ?_⟩
    rw [if_pos (by omega)]
    refine ⟨fun q => ⟨by omega, ?_⟩, fun q => ⟨by omega, by omega, ?_⟩⟩
    · rw [if_neg (by simpa using q), Int.add_zero] at ih; exact ih
    · rw [if_pos (by simpa using q)] at ih; exact ih
/-- where the k-th of a row is; -1 without it -/
def pirR (M : Rw) (row k : Int) : Int := fstB (fun p => decide (rowK M p = row ∧ cirR M row p.toNat = k)) (M 0).toNat
theorem s_placeInRow {c G row k : Int} {I : Mm} {M : Rw} {Q : Int → Mm → Prop} (hR : RepC I c M) (hW : WF G M) (hQ : Q (pirR M row k) I) : V_Ca_placeInRow c row k I Q := by
  have b0 := hW.1.1
  have hc := hR.2.1.1
  refine lp_first (P := fun f i => L_Ca_placeInRow_5 c row k Q f (cirR M row i) (i : Int) I) (fun p => decide (rowK M p = row ∧ cirR M row p.toNat = k)) (M 0).toNat (fun hall f => ?_) (fun i f hi hi2 hp => ?_) (fun i f hi hp ih => ?_)
  · simp only [L_Ca_placeInRow_5]
    rw [hc]
    refine ⟨fun _ => ?_, fun q => by omega⟩
    rcases fstB_is (fun p => decide (rowK M p = row ∧ cirR M row p.toNat = k)) (M 0).toNat with ⟨h, -⟩ | ⟨h, h2, -⟩
    · unfold pirR at hQ
      rw [h] at hQ
      exact hQ
    · exact absurd h2 (by rw [hall _ h.1 h.2]; decide)
  · have hp' : rowK M (i : Int) = row ∧ cirR M row i = k := by simpa using hp
    simp only [L_Ca_placeInRow_5]
    rw [hc]
    refine ⟨fun q => by omega, fun _ => s_rowAt hR hW ?_⟩
    rw [if_pos (by omega)]
    refine ⟨fun q => absurd hp'.1 q, fun _ => ⟨fun q => absurd hp'.2 q, fun _ => ?_⟩⟩
    unfold pirR at hQ
    rw [← hi] at hQ
    exact hQ
  · have r := cntB_rng (fun k => decide (rowK M k = row)) i
    have e : cirR M row (i + 1) = cirR M row i + (if decide (rowK M (i : Int) = row) = true then 1 else 0) := rfl
    rw [e] at ih
    have e2 : cirR M row i = cntB (fun k => decide (rowK M k = row)) i := rfl
    have hp' : ¬ (rowK M (i : Int) = row ∧ cirR M row i = k) := by simpa using hp
    simp only [L_Ca_placeInRow_5]
    rw [hc]
    refine ⟨fun q => by omega, fun _ => s_rowAt hR hW ?_⟩
    rw [if_pos (by omega)]
    refine ⟨fun q => ⟨by omega, ?_⟩, fun q => ⟨fun q2 => ⟨by omega, by omega, ?_⟩, fun q2 => absurd ⟨q, q2⟩ hp'⟩⟩
    · rw [if_neg (by simpa using q), Int.add_zero] at ih; exact ih
    · rw [if_pos (by simpa using q)] at ih; exact ih
def frmR (M : Rw) (n : Nat) : Int := if n = 0 then M 3 else M (780 + ((n : Int) - 1))
def lfaR (M : Rw) (rows width : Int) : Nat → Int
  | 0 => 0
  | n + 1 => lfaR M rows width n + lkR (frmR M n) (M (780 + (n : Int))) rows width
theorem frm_rng {G : Int} {M : Rw} (hW : WF G M) (n : Nat) (h : (n : Int) < M 0) : 0 ≤ frmR M n ∧ frmR M n ≤ M (780 + (n : Int)) := by
  have b3 := hW.1.2.2.2.1
  unfold frmR
  by_cases q : n = 0
  · subst q
    rw [if_pos rfl]
    have := hW.2.1.1 0 (by omega) h
    exact ⟨b3.1, this.2.2.1⟩
  · rw [if_neg q]
    have h1 := wf_h hW ((n : Int) - 1) (by omega) (by omega)
    have h2 := wf_s hW ((n : Int) - 1) (n : Int) (by omega) (by omega) h
    exact ⟨h1.1, h2⟩
theorem lfa_rng {G : Int} {M : Rw} (hW : WF G M) {rows width : Int} (hr : rw6 rows) (hw : 1 ≤ width) : ∀ n : Nat, (n : Int) ≤ M 0 → 0 ≤ lfaR M rows width n ∧ lfaR M rows width n ≤ 128 * (n : Int)
  | 0, _ => by simp [lfaR]
  | n + 1, h => by
    have ih := lfa_rng hW hr hw n (by omega)
    have f := frm_rng hW n (by omega)
    have h1 := wf_h hW (n : Int) (by omega) (by omega)
    obtain ⟨-, -, -, l1, l2⟩ := lk_rng (a := frmR M n) (b := M (780 + (n : Int))) f h1.2 hr hw
    unfold lfaR
    omega
theorem s_looksForAll {c G rows width : Int} {I : Mm} {M : Rw} {Q : Int → Mm → Prop} (hR : RepC I c M) (hW : WF G M) (hr : rw6 rows) (hw : 1 ≤ width) (hQ : Q (lfaR M rows width (M 0).toNat) I) : V_Ca_looksForAll c rows width I Q := by
  have b0 := hW.1.1
  have hc := hR.2.1.1
  have hn := hR.2.2.2.2.2.2.2.1
  unfold V_Ca_looksForAll
  rw [hn]
  refine lp (P := fun f i => L_Ca_looksForAll_11 c rows width Q f (lfaR M rows width i) (frmR M i) (i : Int) I) (M 0).toNat (fun f => ?_) (fun i f hi ih => ?_)
  · simp only [L_Ca_looksForAll_11]
    rw [hc]
    exact ⟨fun _ => hQ, fun q => by omega⟩
  · have fr := frm_rng hW i (by omega)
    have h1 := wf_h hW (i : Int) (by omega) (by omega)
    have r1 := lfa_rng hW hr hw i (by omega)
    obtain ⟨-, -, -, l1, l2⟩ := lk_rng (a := frmR M i) (b := M (780 + (i : Int))) fr h1.2 hr hw
    simp only [L_Ca_looksForAll_11]
    rw [hc, (hR.2.1.2 (i : Int) (by omega) (by omega)).2.2]
    refine ⟨fun q => by omega, fun _ => ⟨by omega, s_looksFrom fr h1.2 hr hw ⟨by omega, by omega, by omega, ?_⟩⟩⟩
    have e : frmR M (i + 1) = M (780 + (i : Int)) := by
      unfold frmR
      rw [if_neg (by omega)]
      congr 1
      omega
    rw [e] at ih
    rw [(hR.2.1.2 (i : Int) (by omega) (by omega)).2.2]
    exact ih
