/-! ahead, busiest, when: what would be -/
theorem m_keepsAside {I : Mm} {M : Rw} {Q : Mm → Prop} (hM : I 237 = M) (hQ : ∀ I' : Mm, (∀ j : Int, 0 ≤ j → j < 980 → I' 238 j = M j) → (∀ a : Int, a ≠ 238 → I' a = I a) → Q I') : V_M_keepsAside I Q := by
  refine lpr (P := fun f i I1 => L_M_keepsAside_2 Q f (i : Int) I1) (S := fun i I1 => (∀ a : Int, a ≠ 238 → I1 a = I a) ∧ ∀ j : Int, 0 ≤ j → j < (i : Int) → I1 238 j = M j) 980 ⟨fun _ _ => rfl, fun j a b => by omega⟩ ?_ ?_
  · intro n I1 hS
    unfold L_M_keepsAside_2
    exact ⟨fun _ => hQ I1 (fun j a b => hS.2 j a b) hS.1, fun q => absurd q (by decide)⟩
  · intro i n I1 hi hS ih
    unfold L_M_keepsAside_2
    rw [hS.1 237 (by omega), hM]
    refine ⟨fun q => by omega, fun _ => ⟨by omega, by omega, by omega, ih _ ⟨fun a ha => by rw [wr_oth _ ha]; exact hS.1 a ha, fun j a b => ?_⟩⟩⟩
    by_cases q : j = (i : Int)
    · rw [q, wr_s]
    · rw [wr_n (by omega)]; exact hS.2 j a (by omega)
theorem m_isAgain {I : Mm} {N : Rw} {Q : Mm → Prop} (hN : ∀ j : Int, 0 ≤ j → j < 980 → I 238 j = N j) (hQ : ∀ I' : Mm, (∀ j : Int, 0 ≤ j → j < 980 → I' 237 j = N j) → (∀ a : Int, a ≠ 237 → I' a = I a) → Q I') : V_M_isAgain I Q := by
  refine lpr (P := fun f i I1 => L_M_isAgain_2 Q f (i : Int) I1) (S := fun i I1 => (∀ a : Int, a ≠ 237 → I1 a = I a) ∧ ∀ j : Int, 0 ≤ j → j < (i : Int) → I1 237 j = N j) 980 ⟨fun _ _ => rfl, fun j a b => by omega⟩ ?_ ?_
  · intro n I1 hS
    unfold L_M_isAgain_2
    exact ⟨fun _ => hQ I1 (fun j a b => hS.2 j a b) hS.1, fun q => absurd q (by decide)⟩
  · intro i n I1 hi hS ih
    unfold L_M_isAgain_2
    rw [hS.1 238 (by omega), hN (i : Int) (by omega) (by omega)]
    refine ⟨fun q => by omega, fun _ => ⟨by omega, by omega, by omega, ih _ ⟨fun a ha => by rw [wr_oth _ ha]; exact hS.1 a ha, fun j a b => ?_⟩⟩⟩
    by_cases q : j = (i : Int)
    · rw [q, wr_s]
    · rw [wr_n (by omega)]; exact hS.2 j a (by omega)
theorem stay2 {G : Int} {I I' : Mm} {M : Rw} {u : Int} {H : Int → Rw} {k : Int → Int} {S : Int → Rw} {l : Int} {T : Int → Int} (hC : CS I M u H k S l T) (hR : RS I M u H k S l T) (hA : AW G M u H k S l T) (hI : ∀ a : Int, cell1 a → I' a = I a) (h37 : ∀ j : Int, 0 ≤ j → j < 980 → I' 237 j = M j) (hO : ∀ a : Int, (a = 239 ∨ a = 240 ∨ a = 241 ∨ a = 246) → I' a = I a) (h3 : I' 236 3 = I 236 3) (h16 : I' 236 16 = I 236 16) : Inv G I' := by
  have C1 := cs_fr hC hA hI
  have R1 := rs_row hR (I' := I') (M' := I' 237) rfl hO h3 h16
  exact ⟨I' 237, u, H, k, S, l, T, ⟨rep_cong C1.1 hA.1.1.1 (wf_b hA.1) (fun _ _ _ => rfl) h37, C1.2⟩, R1, ⟨wf_cong hA.1 h37, hA.2⟩⟩
theorem tke_lo {G : Int} {M : Rw} (hW : WF G M) (h0 : 0 < M 0) {j : Int} (h : j < 380) (h2 : j ≠ 0 ∧ j ≠ 1 ∧ j ≠ 2 ∧ j ≠ 6 ∧ j ≠ 9 ∧ j ≠ 11 ∧ j ≠ 12 ∧ j ≠ 14) (h3 : j < 16 ∨ 48 ≤ j) : tkeR M j = tk1R M j := by
  have W2 := wf_tk2 hW h0
  have W1 := wf_tk1 hW h0
  have e5 := tk2_5 hW h0
  have b5 := hW.1.2.2.2.2.2.1
  have b4 := hW.1.2.2.2.2.1
  have f := wf_first hW h0
  have hb := (brs_lo (nam := M 580) W2 (M 5).toNat (by rw [e5]; omega)).2 j h (by omega) (by omega)
  have et : tkeR M = brsR (moR (goeR (tk1R M) 0) (16 + M 580) 1) (M 580) (M 5).toNat := rfl
  rw [et, hb, mo_ne (by omega), goe_lo W1.1.1.2 (by omega) h (by omega)]
theorem tke_16 {G : Int} {M : Rw} (hW : WF G M) (h0 : 0 < M 0) {n : Int} (hn : 0 ≤ n ∧ n < 16) : tkeR M (16 + n) = M (16 + n) + (if n = M 580 then 1 else 0) := by
  have W2 := wf_tk2 hW h0
  have W1 := wf_tk1 hW h0
  have e5 := tk2_5 hW h0
  have b5 := hW.1.2.2.2.2.2.1
  have hb := (brs_lo (nam := M 580) W2 (M 5).toNat (by rw [e5]; omega)).2 (16 + n) (by omega) (by omega) (by omega)
  have et : tkeR M = brsR (moR (goeR (tk1R M) 0) (16 + M 580) 1) (M 580) (M 5).toNat := rfl
  have e1 : goeR (tk1R M) 0 (16 + n) = M (16 + n) := by rw [goe_lo W1.1.1.2 (by omega) (by omega) (by omega), tk1_ne (by omega) (by omega)]
  rw [et, hb]
  by_cases q : n = M 580
  · rw [if_pos q, ← q]
    simp only [moR, if_true]
    rw [e1]
  · rw [if_neg q, mo_ne (by omega), e1, Int.add_zero]
theorem tke_4 {G : Int} {M : Rw} (hW : WF G M) (h0 : 0 < M 0) : tkeR M 4 = M 4 := by
  rw [tke_lo hW h0 (by omega) (by omega) (by omega), tk1_ne (by omega) (by omega)]
theorem tke_log {G : Int} {M : Rw} (hW : WF G M) (h0 : 0 < M 0) : tkeR M 3 = M 780 ∧ tkeR M 7 = min (M 7 + 1) 50 ∧ tkeR M 8 = M 8 + lkR (M 3) (M 780) (M 1) (M 2) ∧ tkeR M 180 = M 380 ∧ tkeR M 181 = M 580 ∧ tkeR M 182 = M 780 := by
  have e7 : cntR M 7 = M 7 := cnt_ne (by omega)
  refine ⟨?_, ?_, ?_, ?_, ?_, ?_⟩
  · rw [tke_lo hW h0 (by omega) (by omega) (by omega)]; simp [tk1R, nowR]
  · rw [tke_lo hW h0 (by omega) (by omega) (by omega)]; simp [tk1R, nowR, logR, e7]
  · rw [tke_lo hW h0 (by omega) (by omega) (by omega)]
    unfold tk1R nowR
    rw [if_neg (by omega), log_ne (by omega) (by omega)]
    unfold cntR
    split
    · rw [mo_ne (by omega), mo_ne (by omega)]; simp [moR]
    · rw [mo_ne (by omega)]; simp [moR]
  · rw [tke_lo hW h0 (by omega) (by omega) (by omega)]; simp [tk1R, nowR, logR]
  · rw [tke_lo hW h0 (by omega) (by omega) (by omega)]; simp [tk1R, nowR, logR]
  · rw [tke_lo hW h0 (by omega) (by omega) (by omega)]; simp [tk1R, nowR, logR]
theorem it_facts {G : Int} {M : Rw} (hW : WF G M) : ∀ n : Nat, (∀ k : Nat, k < n → 0 < itR tkeR M k 0) → itR tkeR M n 4 = M 4 ∧ (M 8 ≤ itR tkeR M n 8 ∧ itR tkeR M n 8 ≤ M 8 + 128 * (n : Int)) ∧ (∀ x : Int, 0 ≤ x → x < 16 → M (16 + x) ≤ itR tkeR M n (16 + x) ∧ itR tkeR M n (16 + x) ≤ M (16 + x) + n) ∧ (0 < n → 1 ≤ itR tkeR M n 7)
  | 0, _ => ⟨rfl, ⟨Int.le_refl _, by show M 8 ≤ M 8 + 128 * ((0 : Nat) : Int); omega⟩, fun x _ _ => ⟨Int.le_refl _, by show M (16 + x) ≤ M (16 + x) + ((0 : Nat) : Int); omega⟩, fun h => absurd h (Nat.lt_irrefl 0)⟩
  | n + 1, h => by
    obtain ⟨h4, h8, h16, -⟩ := it_facts hW n (fun k hk => h k (by omega))
    have W1 := wf_it hW n (fun k hk => h k (by omega))
    have h0 := h n (by omega)
    have l := lk_wf W1 h0
    have t := tke_log W1 h0
    have b7 := W1.1.2.2.2.2.2.2.2.1
    refine ⟨(tke_4 W1 h0).trans h4, ?_, fun x a b => ?_, fun _ => ?_⟩
    · show M 8 ≤ tkeR (itR tkeR M n) 8 ∧ tkeR (itR tkeR M n) 8 ≤ _
      rw [t.2.2.1]
      omega
    · show M (16 + x) ≤ tkeR (itR tkeR M n) (16 + x) ∧ tkeR (itR tkeR M n) (16 + x) ≤ _
      have hx := h16 x a b
      rw [tke_16 W1 h0 ⟨a, b⟩]
      split <;> omega
    · show 1 ≤ tkeR (itR tkeR M n) 7
      rw [t.2.1]
      omega
def lsR (M : Rw) : Nat → Int
  | 0 => 0
  | n + 1 => lsR M n + lkR (itR tkeR M n 3) (itR tkeR M n 780) (itR tkeR M n 1) (itR tkeR M n 2)
theorem ls_is {G : Int} {M : Rw} (hW : WF G M) : ∀ n : Nat, (∀ k : Nat, k < n → 0 < itR tkeR M k 0) → lsR M n = itR tkeR M n 8 - M 8
  | 0, _ => by show (0 : Int) = M 8 - M 8; omega
  | n + 1, h => by
    have h1 := ls_is hW n (fun k hk => h k (by omega))
    have W1 := wf_it hW n (fun k hk => h k (by omega))
    have t := (tke_log W1 (h n (by omega))).2.2.1
    show lsR M n + _ = tkeR (itR tkeR M n) 8 - M 8
    rw [h1, t]
    omega
/-- the state of the reference that takes n times -/
def aF (I I1 : Mm) (M : Rw) (n : Nat) : Prop := I1 237 = itR tkeR M n ∧ rsF I I1 ∧ (0 < n → I1 236 6 = itR tkeR M n 180 ∧ I1 236 7 = itR tkeR M n 181)
theorem aF_step {G : Int} {I I1 I2 : Mm} {M : Rw} {n : Nat} (W1 : WF G (itR tkeR M n)) (h0 : 0 < itR tkeR M n 0) (h : aF I I1 M n) (h1 : I2 237 = tkeR (itR tkeR M n)) (h2 : ∀ a : Int, a ≠ 236 → a ≠ 237 → I2 a = I1 a) (h3 : ∀ j : Int, j ≠ 6 → j ≠ 7 → I2 236 j = I1 236 j) (h6 : I2 236 6 = itR tkeR M n 380) (h7 : I2 236 7 = itR tkeR M n 580) : aF I I2 M (n + 1) := by
  have t := tke_log W1 h0
  exact ⟨h1, rsF_tr h.2.1 ⟨h2, h3⟩, fun _ => ⟨h6.trans t.2.2.2.1.symm, h7.trans t.2.2.2.2.1.symm⟩⟩
theorem r_ahead {G x1 x2 : Int} {I : Mm} {M : Rw} {Q : Int → Mm → Prop} (hM : I 237 = M) (hW : WF G M) (hG : G ≤ 2146000000) (e0 : ¬ ((1 ≤ x1 ∧ x1 ≤ 300) ∧ (0 ≤ x2 ∧ x2 ≤ 4)) → Q (-1) I) (e1 : (1 ≤ x1 ∧ x1 ≤ 300) ∧ (0 ≤ x2 ∧ x2 ≤ 4) → ∀ (z : Int) (I' : Mm), ((tksN M x1.toNat : Nat) < x1 → z = -2) → (x1 ≤ (tksN M x1.toNat : Nat) → (x2 = 0 → z = itR tkeR M (tksN M x1.toNat) 180) ∧ (x2 = 1 → z = itR tkeR M (tksN M x1.toNat) 181) ∧ (x2 = 2 → z = itR tkeR M (tksN M x1.toNat) 3) ∧ (x2 = 3 → z = itR tkeR M (tksN M x1.toNat) 0) ∧ (x2 = 4 → z = itR tkeR M (tksN M x1.toNat) 8 - M 8)) → (∀ j : Int, 0 ≤ j → j < 980 → I' 237 j = M j) → (∀ a : Int, a ≠ 236 → a ≠ 237 → a ≠ 238 → I' a = I a) → (∀ j : Int, j ≠ 6 → j ≠ 7 → I' 236 j = I 236 j) → Q z I') : V_M_ahead x1 x2 I Q := by
  obtain ⟨t1, t2, t3⟩ := tks_is M x1.toNat
  unfold V_M_ahead
  refine m_in (fun a b => ⟨fun w => absurd w (by decide), fun _ => m_in (fun c d => ⟨fun _ => ?_, fun w => absurd w (by decide)⟩) (fun q => ⟨fun w => absurd rfl w, fun _ => e0 (fun w => q w.2)⟩)⟩) (fun q => ⟨fun _ => e0 (fun w => q w.1), fun w => absurd rfl w⟩)
  have hall : (1 ≤ x1 ∧ x1 ≤ 300) ∧ (0 ≤ x2 ∧ x2 ≤ 4) := ⟨⟨a, b⟩, c, d⟩
  refine m_keepsAside hM (fun I0 k0 F0 => ?_)
  have hM0 : I0 237 = M := by rw [F0 237 (by omega)]; exact hM
  refine lpr (P := fun f i I1 => L_M_ahead_35 x1 x2 Q _ f (lsR M i) (i : Int) I1) (S := fun i I1 => aF I0 I1 M i) (tksN M x1.toNat) ⟨hM0, rsF_rf I0, fun h => absurd h (Nat.lt_irrefl 0)⟩ ?_ ?_
  · intro n I1 hS
    have hend : V_M_isAgain I1 (fun I33 => (x1 ≤ ((tksN M x1.toNat : Nat) : Int) → (¬ x2 = 0 → (¬ x2 = 1 → (¬ x2 = 2 → (¬ x2 = 3 → Q (lsR M (tksN M x1.toNat)) I33) ∧
    (x2 = 3 → Q (I1 237 0) I33)) ∧
    (x2 = 2 → Q (I1 237 3) I33)) ∧
    (x2 = 1 → Q (I33 236 7) I33)) ∧
    (x2 = 0 → Q (I33 236 6) I33)) ∧
    (((tksN M x1.toNat : Nat) : Int) < x1 → Q (-2) I33)) := by
      refine m_isAgain (N := M) (fun j p q => by rw [hS.2.1.1 238 (by omega) (by omega)]; exact k0 j p q) (fun I2 k2 F2 => ?_)
      have g : ∀ z : Int, ((tksN M x1.toNat : Nat) < x1 → z = -2) → (x1 ≤ (tksN M x1.toNat : Nat) → (x2 = 0 → z = itR tkeR M (tksN M x1.toNat) 180) ∧ (x2 = 1 → z = itR tkeR M (tksN M x1.toNat) 181) ∧ (x2 = 2 → z = itR tkeR M (tksN M x1.toNat) 3) ∧ (x2 = 3 → z = itR tkeR M (tksN M x1.toNat) 0) ∧ (x2 = 4 → z = itR tkeR M (tksN M x1.toNat) 8 - M 8)) → Q z I2 := fun z z1 z2 => e1 hall z I2 z1 z2 k2 (fun a p q r => by rw [F2 a q, hS.2.1.1 a p q, F0 a r]) (fun j p q => by rw [F2 236 (by omega), hS.2.1.2 j p q, F0 236 (by omega)])
      refine ⟨fun hx => ?_, fun hx => g _ (fun _ => rfl) (fun w => by omega)⟩
      obtain ⟨v6, v7⟩ := hS.2.2 (by omega)
      have hls := ls_is hW (tksN M x1.toNat) t2
      rw [hS.1, F2 236 (by omega), v6, v7]
      refine ⟨fun w0 => ⟨fun w1 => ⟨fun w2 => ⟨fun w3 => ?_, fun w3 => ?_⟩, fun w2 => ?_⟩, fun w1 => ?_⟩, fun w0 => ?_⟩
      all_goals (refine g _ (fun w => by omega) (fun _ => ⟨fun w => ?_, fun w => ?_, fun w => ?_, fun w => ?_, fun w => ?_⟩) <;> first | rfl | exact hls | (exfalso; omega))
    unfold L_M_ahead_35
    rw [hS.1] at hend ⊢
    refine ⟨fun _ => hend, fun q => ⟨fun _ => hend, fun q2 => ?_⟩⟩
    have := t3 (by omega)
    omega
  · intro i n I1 hi hS ih
    have W1 := wf_it hW i (fun k hk => t2 k (by omega))
    have h0 := t2 i hi
    obtain ⟨f4, f8, -⟩ := it_facts hW i (fun k hk => t2 k (by omega))
    have hls := ls_is hW i (fun k hk => t2 k (by omega))
    have l := lk_wf W1 h0
    have t := tke_log W1 h0
    have b8 := W1.1.2.2.2.2.2.2.2.2 8 (by omega) (by omega)
    unfold L_M_ahead_35
    rw [hS.1]
    refine ⟨fun q => by omega, fun _ => ⟨fun q => by omega, fun _ => m_takes2 hS.1 W1 h0 (by omega) (fun I2 e F F' v6 v7 => ⟨by omega, by omega, ?_⟩)⟩⟩
    exact ih I2 (aF_step W1 h0 hS e F F' v6 v7)
theorem o_ahead {G x1 x2 : Int} {I : Mm} {Q : Mm → Prop} (hI : Inv G I) (hG : G ≤ 2143000000) (hQ : ∀ I' : Mm, Inv (G + 3000000) I' → Q I') : V_X_ahead x1 x2 I (fun z I1 => V_M_ahead x1 x2 I1 (fun z' I2 => (z = z' → Q I2) ∧ (¬ z = z' → False))) := by
  obtain ⟨M, u, H, k, S, l, T, hC, hR, hA⟩ := hI
  have hst : Q I := hQ I ⟨M, u, H, k, S, l, T, hC, hR, aw_mono hA (by omega)⟩
  have hW := hA.1
  have b0 := hW.1.1
  have hM := hR.1
  have refuse : ¬ ((1 ≤ x1 ∧ x1 ≤ 300) ∧ (0 ≤ x2 ∧ x2 ≤ 4)) → V_M_ahead x1 x2 I (fun z' I2 => ((-1 : Int) = z' → Q I2) ∧ (¬ (-1 : Int) = z' → False)) := fun q => r_ahead hM hW (by omega) (fun _ => fin rfl hst) (fun w => absurd w q)
  unfold V_X_ahead
  refine ⟨fun q => refuse (by omega), fun a => ⟨fun q => refuse (by omega), fun b => ⟨fun q => refuse (by omega), fun c => ⟨fun d => ?_, fun q => refuse (by omega)⟩⟩⟩⟩
  have hall : (1 ≤ x1 ∧ x1 ≤ 300) ∧ (0 ≤ x2 ∧ x2 ≤ 4) := ⟨⟨a, b⟩, c, d⟩
  refine s_caCopy hC.1 hW.1.1 (wf_b hW) (by omega) (fun I1 R1 F1 => s_takeSome R1 hW ⟨a, b⟩ (by omega) (fun I2 R2 F2 => ?_))
  have FF := frm_tr F1 F2
  obtain ⟨t1, t2, t3⟩ := tks_is M x1.toNat
  obtain ⟨f4, f8, -, f7⟩ := it_facts hW _ t2
  have n0 : I2 (17 + 5) 0 = itR tkeR M (tksN M x1.toNat) 0 := R2.2.1.1
  have n15 : I2 (17 + 15) 0 = itR tkeR M (tksN M x1.toNat) 8 := R2.2.2.2.2.1 0 (by omega) (by omega)
  have n16 : I2 (1 + 15) 0 = M 8 := by rw [FF (1 + 15) (by omega)]; exact hC.1.2.2.2.2.1 0 (by omega) (by omega)
  have hM2 : I2 237 = M := by rw [FF 237 (by omega)]; exact hM
  have W2 := wf_it hW _ t2
  have b7 := W2.1.2.2.2.2.2.2.2.1
  have go : ∀ z : Int, ((tksN M x1.toNat : Nat) < x1 → z = -2) → (x1 ≤ (tksN M x1.toNat : Nat) → (x2 = 0 → z = itR tkeR M (tksN M x1.toNat) 180) ∧ (x2 = 1 → z = itR tkeR M (tksN M x1.toNat) 181) ∧ (x2 = 2 → z = itR tkeR M (tksN M x1.toNat) 182) ∧ (x2 = 3 → z = itR tkeR M (tksN M x1.toNat) 0) ∧ (x2 = 4 → z = itR tkeR M (tksN M x1.toNat) 8 - M 8)) → V_M_ahead x1 x2 I2 (fun z' I3 => (z = z' → Q I3) ∧ (¬ z = z' → False)) := by
    intro z z1 z2
    refine r_ahead hM2 hW (by omega) (fun w => absurd hall w) (fun _ z' I3 y1 y2 k3 F3 G3 => fin ?_ (hQ I3 (stay2 hC hR (aw_mono hA (by omega)) (fun a ha => ?_) k3 (fun a ha => ?_) ?_ ?_)))
    · by_cases w : (tksN M x1.toNat : Nat) < x1
      · rw [z1 w, y1 w]
      · obtain ⟨p0, p1, p2, p3, p4⟩ := z2 (by omega)
        obtain ⟨q0, q1, q2, q3, q4⟩ := y2 (by omega)
        rcases (show x2 = 0 ∨ x2 = 1 ∨ x2 = 2 ∨ x2 = 3 ∨ x2 = 4 by omega) with h | h | h | h | h
        · rw [p0 h, q0 h]
        · rw [p1 h, q1 h]
        · rw [p2 h, q2 h]
          obtain ⟨m, hm⟩ : ∃ m : Nat, tksN M x1.toNat = m + 1 := ⟨tksN M x1.toNat - 1, by omega⟩
          rw [hm]
          have Wm := wf_it hW m (fun k hk => t2 k (by omega))
          have t := tke_log Wm (t2 m (by omega))
          exact t.2.2.2.2.2.trans t.1.symm
        · rw [p3 h, q3 h]
        · rw [p4 h, q4 h]
    · rw [F3 a (by omega) (by omega) (by omega)]; exact FF a (by omega)
    · rw [F3 a (by omega) (by omega) (by omega)]; exact FF a (by omega)
    · rw [G3 3 (by omega) (by omega), FF 236 (by omega)]
    · rw [G3 16 (by omega) (by omega), FF 236 (by omega)]
  have b8 := hW.1.2.2.2.2.2.2.2.2 8 (by omega) (by omega)
  have b8' := W2.1.2.2.2.2.2.2.2.2 8 (by omega) (by omega)
  rw [n0, n15, n16]
  refine ⟨fun hx => ⟨fun w => go _ (fun v => by omega) (fun _ => ⟨fun v => by omega, fun v => by omega, fun v => by omega, fun _ => rfl, fun v => by omega⟩), fun w => ⟨by omega, go _ (fun v => by omega) (fun _ => ⟨fun v => by omega, fun v => by omega, fun v => by omega, fun v => by omega, fun _ => rfl⟩)⟩, fun w => s_loAt R2.2.2.2.1 b7 ?_⟩, fun hx => go _ (fun _ => rfl) (fun w => by omega)⟩
  have h7 := f7 (by omega)
  rw [if_pos (by omega)]
  refine go _ (fun v => by omega) (fun _ => ⟨fun v => by rw [v]; rfl, fun v => by rw [v]; rfl, fun v => by rw [v]; rfl, fun v => by omega, fun v => by omega⟩)
