/-! by -/
theorem s_takeDue3 {c G x1 : Int} {I : Mm} {M : Rw} {Q : Int → Mm → Prop} (hR : RepC I c M) (hW : WF G M) (hG : G ≤ 2144000000) (hQ : ∀ I' : Mm, RepC I' c (itR tkeR M (untN M x1 300)) → Frm c I I' → Q (untN M x1 300 : Nat) I') : V_Ca_takeDue c x1 300 I Q := by
  obtain ⟨t1, t2, t3⟩ := unt_is M x1 300
  refine lpr (P := fun f i I1 => L_Ca_takeDue_2 c x1 300 Q f (i : Int) I1) (S := fun i I1 => RepC I1 c (itR tkeR M i) ∧ Frm c I I1) (untN M x1 300) ⟨hR, frm_rf c I⟩ ?_ ?_
  · intro n I1 hS
    simp only [L_Ca_takeDue_2]
    refine ⟨fun _ => hQ _ hS.1 hS.2, fun q => s_waitsBy hS.1 (fun a b => absurd ⟨a, b⟩ (t3 (by omega))) (fun _ => ⟨fun _ => hQ _ hS.1 hS.2, fun q => absurd rfl q⟩)⟩
  · intro i n I1 hi hS ih
    have W1 := wf_it hW i (fun k hk => (t2 k (by omega)).1)
    have h0 := t2 i hi
    simp only [L_Ca_takeDue_2]
    refine ⟨fun q => by omega, fun _ => s_waitsBy hS.1 (fun _ _ => ⟨fun q => absurd q (by decide), fun _ => s_caTakeFirst hS.1 W1 h0.1 (by omega) (fun I2 R2 F2 => ⟨by omega, ih I2 ⟨R2, frm_tr hS.2 F2⟩⟩)⟩) (fun q => absurd h0 q)⟩
theorem r_by {G x1 x2 : Int} {I : Mm} {M : Rw} {Q : Int → Mm → Prop} (hM : I 237 = M) (hW : WF G M) (hG : G ≤ 2144000000) (e0 : ¬ ((0 ≤ x1 ∧ x1 ≤ 999999999) ∧ (0 ≤ x2 ∧ x2 ≤ 2)) → Q (-1) I) (e1 : (0 ≤ x1 ∧ x1 ≤ 999999999) ∧ (0 ≤ x2 ∧ x2 ≤ 2) → ∀ (z : Int) (I' : Mm), (x2 = 0 → z = (untN M x1 300 : Nat)) → (x2 = 1 → z = itR tkeR M (untN M x1 300) 8 - M 8) → (x2 = 2 → z = itR tkeR M (untN M x1 300) 0) → (∀ j : Int, 0 ≤ j → j < 980 → I' 237 j = M j) → (∀ a : Int, a ≠ 236 → a ≠ 237 → a ≠ 238 → I' a = I a) → (∀ j : Int, j ≠ 6 → j ≠ 7 → I' 236 j = I 236 j) → Q z I') : V_M_by x1 x2 I Q := by
  obtain ⟨t1, t2, t3⟩ := unt_is M x1 300
  have t2' : ∀ k : Nat, k < untN M x1 300 → 0 < itR tkeR M k 0 := fun k hk => (t2 k hk).1
  unfold V_M_by
  refine m_in (fun a b => ⟨fun w => absurd w (by decide), fun _ => m_in (fun c d => ⟨fun _ => ?_, fun w => absurd w (by decide)⟩) (fun q => ⟨fun w => absurd rfl w, fun _ => e0 (fun w => q w.2)⟩)⟩) (fun q => ⟨fun _ => e0 (fun w => q w.1), fun w => absurd rfl w⟩)
  have hall : (0 ≤ x1 ∧ x1 ≤ 999999999) ∧ (0 ≤ x2 ∧ x2 ≤ 2) := ⟨⟨a, b⟩, c, d⟩
  refine m_keepsAside hM (fun I0 k0 F0 => ?_)
  have hM0 : I0 237 = M := by rw [F0 237 (by omega)]; exact hM
  refine lpr (P := fun f i I1 => L_M_by_35 x1 x2 Q _ f (i : Int) (lsR M i) I1) (S := fun i I1 => aF I0 I1 M i) (untN M x1 300) ⟨hM0, rsF_rf I0, fun h => absurd h (Nat.lt_irrefl 0)⟩ ?_ ?_
  · intro n I1 hS
    have hend : V_M_isAgain I1 (fun I33 => (¬ x2 = 0 → (¬ x2 = 1 → Q (I1 237 0) I33) ∧
    (x2 = 1 → Q (lsR M (untN M x1 300)) I33)) ∧
    (x2 = 0 → Q ((untN M x1 300 : Nat) : Int) I33)) := by
      refine m_isAgain (N := M) (fun j p q => by rw [hS.2.1.1 238 (by omega) (by omega)]; exact k0 j p q) (fun I2 k2 F2 => ?_)
      have hls := ls_is hW (untN M x1 300) t2'
      have g : ∀ z : Int, (x2 = 0 → z = (untN M x1 300 : Nat)) → (x2 = 1 → z = itR tkeR M (untN M x1 300) 8 - M 8) → (x2 = 2 → z = itR tkeR M (untN M x1 300) 0) → Q z I2 := fun z z1 z2 z3 => e1 hall z I2 z1 z2 z3 k2 (fun a p q r => by rw [F2 a q, hS.2.1.1 a p q, F0 a r]) (fun j p q => by rw [F2 236 (by omega), hS.2.1.2 j p q, F0 236 (by omega)])
      rw [hS.1]
      exact ⟨fun w0 => ⟨fun w1 => g _ (fun w => absurd w w0) (fun w => absurd w w1) (fun _ => rfl), fun w1 => g _ (fun w => absurd w w0) (fun _ => hls) (fun w => by omega)⟩, fun w0 => g _ (fun _ => rfl) (fun w => by omega) (fun w => by omega)⟩
    unfold L_M_by_35
    rw [hS.1] at hend ⊢
    refine ⟨fun _ => hend, fun q => ⟨fun _ => hend, fun q2 => ⟨fun _ => hend, fun q3 => ?_⟩⟩⟩
    exact absurd ⟨q2, q3⟩ (t3 (by omega))
  · intro i n I1 hi hS ih
    have W1 := wf_it hW i (fun k hk => t2' k (by omega))
    have h0 := t2 i hi
    obtain ⟨f4, f8, -⟩ := it_facts hW i (fun k hk => t2' k (by omega))
    have hls := ls_is hW i (fun k hk => t2' k (by omega))
    have l := lk_wf W1 h0.1
    unfold L_M_by_35
    rw [hS.1]
    exact ⟨fun q => by omega, fun _ => ⟨fun q => by omega, fun _ => ⟨fun q => by omega, fun _ => m_takes2 hS.1 W1 h0.1 (by omega) (fun I2 e F F' v6 v7 => ⟨by omega, by omega, ih I2 (aF_step W1 h0.1 hS e F F' v6 v7)⟩)⟩⟩⟩
theorem o_by {G x1 x2 : Int} {I : Mm} {Q : Mm → Prop} (hI : Inv G I) (hG : G ≤ 2143000000) (hQ : ∀ I' : Mm, Inv (G + 3000000) I' → Q I') : V_X_by x1 x2 I (fun z I1 => V_M_by x1 x2 I1 (fun z' I2 => (z = z' → Q I2) ∧ (¬ z = z' → False))) := by
  obtain ⟨M, u, H, k, S, l, T, hC, hR, hA⟩ := hI
  have hst : Q I := hQ I ⟨M, u, H, k, S, l, T, hC, hR, aw_mono hA (by omega)⟩
  have hW := hA.1
  have hM := hR.1
  have refuse : ¬ ((0 ≤ x1 ∧ x1 ≤ 999999999) ∧ (0 ≤ x2 ∧ x2 ≤ 2)) → V_M_by x1 x2 I (fun z' I2 => ((-1 : Int) = z' → Q I2) ∧ (¬ (-1 : Int) = z' → False)) := fun q => r_by hM hW (by omega) (fun _ => fin rfl hst) (fun w => absurd w q)
  unfold V_X_by
  refine x_hour (fun a b => ⟨fun w => absurd w (by decide), fun _ => ⟨fun q => refuse (by omega), fun c => ⟨fun d => ?_, fun q => refuse (by omega)⟩⟩⟩) (fun q => ⟨fun _ => refuse (fun w => q w.1), fun w => absurd rfl w⟩)
  have hall : (0 ≤ x1 ∧ x1 ≤ 999999999) ∧ (0 ≤ x2 ∧ x2 ≤ 2) := ⟨⟨a, b⟩, c, d⟩
  refine s_caCopy hC.1 hW.1.1 (wf_b hW) (by omega) (fun I1 R1 F1 => s_takeDue3 R1 hW (by omega) (fun I2 R2 F2 => ?_))
  have FF := frm_tr F1 F2
  obtain ⟨t1, t2, t3⟩ := unt_is M x1 300
  have t2' : ∀ k : Nat, k < untN M x1 300 → 0 < itR tkeR M k 0 := fun k hk => (t2 k hk).1
  obtain ⟨f4, f8, -, f7⟩ := it_facts hW _ t2'
  have n0 : I2 (17 + 5) 0 = itR tkeR M (untN M x1 300) 0 := R2.2.1.1
  have n15 : I2 (17 + 15) 0 = itR tkeR M (untN M x1 300) 8 := R2.2.2.2.2.1 0 (by omega) (by omega)
  have n16 : I2 (1 + 15) 0 = M 8 := by rw [FF (1 + 15) (by omega)]; exact hC.1.2.2.2.2.1 0 (by omega) (by omega)
  have hM2 : I2 237 = M := by rw [FF 237 (by omega)]; exact hM
  have W2 := wf_it hW _ t2'
  have b8 := hW.1.2.2.2.2.2.2.2.2 8 (by omega) (by omega)
  have go : ∀ z : Int, (x2 = 0 → z = (untN M x1 300 : Nat)) → (x2 = 1 → z = itR tkeR M (untN M x1 300) 8 - M 8) → (x2 = 2 → z = itR tkeR M (untN M x1 300) 0) → V_M_by x1 x2 I2 (fun z' I3 => (z = z' → Q I3) ∧ (¬ z = z' → False)) := by
    intro z z0 z1 z2
    refine r_by hM2 hW (by omega) (fun w => absurd hall w) (fun _ z' I3 y0 y1 y2 k3 F3 G3 => fin ?_ (hQ I3 (stay2 hC hR (aw_mono hA (by omega)) (fun a ha => ?_) k3 (fun a ha => ?_) ?_ ?_)))
    · rcases (show x2 = 0 ∨ x2 = 1 ∨ x2 = 2 by omega) with h | h | h
      · rw [z0 h, y0 h]
      · rw [z1 h, y1 h]
      · rw [z2 h, y2 h]
    · rw [F3 a (by omega) (by omega) (by omega)]; exact FF a (by omega)
    · rw [F3 a (by omega) (by omega) (by omega)]; exact FF a (by omega)
    · rw [G3 3 (by omega) (by omega), FF 236 (by omega)]
    · rw [G3 16 (by omega) (by omega), FF 236 (by omega)]
  rw [n0, n15, n16]
  exact ⟨fun w => go _ (fun _ => rfl) (fun v => by omega) (fun v => by omega), fun w => ⟨by omega, go _ (fun v => by omega) (fun _ => rfl) (fun v => by omega)⟩, fun w => go _ (fun v => by omega) (fun v => by omega) (fun _ => rfl)⟩
