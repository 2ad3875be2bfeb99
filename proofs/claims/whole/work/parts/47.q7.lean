/-! busiest, when -/
def dtR (M : Rw) (n : Nat) (x : Int) : Int := itR tkeR M n (16 + x) - M (16 + x)
def bxR (d : Int → Int) : Nat → Int
  | 0 => 0
  | k + 1 => if d (bxR d k) < d ((k : Int) + 1) then (k : Int) + 1 else bxR d k
theorem bx_rng (d : Int → Int) : ∀ k : Nat, 0 ≤ bxR d k ∧ bxR d k ≤ k
  | 0 => ⟨Int.le_refl 0, Int.le_refl 0⟩
  | k + 1 => by
    have h := bx_rng d k
    unfold bxR
    split <;> omega
theorem bx_more (d : Int → Int) (c : Nat) (hz : ∀ x : Int, (c : Int) < x → x < 16 → d x = 0) (h0 : ∀ x : Int, 0 ≤ x → x < 16 → 0 ≤ d x) (hc : c < 16) : ∀ k : Nat, c + k < 16 → bxR d (c + k) = bxR d c
  | 0, _ => rfl
  | k + 1, h => by
    have ih := bx_more d c hz h0 hc k (by omega)
    have r := bx_rng d (c + k)
    have h1 := hz (((c + k : Nat) : Int) + 1) (by omega) (by omega)
    have h2 := h0 (bxR d (c + k)) r.1 (by omega)
    show (if d (bxR d (c + k)) < d (((c + k : Nat) : Int) + 1) then _ else bxR d (c + k)) = _
    rw [if_neg (by omega), ih]
theorem dt_is {G : Int} {M : Rw} (hW : WF G M) {n : Nat} (hn : ∀ k : Nat, k < n → 0 < itR tkeR M k 0) : (∀ x : Int, 0 ≤ x → x < 16 → 0 ≤ dtR M n x ∧ dtR M n x ≤ n) ∧ ∀ x : Int, M 4 ≤ x → x < 16 → dtR M n x = 0 := by
  obtain ⟨f4, -, f16, -⟩ := it_facts hW n hn
  have Wn := wf_it hW n hn
  refine ⟨fun x a b => ?_, fun x a b => ?_⟩
  · have := f16 x a b
    unfold dtR
    omega
  · have h1 := (hW.2.2.2.1 x a b).1
    have h2 := (Wn.2.2.2.1 x (by rw [f4]; exact a) b).1
    unfold dtR
    omega
theorem x_inTrial {G x : Int} {n : Nat} {I : Mm} {M : Rw} {Q : Int → Mm → Prop} (hW : WF G M) (hn : ∀ k : Nat, k < n → 0 < itR tkeR M k 0) (hn2 : n ≤ 300) (hR1 : RepC I 1 M) (hR17 : RepC I 17 (itR tkeR M n)) (hx : 0 ≤ x ∧ x < M 4) (hQ : Q (dtR M n x) I) : V_X_takenInTrial x I Q := by
  obtain ⟨f4, -, f16, -⟩ := it_facts hW n hn
  have b4 := hW.1.2.2.2.2.1
  have hd := (dt_is hW hn).1 x hx.1 (by omega)
  have e1 : I (17 + 1 + 2) x = itR tkeR M n (16 + x) := (hR17.1.2 x hx.1 (by rw [f4]; exact hx.2)).2.1
  have e2 : I (1 + 1 + 2) x = M (16 + x) := (hR1.1.2 x hx.1 hx.2).2.1
  unfold dtR at hd hQ
  unfold V_X_takenInTrial
  rw [e1, e2]
  exact ⟨fun q => by omega, fun _ => ⟨fun _ => ⟨by omega, by omega, by omega, hQ⟩, fun q => by omega⟩⟩
theorem dt_step {G : Int} {M : Rw} (hW : WF G M) {n : Nat} (hn : ∀ k : Nat, k < n + 1 → 0 < itR tkeR M k 0) {x : Int} (hx : 0 ≤ x ∧ x < 16) : dtR M (n + 1) x = dtR M n x + (if itR tkeR M n 580 = x then 1 else 0) := by
  have Wn := wf_it hW n (fun k hk => hn k (by omega))
  have t := tke_16 Wn (hn n (by omega)) hx
  show tkeR (itR tkeR M n) (16 + x) - M (16 + x) = itR tkeR M n (16 + x) - M (16 + x) + _
  rw [t]
  by_cases q : x = itR tkeR M n 580
  · rw [if_pos q, if_pos q.symm]; omega
  · rw [if_neg q, if_neg (fun h => q h.symm)]; omega
theorem r_busiest {G x1 x2 : Int} {I : Mm} {M : Rw} {Q : Int → Mm → Prop} (hM : I 237 = M) (hW : WF G M) (hG : G ≤ 2146000000) (e0 : ¬ ((1 ≤ x1 ∧ x1 ≤ 300) ∧ (0 ≤ x2 ∧ x2 ≤ 1)) → Q (-1) I) (e2 : (1 ≤ x1 ∧ x1 ≤ 300) ∧ (0 ≤ x2 ∧ x2 ≤ 1) → M 0 = 0 → Q (-2) I) (e1 : (1 ≤ x1 ∧ x1 ≤ 300) ∧ (0 ≤ x2 ∧ x2 ≤ 1) → ¬ M 0 = 0 → ∀ (I' : Mm), (∀ j : Int, 0 ≤ j → j < 980 → I' 237 j = M j) → (∀ a : Int, a ≠ 236 → a ≠ 237 → a ≠ 238 → a ≠ 244 → I' a = I a) → (∀ j : Int, j ≠ 6 → j ≠ 7 → I' 236 j = I 236 j) → Q (if x2 = 0 then bxR (dtR M (tksN M x1.toNat)) 15 else dtR M (tksN M x1.toNat) (bxR (dtR M (tksN M x1.toNat)) 15)) I') : V_M_busiest x1 x2 I Q := by
  obtain ⟨t1, t2, t3⟩ := tks_is M x1.toNat
  unfold V_M_busiest
  refine m_in (fun a b => ⟨fun w => absurd w (by decide), fun _ => m_in (fun c d => ⟨fun _ => ?_, fun w => absurd w (by decide)⟩) (fun q => ⟨fun w => absurd rfl w, fun _ => e0 (fun w => q w.2)⟩)⟩) (fun q => ⟨fun _ => e0 (fun w => q w.1), fun w => absurd rfl w⟩)
  have hall : (1 ≤ x1 ∧ x1 ≤ 300) ∧ (0 ≤ x2 ∧ x2 ≤ 1) := ⟨⟨a, b⟩, c, d⟩
  rw [hM]
  refine ⟨fun hne => ?_, fun h0 => e2 hall h0⟩
  refine lpr (P := fun f i I1 => L_M_busiest_38 x1 x2 Q _ f (i : Int) I1) (S := fun i I1 => (∀ a : Int, a ≠ 244 → I1 a = I a) ∧ ∀ j : Int, 0 ≤ j → j < (i : Int) → I1 244 j = 0) 16 ⟨fun _ _ => rfl, fun j p q => by omega⟩ ?_ ?_
  · intro n I0 hS0
    unfold L_M_busiest_38
    refine ⟨fun _ => m_keepsAside (M := M) (by rw [hS0.1 237 (by omega)]; exact hM) (fun Ia ka Fa => ?_), fun q => absurd q (by decide)⟩
    have hMa : Ia 237 = M := by rw [Fa 237 (by omega), hS0.1 237 (by omega)]; exact hM
    refine lpr (P := fun f i I1 => L_M_busiest_63 x1 x2 Q _ f (i : Int) I1) (S := fun i I1 => I1 237 = itR tkeR M i ∧ (∀ a : Int, a ≠ 236 → a ≠ 237 → a ≠ 244 → I1 a = Ia a) ∧ (∀ j : Int, j ≠ 6 → j ≠ 7 → I1 236 j = Ia 236 j) ∧ ∀ x : Int, 0 ≤ x → x < 16 → I1 244 x = dtR M i x) (tksN M x1.toNat) ⟨hMa, fun _ _ _ _ => rfl, fun _ _ _ => rfl, fun x p q => by rw [Fa 244 (by omega), hS0.2 x p (by omega)]; show (0 : Int) = M (16 + x) - M (16 + x); omega⟩ ?_ ?_
    · intro n I1 hS
      obtain ⟨s1, s2, s3, s4⟩ := hS
      have hend : V_M_isAgain I1 (fun I38 => ∃ f44 : Nat, L_M_busiest_111 x1 x2 Q f44 0 1 I38) := by
        refine m_isAgain (N := M) (fun j p q => by rw [s2 238 (by omega) (by omega) (by omega)]; exact ka j p q) (fun I2 k2 F2 => ?_)
        have g : ∀ x : Int, 0 ≤ x → x < 16 → I2 244 x = dtR M (tksN M x1.toNat) x := fun x p q => by rw [F2 244 (by omega)]; exact s4 x p q
        refine lp (P := fun f i => L_M_busiest_111 x1 x2 Q f (bxR (dtR M (tksN M x1.toNat)) i) ((i : Int) + 1) I2) 15 (fun f => ?_) (fun i f hi ih => ?_)
        · have r := bx_rng (dtR M (tksN M x1.toNat)) 15
          have := e1 hall hne I2 k2 (fun a p q r s => by rw [F2 a q, s2 a p q s, Fa a r, hS0.1 a s]) (fun j p q => by rw [F2 236 (by omega), s3 j p q, Fa 236 (by omega), hS0.1 236 (by omega)])
          unfold L_M_busiest_111
          rw [g _ r.1 (by omega)]
          exact ⟨fun _ => ⟨fun w => ⟨by omega, by rw [if_neg w] at this; exact this⟩, fun w => by rw [if_pos w] at this; exact this⟩, fun q => absurd q (by decide)⟩
        · have r := bx_rng (dtR M (tksN M x1.toNat)) i
          have e : bxR (dtR M (tksN M x1.toNat)) (i + 1) = if dtR M (tksN M x1.toNat) (bxR (dtR M (tksN M x1.toNat)) i) < dtR M (tksN M x1.toNat) ((i : Int) + 1) then (i : Int) + 1 else bxR (dtR M (tksN M x1.toNat)) i := rfl
          rw [e] at ih
          unfold L_M_busiest_111
          rw [g _ r.1 (by omega), g ((i : Int) + 1) (by omega) (by omega)]
          refine ⟨fun q => by omega, fun _ => ⟨by omega, by omega, fun q => ⟨by omega, ?_⟩, fun q => ⟨by omega, ?_⟩⟩⟩
          · rw [if_neg (by omega)] at ih; exact ih
          · rw [if_pos q] at ih; exact ih
      unfold L_M_busiest_63
      rw [s1]
      refine ⟨fun _ => hend, fun q => ⟨fun _ => hend, fun q2 => ?_⟩⟩
      have := t3 (by omega)
      omega
    · intro i n I1 hi hS ih
      obtain ⟨s1, s2, s3, s4⟩ := hS
      have W1 := wf_it hW i (fun k hk => t2 k (by omega))
      have h0 := t2 i hi
      have f := wf_first W1 h0
      have b4 := W1.1.2.2.2.2.1
      have hd := (dt_is hW (n := i) (fun k hk => t2 k (by omega))).1 (itR tkeR M i 580) (by omega) (by omega)
      unfold L_M_busiest_63
      rw [s1]
      refine ⟨fun q => by omega, fun _ => ⟨fun q => by omega, fun _ => m_takes2 s1 W1 h0 (by omega) (fun I2 e F F' v6 v7 => ?_)⟩⟩
      have g := s4 (itR tkeR M i 580) (by omega) (by omega)
      rw [v7, F 244 (by omega) (by omega), g]
      refine ⟨by omega, by omega, by omega, by omega, ih _ ⟨by rw [wr_oth _ (by decide)]; exact e, fun a p q r => by rw [wr_oth _ r, F a p q, s2 a p q r], fun j p q => by rw [wr_oth _ (by decide), F' j p q, s3 j p q], fun x p q => ?_⟩⟩
      rw [dt_step hW (fun k hk => t2 k (by omega)) ⟨p, q⟩]
      by_cases w : itR tkeR M i 580 = x
      · rw [w, wr_s, if_pos rfl]
      · rw [wr_n (by omega), if_neg w, F 244 (by omega) (by omega), s4 x p q, Int.add_zero]
  · intro i n I1 hi hS ih
    unfold L_M_busiest_38
    refine ⟨fun q => by omega, fun _ => ⟨by omega, by omega, ih _ ⟨fun a ha => by rw [wr_oth _ ha]; exact hS.1 a ha, fun j a b => ?_⟩⟩⟩
    by_cases q : j = (i : Int)
    · rw [q, wr_s]
    · rw [wr_n (by omega)]; exact hS.2 j a (by omega)
theorem o_busiest {G x1 x2 : Int} {I : Mm} {Q : Mm → Prop} (hI : Inv G I) (hG : G ≤ 2143000000) (hQ : ∀ I' : Mm, Inv (G + 3000000) I' → Q I') : V_X_busiest x1 x2 I (fun z I1 => V_M_busiest x1 x2 I1 (fun z' I2 => (z = z' → Q I2) ∧ (¬ z = z' → False))) := by
  obtain ⟨M, u, H, k, S, l, T, hC, hR, hA⟩ := hI
  have hst : Q I := hQ I ⟨M, u, H, k, S, l, T, hC, hR, aw_mono hA (by omega)⟩
  have hW := hA.1
  have b0 := hW.1.1
  have b4 := hW.1.2.2.2.2.1
  have hM := hR.1
  have n0 : I (1 + 5) 0 = M 0 := hC.1.2.1.1
  have refuse : ¬ ((1 ≤ x1 ∧ x1 ≤ 300) ∧ (0 ≤ x2 ∧ x2 ≤ 1)) → V_M_busiest x1 x2 I (fun z' I2 => ((-1 : Int) = z' → Q I2) ∧ (¬ (-1 : Int) = z' → False)) := fun q => r_busiest hM hW (by omega) (fun _ => fin rfl hst) (fun w => absurd w q) (fun w => absurd w q)
  unfold V_X_busiest
  rw [n0]
  refine ⟨fun q => refuse (by omega), fun a => ⟨fun q => refuse (by omega), fun b => ⟨fun q => refuse (by omega), fun c => ⟨fun d => ⟨fun hne => ?_, fun h0 => r_busiest hM hW (by omega) (fun w => by omega) (fun _ _ => fin rfl hst) (fun _ w => by omega)⟩, fun q => refuse (by omega)⟩⟩⟩⟩
  have hall : (1 ≤ x1 ∧ x1 ≤ 300) ∧ (0 ≤ x2 ∧ x2 ≤ 1) := ⟨⟨a, b⟩, c, d⟩
  refine s_caCopy hC.1 hW.1.1 (wf_b hW) (by omega) (fun I1 R1 F1 => s_takeSome R1 hW ⟨a, b⟩ (by omega) (fun I2 R2 F2 => ?_))
  have FF := frm_tr F1 F2
  obtain ⟨t1, t2, t3⟩ := tks_is M x1.toNat
  obtain ⟨f4, -⟩ := it_facts hW _ t2
  obtain ⟨d1, d2⟩ := dt_is hW t2
  have hM2 : I2 237 = M := by rw [FF 237 (by omega)]; exact hM
  have hR12 : RepC I2 1 M := rep_fr hC.1 hW (fun a p q => FF a (by omega))
  have n4 : I2 (17 + 1) 0 = M 4 := R2.1.1.trans f4
  have f := wf_first hW (by omega)
  generalize hN : tksN M x1.toNat = N at *
  refine lp (P := fun n i => L_X_busiest_65 x1 x2 (fun z I1 => V_M_busiest x1 x2 I1 (fun z' I2 => (z = z' → Q I2) ∧ (¬ z = z' → False))) n (bxR (dtR M N) i) ((i : Int) + 1) I2) (M 4 - 1).toNat (fun n => ?_) (fun i n hi ih => ?_)
  · have r := bx_rng (dtR M N) (M 4 - 1).toNat
    have hb := bx_more (dtR M N) (M 4 - 1).toNat (fun x p q => d2 x (by omega) q) (fun x p q => (d1 x p q).1) (by omega) (15 - (M 4 - 1).toNat) (by omega)
    rw [show (M 4 - 1).toNat + (15 - (M 4 - 1).toNat) = 15 by omega] at hb
    have go : ∀ z : Int, z = (if x2 = 0 then bxR (dtR M N) 15 else dtR M N (bxR (dtR M N) 15)) → V_M_busiest x1 x2 I2 (fun z' I3 => (z = z' → Q I3) ∧ (¬ z = z' → False)) := by
      intro z hz
      refine r_busiest hM2 hW (by omega) (fun w => absurd hall w) (fun _ w => by omega) (fun _ _ I3 k3 F3 G3 => fin (by rw [hN]; exact hz) (hQ I3 (stay2 hC hR (aw_mono hA (by omega)) (fun a ha => ?_) k3 (fun a ha => ?_) ?_ ?_)))
      · rw [F3 a (by omega) (by omega) (by omega) (by omega)]; exact FF a (by omega)
      · rw [F3 a (by omega) (by omega) (by omega) (by omega)]; exact FF a (by omega)
      · rw [G3 3 (by omega) (by omega), FF 236 (by omega)]
      · rw [G3 16 (by omega) (by omega), FF 236 (by omega)]
    unfold L_X_busiest_65
    rw [n4]
    refine ⟨fun _ => ⟨fun w => x_inTrial hW t2 (by omega) hR12 R2 ⟨r.1, by omega⟩ (go _ (by rw [if_neg w, hb])), fun w => go _ (by rw [if_pos w, hb])⟩, fun q => by omega⟩
  · have r := bx_rng (dtR M N) i
    have e : bxR (dtR M N) (i + 1) = if dtR M N (bxR (dtR M N) i) < dtR M N ((i : Int) + 1) then (i : Int) + 1 else bxR (dtR M N) i := rfl
    rw [e] at ih
    unfold L_X_busiest_65
    rw [n4]
    refine ⟨fun q => by omega, fun _ => x_inTrial hW t2 (by omega) hR12 R2 ⟨by omega, by omega⟩ (x_inTrial hW t2 (by omega) hR12 R2 ⟨r.1, by omega⟩ ⟨fun q => ⟨by omega, ?_⟩, fun q => ⟨by omega, ?_⟩⟩)⟩
    · rw [if_neg (by omega)] at ih; exact ih
    · rw [if_pos q] at ih; exact ih
def whnN (M : Rw) (x1 x2 : Int) : Nat := stp (fun i => decide (¬ (0 < itR tkeR M i 0 ∧ dtR M i x1 < x2))) 300
theorem whn_is (M : Rw) (x1 x2 : Int) : whnN M x1 x2 ≤ 300 ∧ (∀ k : Nat, k < whnN M x1 x2 → 0 < itR tkeR M k 0 ∧ dtR M k x1 < x2) ∧ (whnN M x1 x2 < 300 → ¬ (0 < itR tkeR M (whnN M x1 x2) 0 ∧ dtR M (whnN M x1 x2) x1 < x2)) := by
  obtain ⟨h1, h2, h3⟩ := stp_is (fun i => decide (¬ (0 < itR tkeR M i 0 ∧ dtR M i x1 < x2))) 300
  exact ⟨h1, fun k hk => Decidable.not_not.mp (of_decide_eq_false (h2 k hk)), fun q => of_decide_eq_true (h3 q)⟩
theorem r_when {G x1 x2 : Int} {I : Mm} {M : Rw} {Q : Int → Mm → Prop} (hM : I 237 = M) (hW : WF G M) (hG : G ≤ 2146000000) (e0 : ¬ ((0 ≤ x1 ∧ x1 < M 4) ∧ (1 ≤ x2 ∧ x2 ≤ 99)) → Q (-1) I) (e1 : (0 ≤ x1 ∧ x1 < M 4) ∧ (1 ≤ x2 ∧ x2 ≤ 99) → ∀ (I' : Mm), (∀ j : Int, 0 ≤ j → j < 980 → I' 237 j = M j) → (∀ a : Int, a ≠ 236 → a ≠ 237 → a ≠ 238 → I' a = I a) → (∀ j : Int, j ≠ 6 → j ≠ 7 → I' 236 j = I 236 j) → Q (if dtR M (whnN M x1 x2) x1 = x2 then itR tkeR M (whnN M x1 x2) 3 else -2) I') : V_M_when x1 x2 I Q := by
  obtain ⟨t1, t2, t3⟩ := whn_is M x1 x2
  have b4 := hW.1.2.2.2.2.1
  unfold V_M_when
  refine m_isName hM b4 (fun a b => ⟨fun w => absurd w (by decide), fun _ => m_in (fun c d => ⟨fun _ => ?_, fun w => absurd w (by decide)⟩) (fun q => ⟨fun w => absurd rfl w, fun _ => e0 (fun w => q w.2)⟩)⟩) (fun q => ⟨fun _ => e0 (fun w => q w.1), fun w => absurd rfl w⟩)
  have hall : (0 ≤ x1 ∧ x1 < M 4) ∧ (1 ≤ x2 ∧ x2 ≤ 99) := ⟨⟨a, b⟩, c, d⟩
  refine m_keepsAside hM (fun I0 k0 F0 => ?_)
  have hM0 : I0 237 = M := by rw [F0 237 (by omega)]; exact hM
  have hz : dtR M 0 x1 = 0 := by show M (16 + x1) - M (16 + x1) = 0; omega
  have hlp := lpr (P := fun f i I1 => L_M_when_35 x1 x2 (-2) Q (fun y32 I33 => (¬ y32 = x2 → V_M_isAgain I33 (fun I34 => Q (-2) I34)) ∧
    (y32 = x2 → V_M_isAgain I33 (fun I35 => Q (I33 237 3) I35))) f (dtR M i x1) (i : Int) I1) (S := fun i I1 => aF I0 I1 M i) (I := I0) (whnN M x1 x2) ⟨hM0, rsF_rf I0, fun h => absurd h (Nat.lt_irrefl 0)⟩ ?_ ?_
  · rw [hz] at hlp
    exact hlp
  · intro n I1 hS
    have hend : (¬ dtR M (whnN M x1 x2) x1 = x2 → V_M_isAgain I1 (fun I34 => Q (-2) I34)) ∧ (dtR M (whnN M x1 x2) x1 = x2 → V_M_isAgain I1 (fun I35 => Q (I1 237 3) I35)) := by
      have hag : ∀ z : Int, z = (if dtR M (whnN M x1 x2) x1 = x2 then itR tkeR M (whnN M x1 x2) 3 else -2) → V_M_isAgain I1 (fun I34 => Q z I34) := by
        intro z hzz
        refine m_isAgain (N := M) (fun j p q => by rw [hS.2.1.1 238 (by omega) (by omega)]; exact k0 j p q) (fun I2 k2 F2 => ?_)
        rw [hzz]
        exact e1 hall I2 k2 (fun a p q r => by rw [F2 a q, hS.2.1.1 a p q, F0 a r]) (fun j p q => by rw [F2 236 (by omega), hS.2.1.2 j p q, F0 236 (by omega)])
      exact ⟨fun w => hag _ (by rw [if_neg w]), fun w => hag _ (by rw [if_pos w, hS.1])⟩
    unfold L_M_when_35
    rw [hS.1]
    rw [hS.1] at hend
    refine ⟨fun _ => hend, fun q => ⟨fun _ => hend, fun q2 => ⟨fun _ => hend, fun q3 => ?_⟩⟩⟩
    exact absurd ⟨q2, q3⟩ (t3 (by omega))
  · intro i n I1 hi hS ih
    have t2' : ∀ k : Nat, k < i + 1 → 0 < itR tkeR M k 0 := fun k hk => (t2 k (by omega)).1
    have W1 := wf_it hW i (fun k hk => t2' k (by omega))
    have h0 := t2 i hi
    have hd := (dt_is hW (n := i) (fun k hk => t2' k (by omega))).1 x1 (by omega) (by omega)
    unfold L_M_when_35
    rw [hS.1]
    refine ⟨fun q => by omega, fun _ => ⟨fun q => by omega, fun _ => ⟨fun q => by omega, fun _ => m_takes2 hS.1 W1 h0.1 (by omega) (fun I2 e F F' v6 v7 => ?_)⟩⟩⟩
    have h2 := ih I2 (aF_step W1 h0.1 hS e F F' v6 v7)
    rw [dt_step hW t2' ⟨by omega, by omega⟩] at h2
    rw [v7]
    refine ⟨fun w => ⟨by omega, by omega, ?_⟩, fun w => ⟨by omega, by omega, ?_⟩⟩
    · rw [if_neg w] at h2; exact h2
    · rw [if_pos w] at h2; exact h2
theorem o_when {G x1 x2 : Int} {I : Mm} {Q : Mm → Prop} (hI : Inv G I) (hG : G ≤ 2143000000) (hQ : ∀ I' : Mm, Inv (G + 3000000) I' → Q I') : V_X_when x1 x2 I (fun z I1 => V_M_when x1 x2 I1 (fun z' I2 => (z = z' → Q I2) ∧ (¬ z = z' → False))) := by
  obtain ⟨M, u, H, k, S, l, T, hC, hR, hA⟩ := hI
  have hst : Q I := hQ I ⟨M, u, H, k, S, l, T, hC, hR, aw_mono hA (by omega)⟩
  have hW := hA.1
  have b0 := hW.1.1
  have b4 := hW.1.2.2.2.2.1
  have hM := hR.1
  have n4 : I (1 + 1) 0 = M 4 := hC.1.1.1
  have refuse : ¬ ((0 ≤ x1 ∧ x1 < M 4) ∧ (1 ≤ x2 ∧ x2 ≤ 99)) → V_M_when x1 x2 I (fun z' I2 => ((-1 : Int) = z' → Q I2) ∧ (¬ (-1 : Int) = z' → False)) := fun q => r_when hM hW (by omega) (fun _ => fin rfl hst) (fun w => absurd w q)
  unfold V_X_when
  refine s_nmHas (fun a b => ⟨fun w => absurd w (by decide), fun _ => ⟨fun q => refuse (by omega), fun c => ⟨fun d => ?_, fun q => refuse (by omega)⟩⟩⟩) (fun q => ⟨fun _ => refuse (fun w => q (by rw [n4]; exact w.1)), fun w => absurd rfl w⟩)
  rw [n4] at b
  have hall : (0 ≤ x1 ∧ x1 < M 4) ∧ (1 ≤ x2 ∧ x2 ≤ 99) := ⟨⟨a, b⟩, c, d⟩
  obtain ⟨t1, t2, t3⟩ := whn_is M x1 x2
  refine s_caCopy hC.1 hW.1.1 (wf_b hW) (by omega) (fun I1 R1 F1 => ?_)
  have go : ∀ (z : Int) (I2 : Mm), Frm 17 I I2 → z = (if dtR M (whnN M x1 x2) x1 = x2 then itR tkeR M (whnN M x1 x2) 3 else -2) → V_M_when x1 x2 I2 (fun z' I3 => (z = z' → Q I3) ∧ (¬ z = z' → False)) := by
    intro z I2 FF hz
    have hM2 : I2 237 = M := by rw [FF 237 (by omega)]; exact hM
    refine r_when hM2 hW (by omega) (fun w => absurd hall w) (fun _ I3 k3 F3 G3 => fin hz (hQ I3 (stay2 hC hR (aw_mono hA (by omega)) (fun a ha => ?_) k3 (fun a ha => ?_) ?_ ?_)))
    · rw [F3 a (by omega) (by omega) (by omega)]; exact FF a (by omega)
    · rw [F3 a (by omega) (by omega) (by omega)]; exact FF a (by omega)
    · rw [G3 3 (by omega) (by omega), FF 236 (by omega)]
    · rw [G3 16 (by omega) (by omega), FF 236 (by omega)]
  have hz : dtR M 0 x1 = 0 := by show M (16 + x1) - M (16 + x1) = 0; omega
  by_cases hit : dtR M (whnN M x1 x2) x1 = x2
  · -- found: the loop ends in the step that takes the last one
    have hpos : 0 < whnN M x1 x2 := by
      rcases Nat.eq_zero_or_pos (whnN M x1 x2) with h | h
      · rw [h, hz] at hit; omega
      · exact h
    have stepX : ∀ (i n : Nat) (I2 : Mm), i < whnN M x1 x2 → RepC I2 17 (itR tkeR M i) → Frm 17 I I2 → (∀ I3 : Mm, i + 1 < whnN M x1 x2 → RepC I3 17 (itR tkeR M (i + 1)) → Frm 17 I I3 → L_X_when_40 x1 x2 (fun z I1 => V_M_when x1 x2 I1 (fun z' I2 => (z = z' → Q I2) ∧ (¬ z = z' → False))) n ((i : Int) + 1) I3) → L_X_when_40 x1 x2 (fun z I1 => V_M_when x1 x2 I1 (fun z' I2 => (z = z' → Q I2) ∧ (¬ z = z' → False))) (n + 1) (i : Int) I2 := by
      intro i n I2 hi R2 F2 hnext
      have t2' : ∀ k : Nat, k < i + 1 → 0 < itR tkeR M k 0 := fun k hk => (t2 k (by omega)).1
      have W1 := wf_it hW i (fun k hk => t2' k (by omega))
      have h0 := t2 i hi
      have n0 : I2 (17 + 5) 0 = itR tkeR M i 0 := R2.2.1.1
      unfold L_X_when_40
      rw [n0]
      refine ⟨fun q => by omega, fun _ => ⟨fun q => by omega, fun _ => s_caTakeFirst R2 W1 h0.1 (by omega) (fun I3 R3 F3 => ?_)⟩⟩
      have FF := frm_tr F2 F3
      have hR13 : RepC I3 1 M := rep_fr hC.1 hW (fun a p q => FF a (by omega))
      refine x_inTrial (n := i + 1) hW t2' (by omega) hR13 R3 ⟨a, b⟩ ?_
      by_cases hl : i + 1 < whnN M x1 x2
      · have := (t2 (i + 1) hl).2
        exact ⟨fun _ => ⟨by omega, hnext I3 hl R3 FF⟩, fun w => by omega⟩
      · have e : i + 1 = whnN M x1 x2 := by omega
        have n7 : I3 17 7 = itR tkeR M (i + 1) 3 := R3.2.2.2.2.2.2.2.1
        rw [n7, e, hit]
        exact ⟨fun w => by omega, fun _ => go _ I3 FF (by rw [if_pos hit])⟩
    have key : ∀ n i : Nat, i + n + 1 = whnN M x1 x2 → ∀ I2 : Mm, RepC I2 17 (itR tkeR M i) → Frm 17 I I2 → L_X_when_40 x1 x2 (fun z I1 => V_M_when x1 x2 I1 (fun z' I2 => (z = z' → Q I2) ∧ (¬ z = z' → False))) (n + 1) (i : Int) I2 := by
      intro n
      induction n with
      | zero => intro i hi I2 R2 F2; exact stepX i 0 I2 (by omega) R2 F2 (fun I3 hl _ _ => by omega)
      | succ n ih => intro i hi I2 R2 F2; exact stepX i (n + 1) I2 (by omega) R2 F2 (fun I3 hl R3 F3 => ih (i + 1) (by omega) I3 R3 F3)
    exact ⟨_, key (whnN M x1 x2 - 1) 0 (by omega) I1 R1 F1⟩
  · refine lpr (P := fun f i I2 => L_X_when_40 x1 x2 _ f (i : Int) I2) (S := fun i I2 => RepC I2 17 (itR tkeR M i) ∧ Frm 17 I I2) (whnN M x1 x2) ⟨R1, F1⟩ ?_ ?_
    · intro n I2 hS
      have n0 : I2 (17 + 5) 0 = itR tkeR M (whnN M x1 x2) 0 := hS.1.2.1.1
      have hfin := go (-2) I2 hS.2 (by rw [if_neg hit])
      unfold L_X_when_40
      rw [n0]
      refine ⟨fun _ => hfin, fun q => ⟨fun _ => hfin, fun q2 => ?_⟩⟩
      have h3 := t3 (by omega)
      have hc : dtR M (whnN M x1 x2) x1 < x2 := by
        rcases Nat.eq_zero_or_pos (whnN M x1 x2) with h | h
        · rw [h, hz]; omega
        · obtain ⟨m, hm⟩ : ∃ m : Nat, whnN M x1 x2 = m + 1 := ⟨whnN M x1 x2 - 1, by omega⟩
          have hs := dt_step hW (n := m) (fun k hk => (t2 k (by omega)).1) (x := x1) ⟨by omega, by omega⟩
          have := (t2 m (by omega)).2
          rw [← hm] at hs
          split at hs <;> omega
      exact absurd ⟨q2, hc⟩ h3
    · intro i n I2 hi hS ih
      have t2' : ∀ k : Nat, k < i + 1 → 0 < itR tkeR M k 0 := fun k hk => (t2 k (by omega)).1
      have W1 := wf_it hW i (fun k hk => t2' k (by omega))
      have h0 := t2 i hi
      have n0 : I2 (17 + 5) 0 = itR tkeR M i 0 := hS.1.2.1.1
      unfold L_X_when_40
      rw [n0]
      refine ⟨fun q => by omega, fun _ => ⟨fun q => by omega, fun _ => s_caTakeFirst hS.1 W1 h0.1 (by omega) (fun I3 R3 F3 => ?_)⟩⟩
      have FF := frm_tr hS.2 F3
      have hR13 : RepC I3 1 M := rep_fr hC.1 hW (fun a p q => FF a (by omega))
      refine x_inTrial (n := i + 1) hW t2' (by omega) hR13 R3 ⟨a, b⟩ ⟨fun _ => ⟨by omega, ih I3 ⟨R3, FF⟩⟩, fun w => ?_⟩
      exfalso
      by_cases hl : i + 1 < whnN M x1 x2
      · have := (t2 (i + 1) hl).2; omega
      · have e : i + 1 = whnN M x1 x2 := by omega
        have hs := dt_step hW (n := i) t2' (x := x1) ⟨by omega, by omega⟩
        rw [e] at hs w
        split at hs <;> omega
