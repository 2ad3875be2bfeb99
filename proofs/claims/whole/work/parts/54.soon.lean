/-! soonest, leads -/
def cset (c : Int) (I : Mm) (P : Rw) : Mm := fun a => if a = c then P else I a
theorem cst_s (c : Int) (I : Mm) (P : Rw) : cset c I P c = P := by simp [cset]
theorem cst_n {c a : Int} {I : Mm} {P : Rw} (h : a ≠ c) : cset c I P a = I a := by simp [cset, h]
theorem cst_id (c : Int) (I : Mm) : cset c I (I c) = I := by
  funext a
  by_cases h : a = c
  · rw [h, cst_s]
  · rw [cst_n h]
theorem wr_cst (c : Int) (I : Mm) (i v : Int) : wrM I c i v = cset c I (stR (I c) i v) := by
  funext a j
  by_cases h : a = c
  · subst h; simp [wrM, cset, stR]
  · rw [cst_n h]; simp [wrM, h]
theorem cst_cst (c : Int) (I : Mm) (P P' : Rw) : cset c (cset c I P) P' = cset c I P' := by
  funext a
  by_cases h : a = c
  · rw [h, cst_s, cst_s]
  · rw [cst_n h, cst_n h, cst_n h]
theorem ru_cst {c d : Int} {I : Mm} {P M : Rw} (h : RRu I c M) (hd : ¬ (c ≤ d ∧ d < c + 4)) : RRu (cset d I P) c M := by
  obtain ⟨h1, h2⟩ := h
  refine ⟨by rw [cst_n (by omega)]; exact h1, fun r a b => ?_⟩
  rw [cst_n (by omega), cst_n (by omega), cst_n (by omega)]
  exact h2 r a b
theorem s_priceOf {c r : Int} {I : Mm} {M : Rw} {Q : Int → Mm → Prop} (hR : RRu I c M) (hG : WG M) (a : 0 ≤ r) (b : r < M 5) (hQ : Q (rg M r * 32 + 1) I) : V_Wa_priceOf c r I Q := by
  have g := hG.2 r a b
  have hn := hG.1
  have e : I (c + 3) r = rg M r := (hR.2 r a b).2.2
  unfold V_Wa_priceOf
  rw [e]
  exact ⟨by omega, by omega, hQ⟩
theorem s_priceBy {c r : Int} {I : Mm} {M : Rw} {Q : Int → Mm → Prop} (hR : RRu I c M) (hG : WG M) (a : 0 ≤ r) (b : r < M 5) (hP : I 38 (rb M r) = 2000000000 ∨ 0 ≤ I 38 (rb M r) ∧ I 38 (rb M r) ≤ 479999535) (hQ : Q (pbR M (I 38) r) I) : V_Wa_priceBy c r I Q := by
  have g := hG.2 r a b
  have hn := hG.1
  have e : I (c + 2) r = rb M r := (hR.2 r a b).2.1
  unfold pbR at hQ
  unfold V_Wa_priceBy
  rw [e]
  refine ⟨by omega, fun q => by omega, fun _ => ⟨fun q => by omega, fun _ => ⟨by omega, fun w => ⟨by omega, s_priceOf hR hG a b ⟨by omega, ?_⟩⟩, fun w => ?_⟩⟩⟩
  · rw [if_neg w] at hQ; exact hQ
  · rw [if_pos w] at hQ; exact hQ
theorem pb_or {M P : Rw} {o k : Int} (h : PIv M o P) (a : 0 ≤ k) (b : k < 16) : P k = 2000000000 ∨ 0 ≤ P k ∧ P k ≤ 479999535 := by
  have h1 := h.2.1 k a b
  by_cases w : P k < 2000000000
  · exact .inr (pb_lt h.2.1 a b w)
  · exact .inl (by omega)
theorem fx_or {M P : Rw} {o k : Int} (h : FX M o P) (a : 0 ≤ k) (b : k < 16) : P k = 2000000000 ∨ 0 ≤ P k ∧ P k ≤ 479999535 := by
  have h1 := h.2.1 k a b
  omega
/-- the least price by a rule of a name -/
def leaR (M P : Rw) (x : Int) : Nat → Int
  | 0 => 2000000000
  | i + 1 => if ra M (i : Int) = x then min (leaR M P x i) (pbR M P (i : Int)) else leaR M P x i
def zer (o : Int) (Z : Rw) : Rw := fun j => if 0 ≤ j ∧ j < 16 then (if j = o then 0 else 2000000000) else Z j
theorem s_find {c x o : Int} {I : Mm} {M : Rw} {Q : Int → Mm → Prop} (hR : RRu I c M) (hc : 0 ≤ c ∧ c < 30) (hG : WG M) (ho : 0 ≤ o ∧ o < 16) (hQ : ∀ P : Rw, FX M o P → Q (leaR M P x (M 5).toNat) (cset 38 I P)) : V_Wa_find c x o I Q := by
  have hn := hG.1
  have hZ : ∀ k : Int, 0 ≤ k → k < 16 → zer o (I 38) k = if k = o then 0 else 2000000000 := fun k a b => by unfold zer; rw [if_pos ⟨a, b⟩]
  have hfix := bf_fix hG ho hZ
  have hru : ∀ P : Rw, RRu (cset 38 I P) c M := fun P => ru_cst hR (by omega)
  have n0 : ∀ P : Rw, cset 38 I P c 0 = M 5 := fun P => (hru P).1
  have hI0 : PIv M o (zer o (I 38)) := by
    have z0 := hZ o ho.1 ho.2
    rw [if_pos rfl] at z0
    refine ⟨z0, fun k a b => ?_, fun k a b ne fi => ?_⟩
    · have hc : 1 ≤ cP (zer o (I 38)) := by
        have := cntB_ssub (fun _ => false) (fun k => decide (zer o (I 38) k < 2000000000)) 16 (fun _ _ _ q => absurd q (by decide)) o ho.1 (by omega) rfl (decide_eq_true (by omega))
        have h2 := (cntB_rng (fun _ => false) 16).1
        unfold cP
        omega
      rw [hZ k a b]
      split <;> omega
    · rw [hZ k a b, if_neg ne] at fi
      omega
  unfold V_Wa_find
  have g : ∃ f, L_Wa_find_3 c x o Q (fun I27 => ∃ f42 : Nat, L_Wa_find_38 c x o Q (fun I35 => ∃ f41 : Nat, L_Wa_find_94 c x o Q f41 2000000000 0 I35) f42 0 I27) f ((0 : Nat) : Int) (cset 38 I (fun j => if 0 ≤ j ∧ j < ((0 : Nat) : Int) then (if j = o then 0 else 2000000000) else I 38 j)) := by
    refine lp (P := fun f i => L_Wa_find_3 c x o Q (fun I27 => ∃ f42 : Nat, L_Wa_find_38 c x o Q (fun I35 => ∃ f41 : Nat, L_Wa_find_94 c x o Q f41 2000000000 0 I35) f42 0 I27) f (i : Int) (cset 38 I (fun j => if 0 ≤ j ∧ j < (i : Int) then (if j = o then 0 else 2000000000) else I 38 j))) 16 (fun f => ?_) (fun i f hi ih => ?_)
    · unfold L_Wa_find_3
      refine ⟨fun _ => ?_, fun q => absurd q (by decide)⟩
      show ∃ f42 : Nat, L_Wa_find_38 c x o Q (fun I35 => ∃ f41 : Nat, L_Wa_find_94 c x o Q f41 2000000000 0 I35) f42 0 (cset 38 I (zer o (I 38)))
      have g2 : ∃ f, L_Wa_find_38 c x o Q (fun I35 => ∃ f41 : Nat, L_Wa_find_94 c x o Q f41 2000000000 0 I35) f ((0 : Nat) : Int) (cset 38 I (prN M (zer o (I 38)) 0)) := by
        refine lp (P := fun f i => L_Wa_find_38 c x o Q (fun I35 => ∃ f41 : Nat, L_Wa_find_94 c x o Q f41 2000000000 0 I35) f (i : Int) (cset 38 I (prN M (zer o (I 38)) i))) 12 (fun f => ?_) (fun i f hi ih => ?_)
        · unfold L_Wa_find_38
          refine ⟨fun _ => ?_, fun q => absurd q (by decide)⟩
          generalize prN M (zer o (I 38)) 12 = P at hfix ⊢
          refine lp (P := fun f i => L_Wa_find_94 c x o Q f (leaR M P x i) (i : Int) (cset 38 I P)) (M 5).toNat (fun f => ?_) (fun i f hi ih => ?_)
          · unfold L_Wa_find_94
            rw [n0]
            exact ⟨fun _ => hQ P hfix, fun q => by omega⟩
          · have g := hG.2 (i : Int) (by omega) (by omega)
            have ea : cset 38 I P (c + 1) (i : Int) = ra M (i : Int) := ((hru P).2 (i : Int) (by omega) (by omega)).1
            unfold L_Wa_find_94
            rw [n0, ea]
            refine ⟨fun q => by omega, fun _ => ⟨by omega, fun w => ⟨by omega, ?_⟩, fun w => s_priceBy (hru P) hG (by omega) (by omega) (by rw [cst_s]; exact fx_or hfix g.2.1.1 g.2.1.2) ⟨by omega, ?_⟩⟩⟩
            · have e : leaR M P x (i + 1) = leaR M P x i := by show (if ra M (i : Int) = x then min (leaR M P x i) (pbR M P (i : Int)) else leaR M P x i) = _; rw [if_neg w]
              rw [e] at ih
              exact ih
            · have e : leaR M P x (i + 1) = min (leaR M P x i) (pbR M P (i : Int)) := by show (if ra M (i : Int) = x then min (leaR M P x i) (pbR M P (i : Int)) else leaR M P x i) = _; rw [if_pos w]
              rw [e] at ih
              rw [cst_s]
              exact ih
        · have hPi := pi_pr hG hI0 i
          unfold L_Wa_find_38
          refine ⟨fun q => by omega, fun _ => ?_⟩
          have g3 : ∃ f34, L_Wa_find_48 c x o (i : Int) Q (fun x4 I => L_Wa_find_38 c x o Q (fun I35 => ∃ f41 : Nat, L_Wa_find_94 c x o Q f41 2000000000 0 I35) f x4 I) f34 ((0 : Nat) : Int) (cset 38 I (rnR M (prN M (zer o (I 38)) i) 0)) := by
            refine lp (P := fun f34 j => L_Wa_find_48 c x o (i : Int) Q (fun x4 I => L_Wa_find_38 c x o Q (fun I35 => ∃ f41 : Nat, L_Wa_find_94 c x o Q f41 2000000000 0 I35) f x4 I) f34 (j : Int) (cset 38 I (rnR M (prN M (zer o (I 38)) i) j))) (M 5).toNat (fun f34 => ?_) (fun j f34 hj ih2 => ?_)
            · unfold L_Wa_find_48
              rw [n0]
              exact ⟨fun _ => ⟨by omega, ih⟩, fun q => by omega⟩
            · have hPj := pi_rn hG hPi j (by omega)
              have g := hG.2 (j : Int) (by omega) (by omega)
              rw [show rnR M (prN M (zer o (I 38)) i) (j + 1) = loR M (rnR M (prN M (zer o (I 38)) i) j) (j : Int) from rfl] at ih2
              generalize rnR M (prN M (zer o (I 38)) i) j = P at ih2 hPj ⊢
              have ea : cset 38 I P (c + 1) (j : Int) = ra M (j : Int) := ((hru P).2 (j : Int) (by omega) (by omega)).1
              unfold L_Wa_find_48
              rw [n0]
              refine ⟨fun q => by omega, fun _ => ⟨by omega, s_priceBy (hru P) hG (by omega) (by omega) (by rw [cst_s]; exact pb_or hPj g.2.1.1 g.2.1.2) ?_⟩⟩
              rw [ea, cst_s]
              unfold V_Wa_lower
              refine ⟨fun q => by omega, fun _ => ⟨fun q => by omega, fun _ => ⟨by omega, by omega, by omega, ?_⟩⟩⟩
              have e : wrM (cset 38 I P) 38 (ra M (j : Int)) (min (cset 38 I P 38 (ra M (j : Int))) (pbR M P (j : Int))) = cset 38 I (loR M P (j : Int)) := by
                rw [wr_cst, cst_s, cst_cst]
                congr 1
                funext y
                unfold stR loR
                by_cases q : y = ra M (j : Int)
                · rw [if_pos q, if_pos q, q]
                · rw [if_neg q, if_neg q]
              rw [e]
              exact ih2
          exact g3
      exact g2
    · have e : ∀ v : Int, v = (if (i : Int) = o then 0 else 2000000000) → wrM (cset 38 I (fun j => if 0 ≤ j ∧ j < (i : Int) then (if j = o then 0 else 2000000000) else I 38 j)) 38 (i : Int) v = cset 38 I (fun j => if 0 ≤ j ∧ j < ((i + 1 : Nat) : Int) then (if j = o then 0 else 2000000000) else I 38 j) := fun v hv => by
        rw [wr_cst, cst_s, cst_cst]
        congr 1
        funext y
        unfold stR
        dsimp only
        by_cases q : y = (i : Int)
        · rw [if_pos q, if_pos (show 0 ≤ y ∧ y < ((i + 1 : Nat) : Int) by omega), hv, q]
        · rw [if_neg q]
          by_cases q2 : 0 ≤ y ∧ y < (i : Int)
          · rw [if_pos q2, if_pos (show 0 ≤ y ∧ y < ((i + 1 : Nat) : Int) by omega)]
          · rw [if_neg q2, if_neg (show ¬ (0 ≤ y ∧ y < ((i + 1 : Nat) : Int)) by omega)]
      unfold L_Wa_find_3
      refine ⟨fun q => by omega, fun _ => ⟨fun w => ⟨by omega, by omega, ?_⟩, fun w => ⟨by omega, by omega, ?_⟩⟩⟩
      · rw [e _ (by rw [if_neg w])]; exact ih
      · rw [e _ (by rw [if_pos w])]; exact ih
  have e0 : cset 38 I (fun j => if 0 ≤ j ∧ j < ((0 : Nat) : Int) then (if j = o then 0 else 2000000000) else I 38 j) = I := by
    have : (fun j => if 0 ≤ j ∧ j < ((0 : Nat) : Int) then (if j = o then 0 else 2000000000) else I 38 j) = I 38 := by
      funext j
      rw [if_neg (by omega)]
    rw [this, cst_id]
  rw [e0] at g
  exact g
/-- what the least price says -/
theorem lst_is {M P : Rw} {o x : Int} (hG : WG M) (hP : FX M o P) : ∀ i : Nat, (i : Int) ≤ M 5 → (leaR M P x i = 2000000000 ∨ 0 ≤ leaR M P x i ∧ leaR M P x i < 2000000000 ∧ ∃ r : Int, 0 ≤ r ∧ r < (i : Int) ∧ ra M r = x ∧ P (rb M r) < 2000000000 ∧ leaR M P x i = P (rb M r) + (rg M r * 32 + 1)) ∧ ∀ r : Int, 0 ≤ r → r < (i : Int) → ra M r = x → P (rb M r) < 2000000000 → leaR M P x i ≤ P (rb M r) + (rg M r * 32 + 1)
  | 0, _ => ⟨.inl rfl, fun r a b => by omega⟩
  | i + 1, hi => by
    obtain ⟨h1, h2⟩ := lst_is (x := x) hG hP i (by omega)
    have g := hG.2 (i : Int) (by omega) (by omega)
    have hb := hP.2.1 (rb M (i : Int)) g.2.1.1 g.2.1.2
    have e : leaR M P x (i + 1) = if ra M (i : Int) = x then min (leaR M P x i) (pbR M P (i : Int)) else leaR M P x i := rfl
    by_cases q : ra M (i : Int) = x
    · rw [if_pos q] at e
      by_cases w : P (rb M (i : Int)) = 2000000000
      · have ep : pbR M P (i : Int) = 2000000000 := by unfold pbR; rw [if_pos w]
        have e2 : leaR M P x (i + 1) = leaR M P x i := by rw [e, ep]; omega
        rw [e2]
        refine ⟨?_, fun r a b c d => ?_⟩
        · rcases h1 with h1 | ⟨h1, h3, r, r1, r2, r3⟩
          · exact .inl h1
          · exact .inr ⟨h1, h3, r, r1, by omega, r3⟩
        · by_cases z : r = (i : Int)
          · subst z; omega
          · exact h2 r a (by omega) c d
      · have ep : pbR M P (i : Int) = P (rb M (i : Int)) + (rg M (i : Int) * 32 + 1) := by unfold pbR; rw [if_neg w]
        rw [ep] at e
        by_cases z : P (rb M (i : Int)) + (rg M (i : Int) * 32 + 1) < leaR M P x i
        · have e2 : leaR M P x (i + 1) = P (rb M (i : Int)) + (rg M (i : Int) * 32 + 1) := by omega
          rw [e2]
          refine ⟨.inr ⟨by omega, by omega, (i : Int), by omega, by omega, q, by omega, rfl⟩, fun r a b c d => ?_⟩
          by_cases z : r = (i : Int)
          · subst z; omega
          · have := h2 r a (by omega) c d
            omega
        · have e2 : leaR M P x (i + 1) = leaR M P x i := by omega
          rw [e2]
          refine ⟨?_, fun r a b c d => ?_⟩
          · rcases h1 with h1 | ⟨h1, h3, r, r1, r2, r3⟩
            · exact .inl h1
            · exact .inr ⟨h1, h3, r, r1, by omega, r3⟩
          · by_cases z : r = (i : Int)
            · subst z; omega
            · exact h2 r a (by omega) c d
    · rw [if_neg q] at e
      rw [e]
      refine ⟨?_, fun r a b c d => ?_⟩
      · rcases h1 with h1 | ⟨h1, h3, r, r1, r2, r3⟩
        · exact .inl h1
        · exact .inr ⟨h1, h3, r, r1, by omega, r3⟩
      · by_cases z : r = (i : Int)
        · subst z; exact absurd c q
        · exact h2 r a (by omega) c d
