/-! soonest, leads: the reference's side, and that both say the same -/
theorem lps {σ : Type} {P : Nat → Nat → σ → Prop} {S : Nat → σ → Prop} {s : σ} (e : Nat) (h0 : S 0 s) (h1 : ∀ (n : Nat) (s1 : σ), S e s1 → P (n + 1) e s1) (h2 : ∀ (i n : Nat) (s1 : σ), i < e → S i s1 → (∀ s2 : σ, S (i + 1) s2 → P n (i + 1) s2) → P (n + 1) i s1) : ∃ f, P f 0 s := by
  have h : ∀ n i : Nat, i + n = e → ∀ s1 : σ, S i s1 → P (n + 1) i s1 := by
    intro n
    induction n with
    | zero => intro i hi s1 hS; rw [show i = e by omega] at hS ⊢; exact h1 0 s1 hS
    | succ n ih => intro i hi s1 hS; exact h2 i (n + 1) s1 (by omega) hS (fun s2 hS2 => ih (i + 1) (by omega) s2 hS2)
  exact ⟨_, h e 0 (by omega) s h0⟩
def cF (F : Rw) : Int := cntB (fun k => decide (0 ≤ F k)) 16
theorem cF_rng (F : Rw) : 0 ≤ cF F ∧ cF F ≤ 16 := cntB_rng _ 16
def FB (F : Rw) : Prop := ∀ k : Int, 0 ≤ k → k < 16 → F k < 0 ∨ 1 ≤ F k ∧ F k ≤ 999999 * cF F
def FSu (M : Rw) (nm : Int) (F : Rw) : Prop := ∀ k : Int, 0 ≤ k → k < 16 → 0 ≤ F k → ∃ r : Int, 0 ≤ r ∧ r < M 5 ∧ rb M r = k ∧ (ra M r = nm ∧ rg M r ≤ F k ∨ 0 ≤ F (ra M r) ∧ F (ra M r) + rg M r ≤ F k)
def FCl (M : Rw) (nm : Int) (F : Rw) (n : Int) : Prop := ∀ r : Int, 0 ≤ r → r < n → (ra M r = nm → 0 ≤ F (rb M r) ∧ F (rb M r) ≤ rg M r) ∧ (0 ≤ F (ra M r) → 0 ≤ F (rb M r) ∧ F (rb M r) ≤ F (ra M r) + rg M r)
def mF (F : Rw) (k : Int) : Int := if F k < 0 then 4000000000 else F k
def mea (F : Rw) : Int := sumI (mF F) 16
theorem mea_nn (F : Rw) : 0 ≤ mea F := sumI_nn _ 16 (fun k _ _ => by unfold mF; split <;> omega)
theorem near_ok {M F : Rw} {nm to h : Int} (hB : FB F) (hS : FSu M nm F) (ht : 0 ≤ to ∧ to < 16) (h1 : 1 ≤ h ∧ h ≤ 999999 * cF F + 999999) (hr : ∃ r : Int, 0 ≤ r ∧ r < M 5 ∧ rb M r = to ∧ 1 ≤ rg M r ∧ (ra M r = nm ∧ rg M r ≤ h ∨ 0 ≤ F (ra M r) ∧ F (ra M r) + rg M r ≤ h)) (hi : F to < 0 ∨ h < F to) : FB (stR F to h) ∧ FSu M nm (stR F to h) ∧ mea (stR F to h) < mea F := by
  have hc : cF F ≤ cF (stR F to h) := cntB_sub _ _ 16 (fun k _ _ q => by
    have q2 := of_decide_eq_true q
    by_cases w : k = to
    · exact decide_eq_true (by rw [w, st_s]; omega)
    · exact decide_eq_true (by rw [st_ne w]; exact q2))
  have hcr := cF_rng F
  refine ⟨fun k a b => ?_, fun k a b fi => ?_, ?_⟩
  · by_cases w : k = to
    · rw [w, st_s]
      have ht2 := hB to ht.1 ht.2
      by_cases q : F to < 0
      · have hc2 : cF F + 1 ≤ cF (stR F to h) := cntB_ssub _ _ 16 (fun k _ _ q => by
          have q2 := of_decide_eq_true q
          by_cases w : k = to
          · exact decide_eq_true (by rw [w, st_s]; omega)
          · exact decide_eq_true (by rw [st_ne w]; exact q2)) to ht.1 ht.2 (decide_eq_false (by omega)) (decide_eq_true (by rw [st_s]; omega))
        omega
      · omega
    · rw [st_ne w]
      have := hB k a b
      omega
  · by_cases w : k = to
    · rw [w] at fi ⊢
      obtain ⟨r, r1, r2, r3, r4, r5⟩ := hr
      refine ⟨r, r1, r2, r3, ?_⟩
      rw [st_s]
      rcases r5 with ⟨x, y⟩ | ⟨x, y⟩
      · exact .inl ⟨x, y⟩
      · refine .inr ?_
        by_cases z : ra M r = to
        · rw [z] at x y
          omega
        · rw [st_ne z]; exact ⟨x, y⟩
    · rw [st_ne w] at fi ⊢
      obtain ⟨r, r1, r2, r3, r5⟩ := hS k a b fi
      refine ⟨r, r1, r2, r3, ?_⟩
      rcases r5 with ⟨x, y⟩ | ⟨x, y⟩
      · exact .inl ⟨x, y⟩
      · refine .inr ?_
        by_cases z : ra M r = to
        · rw [z] at x y
          rw [z, st_s]
          omega
        · rw [st_ne z]; exact ⟨x, y⟩
  · refine sumI_lt _ _ 16 (fun k _ _ => ?_) to ht.1 (by omega) ?_
    · unfold mF
      by_cases w : k = to
      · rw [w, st_s]
        split <;> split <;> omega
      · rw [st_ne w]
        exact Int.le_refl _
    · unfold mF
      rw [st_s]
      split <;> split <;> omega
theorem m_nearer {to h : Int} {I : Mm} {F : Rw} {Q : Int → Mm → Prop} (ht : 0 ≤ to ∧ to < 16) (h1 : (F to < 0 ∨ h < F to) → Q 1 (cset 245 I (stR F to h))) (h0 : 0 ≤ F to → F to ≤ h → Q 0 (cset 245 I F)) : V_M_nearer to h (cset 245 I F) Q := by
  have e : wrM (cset 245 I F) 245 to h = cset 245 I (stR F to h) := by rw [wr_cst, cst_s, cst_cst]
  unfold V_M_nearer
  rw [e, cst_s]
  exact ⟨ht, fun q => ⟨ht, h1 (.inl q)⟩, fun q => ⟨ht, fun w => ⟨ht, h1 (.inr w)⟩, fun w => h0 q w⟩⟩
theorem m_j114 {nm : Int} {i : Nat} {x2 : Int} {I : Mm} {M F : Rw} {Q : Mm → Prop} {K : Int → Int → Mm → Prop} (hG : WG M) (hi : (i : Int) < M 5) (hB : FB F) (hS : FSu M nm F) (hx : x2 = 0 ∨ x2 = 1) (hA : (0 ≤ F (ra M (i : Int)) → 0 ≤ F (rb M (i : Int)) ∧ F (rb M (i : Int)) ≤ F (ra M (i : Int)) + rg M (i : Int)) → K x2 ((i : Int) + 1) (cset 245 I F)) (hN : ∀ F' : Rw, FB F' → FSu M nm F' → mea F' < mea F → K 1 ((i : Int) + 1) (cset 245 I F')) : J_M_spreads_114 nm Q K x2 (i : Int) (ra M (i : Int)) (rb M (i : Int)) (rg M (i : Int)) (cset 245 I F) := by
  have g := hG.2 (i : Int) (by omega) hi
  have hn := hG.1
  have hb := hB (ra M (i : Int)) g.1.1 g.1.2
  have hc := cF_rng F
  unfold J_M_spreads_114
  rw [cst_s]
  refine ⟨g.1, fun q => ⟨by omega, hA (fun w => by omega)⟩, fun q => ⟨g.1, by omega, m_nearer g.2.1 (fun w => ⟨fun _ => ⟨by omega, ?_⟩, fun w => absurd w (by decide)⟩) (fun w1 w2 => ⟨fun w => absurd rfl w, fun _ => ⟨fun z => ⟨by omega, ?_⟩, fun z => ⟨by omega, ?_⟩⟩⟩)⟩⟩
  · obtain ⟨n1, n2, n3⟩ := near_ok hB hS g.2.1 (show 1 ≤ F (ra M (i : Int)) + rg M (i : Int) ∧ F (ra M (i : Int)) + rg M (i : Int) ≤ 999999 * cF F + 999999 by omega) ⟨(i : Int), by omega, hi, rfl, g.2.2.1, .inr ⟨q, Int.le_refl _⟩⟩ w
    exact hN _ n1 n2 n3
  · have := hA (fun _ => ⟨w1, w2⟩)
    rw [z] at this
    exact this
  · have := hA (fun _ => ⟨w1, w2⟩)
    rw [show x2 = 1 by omega] at this
    exact this
theorem m_sp31 {nm : Int} {I : Mm} {M F : Rw} {Q : Mm → Prop} {K : Int → Mm → Prop} (hM : I 237 = M) (hG : WG M) (hB : FB F) (hS : FSu M nm F) (h0 : FCl M nm F (M 5) → K 0 (cset 245 I F)) (h1 : ∀ F' : Rw, FB F' → FSu M nm F' → mea F' < mea F → K 1 (cset 245 I F')) : ∃ f, L_M_spreads_31 nm Q K f 0 0 (cset 245 I F) := by
  have hn := hG.1
  have hM2 : ∀ F' : Rw, cset 245 I F' 237 = M := fun F' => by rw [cst_n (by decide)]; exact hM
  refine lps (σ := Int × Mm) (P := fun f i s => L_M_spreads_31 nm Q K f s.1 (i : Int) s.2) (S := fun i s => ∃ F' : Rw, s.2 = cset 245 I F' ∧ FB F' ∧ FSu M nm F' ∧ (s.1 = 0 ∧ F' = F ∧ FCl M nm F (i : Int) ∨ s.1 = 1 ∧ mea F' < mea F)) (s := (0, cset 245 I F)) (M 5).toNat ⟨F, rfl, hB, hS, .inl ⟨rfl, rfl, fun r a b => by omega⟩⟩ ?_ ?_
  · rintro n ⟨x2, I1⟩ ⟨F', rfl, b1, s1, hor⟩
    dsimp only at hor ⊢
    unfold L_M_spreads_31
    rw [hM2]
    refine ⟨fun _ => ?_, fun q => by omega⟩
    rcases hor with ⟨z, e, c⟩ | ⟨z, c⟩
    · subst e
      rw [z]
      exact h0 (fun r a b => c r a (by omega))
    · rw [z]
      exact h1 F' b1 s1 c
  · rintro i n ⟨x2, I1⟩ hi ⟨F', rfl, b1, s1, hor⟩ ih
    dsimp only at hor ⊢
    have g := hG.2 (i : Int) (by omega) (by omega)
    have hc := cF_rng F'
    have ih' : ∀ (y : Int) (F2 : Rw), FB F2 → FSu M nm F2 → (y = 0 ∧ F2 = F ∧ FCl M nm F ((i + 1 : Nat) : Int) ∨ y = 1 ∧ mea F2 < mea F) → L_M_spreads_31 nm Q K n y ((i : Int) + 1) (cset 245 I F2) := fun y F2 p1 p2 p3 => ih (y, cset 245 I F2) ⟨F2, rfl, p1, p2, p3⟩
    unfold L_M_spreads_31
    rw [hM2]
    refine ⟨fun q => by omega, fun _ => ⟨by omega, by omega, ?_⟩⟩
    intro y27 e27
    refine ⟨by omega, ?_⟩
    intro y29 e29
    have e27' : y27 = rb M (i : Int) := e27
    have e29' : y29 = rg M (i : Int) := e29
    subst e27' e29'
    have hx : x2 = 0 ∨ x2 = 1 := by rcases hor with ⟨z, -⟩ | ⟨z, -⟩ <;> omega
    refine ⟨fun w => m_j114 hG (by omega) b1 s1 hx (fun cl => ?_) (fun F2 p1 p2 p3 => ih' 1 F2 p1 p2 (.inr ⟨rfl, ?_⟩)), fun w => m_nearer g.2.1 (fun imp => ⟨fun _ => ?_, fun w => absurd w (by decide)⟩) (fun k1 k2 => ⟨fun w => absurd rfl w, fun _ => ⟨fun z => ?_, fun z => ?_⟩⟩)⟩
    · refine ih' x2 F' b1 s1 ?_
      rcases hor with ⟨z, e, c⟩ | ⟨z, c⟩
      · subst e
        refine .inl ⟨z, rfl, fun r a b => ?_⟩
        by_cases q : r = (i : Int)
        · rw [q]; exact ⟨fun q2 => absurd q2 w, cl⟩
        · exact c r a (by omega)
      · exact .inr ⟨z, c⟩
    · rcases hor with ⟨z, e, c⟩ | ⟨z, c⟩
      · rw [← e]; exact p3
      · omega
    · have hle : mea F' ≤ mea F := by
        rcases hor with ⟨z, e, c⟩ | ⟨z, c⟩
        · rw [e]; exact Int.le_refl _
        · omega
      obtain ⟨n1, n2, n3⟩ := near_ok b1 s1 g.2.1 (show 1 ≤ rg M (i : Int) ∧ rg M (i : Int) ≤ 999999 * cF F' + 999999 by omega) ⟨(i : Int), by omega, by omega, rfl, g.2.2.1, .inl ⟨w, Int.le_refl _⟩⟩ imp
      unfold J_M_spreads_108 J_M_spreads_113
      exact m_j114 hG (by omega) n1 n2 (.inr rfl) (fun _ => ih' 1 _ n1 n2 (.inr ⟨rfl, by omega⟩)) (fun F2 p1 p2 p3 => ih' 1 F2 p1 p2 (.inr ⟨rfl, by omega⟩))
    · unfold J_M_spreads_113
      refine m_j114 hG (by omega) b1 s1 (.inl rfl) (fun cl => ?_) (fun F2 p1 p2 p3 => ih' 1 F2 p1 p2 (.inr ⟨rfl, ?_⟩))
      · refine ih' 0 F' b1 s1 ?_
        rcases hor with ⟨z, e, c⟩ | ⟨z2, c⟩
        · subst e
          refine .inl ⟨rfl, rfl, fun r a b => ?_⟩
          by_cases q : r = (i : Int)
          · rw [q]; exact ⟨fun _ => ⟨k1, k2⟩, cl⟩
          · exact c r a (by omega)
        · omega
      · rcases hor with ⟨z, e, c⟩ | ⟨z, c⟩
        · rw [← e]; exact p3
        · omega
    · have hc2 : mea F' < mea F := by
        rcases hor with ⟨z2, e, c⟩ | ⟨z, c⟩
        · exact absurd z2 z
        · exact c
      unfold J_M_spreads_108 J_M_spreads_113
      exact m_j114 hG (by omega) b1 s1 (.inr rfl) (fun _ => ih' 1 F' b1 s1 (.inr ⟨rfl, hc2⟩)) (fun F2 p1 p2 p3 => ih' 1 F2 p1 p2 (.inr ⟨rfl, by omega⟩))
theorem m_sp23 {nm : Int} {I : Mm} {M : Rw} {Q : Mm → Prop} (hM : I 237 = M) (hG : WG M) (hQ : ∀ F : Rw, FB F → FSu M nm F → FCl M nm F (M 5) → Q (cset 245 I F)) (n : Nat) : ∀ F : Rw, FB F → FSu M nm F → mea F + 1 < n → L_M_spreads_23 nm Q n 1 (cset 245 I F) := by
  induction n with
  | zero =>
    intro F _ _ h
    have := mea_nn F
    omega
  | succ n ih =>
    intro F hB hS h
    have := mea_nn F
    obtain ⟨m, rfl⟩ : ∃ m, n = m + 1 := ⟨n - 1, by omega⟩
    unfold L_M_spreads_23
    refine ⟨fun q => absurd q (by decide), fun _ => m_sp31 hM hG hB hS (fun c => ?_) (fun F' b s d => ih F' b s (by omega))⟩
    unfold L_M_spreads_23
    exact ⟨fun _ => hQ F hB hS c, fun q => absurd rfl q⟩
theorem m_spreads {nm : Int} {I : Mm} {M : Rw} {Q : Mm → Prop} (hM : I 237 = M) (hG : WG M) (hQ : ∀ F : Rw, FB F → FSu M nm F → FCl M nm F (M 5) → Q (cset 245 I F)) : V_M_spreads nm I Q := by
  unfold V_M_spreads
  have g : ∃ f, L_M_spreads_2 nm Q (fun I24 => ∃ f48 : Nat, L_M_spreads_23 nm Q f48 1 I24) f ((0 : Nat) : Int) (cset 245 I (fun j => if 0 ≤ j ∧ j < ((0 : Nat) : Int) then -1 else I 245 j)) := by
    refine lp (P := fun f i => L_M_spreads_2 nm Q (fun I24 => ∃ f48 : Nat, L_M_spreads_23 nm Q f48 1 I24) f (i : Int) (cset 245 I (fun j => if 0 ≤ j ∧ j < (i : Int) then -1 else I 245 j))) 16 (fun f => ?_) (fun i f hi ih => ?_)
    · unfold L_M_spreads_2
      refine ⟨fun _ => ?_, fun q => absurd q (by decide)⟩
      have hneg : ∀ k : Int, 0 ≤ k → k < 16 → (fun j => if 0 ≤ j ∧ j < ((16 : Nat) : Int) then -1 else I 245 j) k = -1 := fun k a b => if_pos ⟨a, b⟩
      generalize (fun j => if 0 ≤ j ∧ j < ((16 : Nat) : Int) then -1 else I 245 j) = F at hneg ⊢
      have hB : FB F := fun k a b => .inl (by rw [hneg k a b]; decide)
      have hS : FSu M nm F := fun k a b w => by rw [hneg k a b] at w; omega
      exact ⟨(mea F + 2).toNat, m_sp23 hM hG hQ _ F hB hS (by have := mea_nn F; omega)⟩
    · have e : wrM (cset 245 I (fun j => if 0 ≤ j ∧ j < (i : Int) then -1 else I 245 j)) 245 (i : Int) (-1) = cset 245 I (fun j => if 0 ≤ j ∧ j < ((i + 1 : Nat) : Int) then -1 else I 245 j) := by
        rw [wr_cst, cst_s, cst_cst]
        congr 1
        funext y
        unfold stR
        dsimp only
        by_cases q : y = (i : Int)
        · rw [if_pos q, if_pos (show 0 ≤ y ∧ y < ((i + 1 : Nat) : Int) by omega)]
        · rw [if_neg q]
          by_cases q2 : 0 ≤ y ∧ y < (i : Int)
          · rw [if_pos q2, if_pos (show 0 ≤ y ∧ y < ((i + 1 : Nat) : Int) by omega)]
          · rw [if_neg q2, if_neg (show ¬ (0 ≤ y ∧ y < ((i + 1 : Nat) : Int)) by omega)]
      unfold L_M_spreads_2
      refine ⟨fun q => by omega, fun _ => ⟨by omega, by omega, ?_⟩⟩
      rw [e]
      exact ih
  have e0 : cset 245 I (fun j => if 0 ≤ j ∧ j < ((0 : Nat) : Int) then -1 else I 245 j) = I := by
    have : (fun j => if 0 ≤ j ∧ j < ((0 : Nat) : Int) then -1 else I 245 j) = I 245 := by
      funext j
      rw [if_neg (by omega)]
    rw [this, cst_id]
  rw [e0] at g
  exact g
/-- the fewest hours from a name on and the least price to a goal agree -/
theorem dual {M P F : Rw} {nm o : Int} (hG : WG M) (ho : 0 ≤ o ∧ o < 16) (hP : FX M o P) (hB : FB F) (hS : FSu M nm F) (hC : FCl M nm F (M 5)) : (leaR M P nm (M 5).toNat = 2000000000 → F o < 0) ∧ (leaR M P nm (M 5).toNat ≠ 2000000000 → 0 ≤ leaR M P nm (M 5).toNat ∧ F o = leaR M P nm (M 5).toNat / 32) := by
  have hn := hG.1
  obtain ⟨p0, pB, pS, pC⟩ := hP
  obtain ⟨l1, l2⟩ := lst_is (x := nm) hG ⟨p0, pB, pS, pC⟩ (M 5).toNat (by omega)
  generalize leaR M P nm (M 5).toNat = L at l1 l2 ⊢
  have c1 : ∀ (s : Nat) (k : Int), 0 ≤ k → k < 16 → 0 ≤ F k → P k < 2000000000 → P k ≤ s → 0 ≤ F o ∧ F o ≤ F k + P k / 32 := by
    intro s
    induction s with
    | zero =>
      intro k a b f p q
      have hk := pB k a b
      by_cases w : k = o
      · rw [← w]; omega
      · obtain ⟨r, r1, r2, r3, r4, r5⟩ := pS k a b w p
        have g := hG.2 r r1 r2
        have := pB (rb M r) g.2.1.1 g.2.1.2
        omega
    | succ s ih =>
      intro k a b f p q
      have hk := pB k a b
      by_cases w : k = o
      · rw [← w]; omega
      · obtain ⟨r, r1, r2, r3, r4, r5⟩ := pS k a b w p
        have g := hG.2 r r1 r2
        have hb := pB (rb M r) g.2.1.1 g.2.1.2
        have h1 := (hC r r1 r2).2
        rw [r3] at h1
        have h2 := h1 f
        have h3 := ih (rb M r) g.2.1.1 g.2.1.2 h2.1 r4 (by omega)
        have h4 := hb.2.2 r4
        omega
  have c2 : ∀ (s : Nat) (k : Int), 0 ≤ k → k < 16 → 0 ≤ F k → F k ≤ s → P k < 2000000000 → 0 ≤ L ∧ L < 2000000000 ∧ L / 32 ≤ F k + P k / 32 := by
    intro s
    induction s with
    | zero =>
      intro k a b f q p
      have := hB k a b
      omega
    | succ s ih =>
      intro k a b f q p
      have hk := pB k a b
      have hk2 := hk.2.2 p
      obtain ⟨r, r1, r2, r3, r5⟩ := hS k a b f
      have g := hG.2 r r1 r2
      rcases r5 with ⟨x, y⟩ | ⟨x, y⟩
      · have h1 := l2 r r1 (by omega) x (by rw [r3]; exact p)
        rw [r3] at h1
        omega
      · have h1 := pC r r1 r2 (by rw [r3]; exact p)
        rw [r3] at h1
        have h2 := ih (ra M r) g.1.1 g.1.2 x (by omega) (by omega)
        omega
  constructor
  · intro e
    by_cases w : F o < 0
    · exact w
    · have := c2 (F o).toNat o ho.1 ho.2 (by omega) (by omega) (by omega)
      omega
  · intro ne
    rcases l1 with l1 | ⟨l1, l3, r, r1, r2, r3, r4, r5⟩
    · exact absurd l1 ne
    · have g := hG.2 r r1 (by omega)
      have h1 := (hC r r1 (by omega)).1 r3
      have hb := pB (rb M r) g.2.1.1 g.2.1.2
      have h2 := c1 (P (rb M r)).toNat (rb M r) g.2.1.1 g.2.1.2 h1.1 r4 (by omega)
      have h3 := c2 (F o).toNat o ho.1 ho.2 h2.1 (by omega) (by omega)
      have h4 := hb.2.2 r4
      omega
theorem r_soonest {x1 x2 : Int} {I : Mm} {M : Rw} {Q : Int → Mm → Prop} (hM : I 237 = M) (h4 : 0 ≤ M 4 ∧ M 4 ≤ 16) (hG : WG M) (e0 : ¬ ((0 ≤ x1 ∧ x1 < M 4) ∧ (0 ≤ x2 ∧ x2 < M 4)) → Q (-1) I) (e1 : (0 ≤ x1 ∧ x1 < M 4) ∧ (0 ≤ x2 ∧ x2 < M 4) → ∀ F : Rw, FB F → FSu M x1 F → FCl M x1 F (M 5) → Q (if F x2 < 0 then -2 else F x2) (cset 245 I F)) : V_M_soonest x1 x2 I Q := by
  unfold V_M_soonest
  refine m_isName hM h4 (fun a b => ⟨fun w => absurd w (by decide), fun _ => m_isName hM h4 (fun c d => ⟨fun _ => m_spreads hM hG (fun F f1 f2 f3 => ?_), fun w => absurd w (by decide)⟩) (fun q => ⟨fun w => absurd rfl w, fun _ => e0 (fun w => q w.2)⟩)⟩) (fun q => ⟨fun _ => e0 (fun w => q w.1), fun w => absurd rfl w⟩)
  have := e1 ⟨⟨a, b⟩, c, d⟩ F f1 f2 f3
  rw [cst_s]
  refine ⟨by omega, fun w => ?_, fun w => ⟨by omega, ?_⟩⟩
  · rw [if_pos w] at this; exact this
  · rw [if_neg (by omega)] at this; exact this
theorem r_leads {x1 x2 : Int} {I : Mm} {M : Rw} {Q : Int → Mm → Prop} (hM : I 237 = M) (h4 : 0 ≤ M 4 ∧ M 4 ≤ 16) (hG : WG M) (e0 : ¬ ((0 ≤ x1 ∧ x1 < M 4) ∧ (0 ≤ x2 ∧ x2 < M 4)) → Q (-1) I) (e1 : (0 ≤ x1 ∧ x1 < M 4) ∧ (0 ≤ x2 ∧ x2 < M 4) → ∀ F : Rw, FB F → FSu M x1 F → FCl M x1 F (M 5) → Q (if F x2 < 0 then 0 else 1) (cset 245 I F)) : V_M_leads x1 x2 I Q := by
  unfold V_M_leads
  refine m_isName hM h4 (fun a b => ⟨fun w => absurd w (by decide), fun _ => m_isName hM h4 (fun c d => ⟨fun _ => m_spreads hM hG (fun F f1 f2 f3 => ?_), fun w => absurd w (by decide)⟩) (fun q => ⟨fun w => absurd rfl w, fun _ => e0 (fun w => q w.2)⟩)⟩) (fun q => ⟨fun _ => e0 (fun w => q w.1), fun w => absurd rfl w⟩)
  have := e1 ⟨⟨a, b⟩, c, d⟩ F f1 f2 f3
  rw [cst_s]
  refine ⟨by omega, fun w => ?_, fun w => ?_⟩
  · rw [if_pos w] at this; exact this
  · rw [if_neg (by omega)] at this; exact this
/-- the class's soonest -/
theorem x_soonest {G x1 x2 : Int} {I : Mm} {M : Rw} {Q : Int → Mm → Prop} (hR : RepC I 1 M) (hW : WF G M) (e0 : ¬ ((0 ≤ x1 ∧ x1 < M 4) ∧ (0 ≤ x2 ∧ x2 < M 4)) → Q (-1) I) (e1 : (0 ≤ x1 ∧ x1 < M 4) ∧ (0 ≤ x2 ∧ x2 < M 4) → ∀ P : Rw, FX M x2 P → Q (if leaR M P x1 (M 5).toNat = 2000000000 then -2 else leaR M P x1 (M 5).toNat / 32) (cset 38 I P)) : V_X_soonest x1 x2 I Q := by
  have hG := wg_of hW
  have hn := hG.1
  have b4 := hW.1.2.2.2.2.1
  have n4 : I (1 + 1) 0 = M 4 := hR.1.1
  unfold V_X_soonest
  refine s_nmHas (fun a b => ⟨fun w => absurd w (by decide), fun _ => s_nmHas (fun c d => ⟨fun _ => ?_, fun w => absurd w (by decide)⟩) (fun q => ⟨fun w => absurd rfl w, fun _ => e0 (by rw [n4] at q; omega)⟩)⟩) (fun q => ⟨fun _ => e0 (by rw [n4] at q; omega), fun w => absurd rfl w⟩)
  rw [n4] at b d
  unfold V_Wa_hoursOf
  refine s_find hR.2.2.1 (by omega) hG (by omega) (fun P hP => ?_)
  have := e1 ⟨⟨a, b⟩, c, d⟩ P hP
  have h1 := (lst_is (x := x1) hG hP (M 5).toNat (by omega)).1
  refine ⟨fun w => ⟨by omega, ?_⟩, fun w => ?_⟩
  · rw [if_neg w] at this; exact this
  · rw [if_pos w] at this; exact this
theorem ask_end {G : Int} {I I' : Mm} {M P F : Rw} {u : Int} {H : Int → Rw} {k : Int → Int} {S : Int → Rw} {l : Int} {T : Int → Int} (hC : CS I M u H k S l T) (hR : RS I M u H k S l T) (hA : AW G M u H k S l T) (h : ∀ a : Int, a ≠ 38 → a ≠ 245 → a ≠ 248 → a ≠ 249 → I' a = I a) : Inv (G + 3000000) I' :=
  ⟨M, u, H, k, S, l, T, cs_fr hC hA (fun a ha => h a (by omega) (by omega) (by omega) (by omega)), rs_fr hR (fun a ha => h a (by omega) (by omega) (by omega) (by omega)) (by rw [h 236 (by omega) (by omega) (by omega) (by omega)]) (by rw [h 236 (by omega) (by omega) (by omega) (by omega)]), aw_mono hA (by omega)⟩
theorem o_soonest {G x1 x2 : Int} {I : Mm} {Q : Mm → Prop} (hI : Inv G I) (hG : G ≤ 2143000000) (hQ : ∀ I' : Mm, Inv (G + 3000000) I' → Q I') : V_X_soonest x1 x2 I (fun z I1 => V_M_soonest x1 x2 I1 (fun z' I2 => (z = z' → Q I2) ∧ (¬ z = z' → False))) := by
  obtain ⟨M, u, H, k, S, l, T, hC, hR, hA⟩ := hI
  have hW := hA.1
  have b4 := hW.1.2.2.2.2.1
  have hg := wg_of hW
  have hM := hR.1
  refine x_soonest hC.1 hW (fun q => r_soonest hM b4 hg (fun _ => fin rfl (hQ _ (ask_end (P := M) (F := M) hC hR hA (fun a _ _ _ _ => rfl)))) (fun w => absurd w q)) (fun hx P hP => r_soonest (by rw [cst_n (by decide)]; exact hM) b4 hg (fun w => absurd hx w) (fun _ F f1 f2 f3 => ?_))
  have hd := dual hg (show 0 ≤ x2 ∧ x2 < 16 by omega) hP f1 f2 f3
  have hi : Q (cset 245 (cset 38 I P) F) := hQ _ (ask_end (P := M) (F := M) hC hR hA (fun a p q _ _ => by rw [cst_n q, cst_n p]))
  by_cases w : leaR M P x1 (M 5).toNat = 2000000000
  · rw [if_pos w, if_pos (hd.1 w)]
    exact fin rfl hi
  · have := hd.2 w
    rw [if_neg w, if_neg (by omega)]
    exact fin this.2.symm hi
theorem o_leads {G x1 x2 : Int} {I : Mm} {Q : Mm → Prop} (hI : Inv G I) (hG : G ≤ 2143000000) (hQ : ∀ I' : Mm, Inv (G + 3000000) I' → Q I') : V_X_leads x1 x2 I (fun z I1 => V_M_leads x1 x2 I1 (fun z' I2 => (z = z' → Q I2) ∧ (¬ z = z' → False))) := by
  obtain ⟨M, u, H, k, S, l, T, hC, hR, hA⟩ := hI
  have hW := hA.1
  have b4 := hW.1.2.2.2.2.1
  have hg := wg_of hW
  have hn := hg.1
  have hM := hR.1
  unfold V_X_leads
  refine x_soonest hC.1 hW (fun q => ⟨fun w => absurd rfl w, fun _ => r_leads hM b4 hg (fun _ => fin rfl (hQ _ (ask_end (P := M) (F := M) hC hR hA (fun a _ _ _ _ => rfl)))) (fun w => absurd w q)⟩) (fun hx P hP => ?_)
  have h1 := (lst_is (x := x1) hg hP (M 5).toNat (by omega)).1
  have ref : ∀ z : Int, (leaR M P x1 (M 5).toNat = 2000000000 → z = 0) → (leaR M P x1 (M 5).toNat ≠ 2000000000 → z = 1) → V_M_leads x1 x2 (cset 38 I P) (fun z' I2 => (z = z' → Q I2) ∧ (¬ z = z' → False)) := fun z z1 z2 => by
    refine r_leads (by rw [cst_n (by decide)]; exact hM) b4 hg (fun w => absurd hx w) (fun _ F f1 f2 f3 => ?_)
    have hd := dual hg (show 0 ≤ x2 ∧ x2 < 16 by omega) hP f1 f2 f3
    have hi : Q (cset 245 (cset 38 I P) F) := hQ _ (ask_end (P := M) (F := M) hC hR hA (fun a p q _ _ => by rw [cst_n q, cst_n p]))
    by_cases w : leaR M P x1 (M 5).toNat = 2000000000
    · rw [if_pos (hd.1 w)]
      exact fin (z1 w) hi
    · have := hd.2 w
      rw [if_neg (by omega)]
      exact fin (z2 w) hi
  by_cases w : leaR M P x1 (M 5).toNat = 2000000000
  · rw [if_pos w]
    exact ⟨fun _ => ⟨fun q => absurd rfl q, fun _ => ref 0 (fun _ => rfl) (fun q => absurd w q)⟩, fun q => absurd q (by decide)⟩
  · rw [if_neg w]
    exact ⟨fun _ => ⟨fun _ => ref 1 (fun q => absurd q w) (fun _ => rfl), fun q => by omega⟩, fun q => by omega⟩
