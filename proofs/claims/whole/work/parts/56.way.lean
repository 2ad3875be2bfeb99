/-! way -/
def cs2 (I : Mm) (h r : Rw) : Mm := cset 249 (cset 248 I h) r
theorem cs2_8 (I : Mm) (h r : Rw) : cs2 I h r 248 = h := by unfold cs2; rw [cst_n (by decide), cst_s]
theorem cs2_9 (I : Mm) (h r : Rw) : cs2 I h r 249 = r := by unfold cs2; rw [cst_s]
theorem cs2_o {I : Mm} {h r : Rw} {a : Int} (p : a ≠ 248) (q : a ≠ 249) : cs2 I h r a = I a := by unfold cs2; rw [cst_n q, cst_n p]
theorem wr_cs2 (I : Mm) (h r : Rw) (a x y : Int) : wrM (wrM (cs2 I h r) 248 a x) 249 a y = cs2 I (stR h a x) (stR r a y) := by
  funext b j
  by_cases p : b = 249
  · subst p
    rw [cs2_9]
    unfold wrM stR
    by_cases q : j = a
    · simp [q]
    · simp [q, cs2_9]
  · by_cases p2 : b = 248
    · subst p2
      rw [cs2_8, wr_oth _ (by decide)]
      unfold wrM stR
      by_cases q : j = a
      · simp [q]
      · simp [q, cs2_8]
    · rw [wr_oth _ p, wr_oth _ p2, cs2_o p2 p, cs2_o p2 p]
abbrev lx (a b c d : Int) : Prop := a < c ∨ a = c ∧ b ≤ d
def rsh (o : Int) (h : Rw) (k : Int) : Int := if k = o then 0 else h k
def HB (h r : Rw) : Prop := ∀ k : Int, 0 ≤ k → k < 16 → h k < 0 ∨ 1 ≤ r k ∧ r k ≤ h k ∧ h k ≤ 999999 * cF h
def HSu (M : Rw) (o : Int) (h r : Rw) : Prop := ∀ k : Int, 0 ≤ k → k < 16 → 0 ≤ h k → ∃ i : Int, 0 ≤ i ∧ i < M 5 ∧ ra M i = k ∧ 0 ≤ rsh o h (rb M i) ∧ lx (rg M i + rsh o h (rb M i)) (1 + rsh o r (rb M i)) (h k) (r k)
def HCl (M : Rw) (o : Int) (h r : Rw) (n : Int) : Prop := ∀ i : Int, 0 ≤ i → i < n → 0 ≤ rsh o h (rb M i) → 0 ≤ h (ra M i) ∧ lx (h (ra M i)) (r (ra M i)) (rg M i + rsh o h (rb M i)) (1 + rsh o r (rb M i))
def mH (h r : Rw) (k : Int) : Int := if h k < 0 then 1000000000000000000 else h k * 33554432 + r k
def meH (h r : Rw) : Int := sumI (mH h r) 16
theorem meH_nn {h r : Rw} (hB : HB h r) : 0 ≤ meH h r := sumI_nn _ 16 (fun k a b => by
  have := hB k a (by omega)
  unfold mH
  split <;> omega)
theorem goes_ok {M h r : Rw} {o i : Int} (hG : WG M) (hB : HB h r) (hS : HSu M o h r) (a : 0 ≤ i) (b : i < M 5) (w : 0 ≤ rsh o h (rb M i)) (imp : h (ra M i) < 0 ∨ rg M i + rsh o h (rb M i) < h (ra M i) ∨ rg M i + rsh o h (rb M i) = h (ra M i) ∧ 1 + rsh o r (rb M i) < r (ra M i)) : HB (stR h (ra M i) (rg M i + rsh o h (rb M i))) (stR r (ra M i) (1 + rsh o r (rb M i))) ∧ HSu M o (stR h (ra M i) (rg M i + rsh o h (rb M i))) (stR r (ra M i) (1 + rsh o r (rb M i))) ∧ meH (stR h (ra M i) (rg M i + rsh o h (rb M i))) (stR r (ra M i) (1 + rsh o r (rb M i))) < meH h r := by
  have g := hG.2 i a b
  have hba := hB (ra M i) g.1.1 g.1.2
  have hbb := hB (rb M i) g.2.1.1 g.2.1.2
  have hcr := cF_rng h
  have hH : 1 ≤ 1 + rsh o r (rb M i) ∧ 1 + rsh o r (rb M i) ≤ rg M i + rsh o h (rb M i) ∧ rg M i + rsh o h (rb M i) ≤ 999999 * cF h + 999999 := by
    unfold rsh at w ⊢
    by_cases q : rb M i = o
    · rw [if_pos q, if_pos q]; omega
    · rw [if_neg q] at w
      rw [if_neg q, if_neg q]; omega
  have hself : ra M i = rb M i → rb M i = o := fun e => by
    by_cases q : rb M i = o
    · exact q
    · have e1 : rsh o h (rb M i) = h (rb M i) := by unfold rsh; rw [if_neg q]
      rw [e1, ← e] at w imp
      omega
  generalize eH : rg M i + rsh o h (rb M i) = H at *
  generalize eR : 1 + rsh o r (rb M i) = R at *
  generalize ea : ra M i = z at *
  have hc : cF h ≤ cF (stR h z H) := cntB_sub _ _ 16 (fun k _ _ q => by
    have q2 := of_decide_eq_true q
    by_cases w : k = z
    · exact decide_eq_true (by rw [w, st_s]; omega)
    · exact decide_eq_true (by rw [st_ne w]; exact q2))
  refine ⟨fun k x y => ?_, fun k x y fi => ?_, ?_⟩
  · by_cases q : k = z
    · rw [q, st_s, st_s]
      by_cases q2 : h z < 0
      · have hc2 : cF h + 1 ≤ cF (stR h z H) := cntB_ssub _ _ 16 (fun k _ _ q => by
          have q2 := of_decide_eq_true q
          by_cases w : k = z
          · exact decide_eq_true (by rw [w, st_s]; omega)
          · exact decide_eq_true (by rw [st_ne w]; exact q2)) z g.1.1 g.1.2 (decide_eq_false (by omega)) (decide_eq_true (by rw [st_s]; omega))
        omega
      · omega
    · rw [st_ne q, st_ne q]
      have := hB k x y
      omega
  · by_cases q : k = z
    · rw [q, st_s, st_s]
      refine ⟨i, a, b, ea, ?_⟩
      have e1 : rsh o (stR h z H) (rb M i) = rsh o h (rb M i) := by
        unfold rsh
        by_cases q2 : rb M i = o
        · rw [if_pos q2, if_pos q2]
        · rw [if_neg q2, if_neg q2, st_ne (fun q3 => q2 (hself q3.symm))]
      have e2 : rsh o (stR r z R) (rb M i) = rsh o r (rb M i) := by
        unfold rsh
        by_cases q2 : rb M i = o
        · rw [if_pos q2, if_pos q2]
        · rw [if_neg q2, if_neg q2, st_ne (fun q3 => q2 (hself q3.symm))]
      rw [e1, e2, eH, eR]
      exact ⟨w, .inr ⟨rfl, Int.le_refl _⟩⟩
    · rw [st_ne q] at fi
      rw [st_ne q, st_ne q]
      obtain ⟨i', r1, r2, r3, r4, r5⟩ := hS k x y fi
      refine ⟨i', r1, r2, r3, ?_⟩
      by_cases q2 : rb M i' = o
      · have e1 : ∀ v : Rw, rsh o v (rb M i') = 0 := fun v => by unfold rsh; rw [if_pos q2]
        rw [e1, e1] at r5 ⊢
        exact ⟨Int.le_refl _, r5⟩
      · have e1 : ∀ v : Rw, rsh o v (rb M i') = v (rb M i') := fun v => by unfold rsh; rw [if_neg q2]
        rw [e1] at r4
        rw [e1, e1] at r5 ⊢
        by_cases q3 : rb M i' = z
        · rw [q3] at r4 r5 ⊢
          rw [st_s, st_s]
          omega
        · rw [st_ne q3, st_ne q3]
          exact ⟨r4, r5⟩
  · refine sumI_lt _ _ 16 (fun k _ _ => ?_) z g.1.1 (by omega) ?_
    · unfold mH
      by_cases q : k = z
      · rw [q, st_s, st_s]
        split <;> split <;> omega
      · rw [st_ne q, st_ne q]
        exact Int.le_refl _
    · unfold mH
      rw [st_s, st_s]
      split <;> split <;> omega
theorem m_restH {y o : Int} {I : Mm} {h r : Rw} {Q : Int → Mm → Prop} (hy : 0 ≤ y ∧ y < 16) (hQ : Q (rsh o h y) (cs2 I h r)) : V_M_restHours y o (cs2 I h r) Q := by
  unfold rsh at hQ
  unfold V_M_restHours
  rw [cs2_8]
  refine ⟨fun q => ⟨hy, ?_⟩, fun q => ?_⟩
  · rw [if_neg q] at hQ; exact hQ
  · rw [if_pos q] at hQ; exact hQ
theorem m_restR {y o : Int} {I : Mm} {h r : Rw} {Q : Int → Mm → Prop} (hy : 0 ≤ y ∧ y < 16) (hQ : Q (rsh o r y) (cs2 I h r)) : V_M_restRules y o (cs2 I h r) Q := by
  unfold rsh at hQ
  unfold V_M_restRules
  rw [cs2_9]
  refine ⟨fun q => ⟨hy, ?_⟩, fun q => ?_⟩
  · rw [if_neg q] at hQ; exact hQ
  · rw [if_pos q] at hQ; exact hQ
theorem rs_up {h r : Rw} {o k : Int} (hB : HB h r) (a : 0 ≤ k) (b : k < 16) (w : 0 ≤ rsh o h k) : 0 ≤ rsh o r k ∧ rsh o r k ≤ rsh o h k ∧ rsh o h k ≤ 15999984 := by
  have h1 := hB k a b
  have h2 := cF_rng h
  unfold rsh at w ⊢
  by_cases q : k = o
  · rw [if_pos q, if_pos q]; omega
  · rw [if_neg q] at w
    rw [if_neg q, if_neg q]; omega
theorem m_goesBy {o i : Int} {I : Mm} {M h r : Rw} {Q : Int → Mm → Prop} (hM : I 237 = M) (hG : WG M) (hB : HB h r) (a : 0 ≤ i) (b : i < M 5) (h1 : 0 ≤ rsh o h (rb M i) → (h (ra M i) < 0 ∨ rg M i + rsh o h (rb M i) < h (ra M i) ∨ rg M i + rsh o h (rb M i) = h (ra M i) ∧ 1 + rsh o r (rb M i) < r (ra M i)) → Q 1 (cs2 I (stR h (ra M i) (rg M i + rsh o h (rb M i))) (stR r (ra M i) (1 + rsh o r (rb M i))))) (h0 : (0 ≤ rsh o h (rb M i) → 0 ≤ h (ra M i) ∧ lx (h (ra M i)) (r (ra M i)) (rg M i + rsh o h (rb M i)) (1 + rsh o r (rb M i))) → Q 0 (cs2 I h r)) : V_M_goesBy i o (cs2 I h r) Q := by
  have g := hG.2 i a b
  have hn := hG.1
  have e37 : cs2 I h r 237 = M := by rw [cs2_o (by decide) (by decide)]; exact hM
  unfold V_M_goesBy
  rw [e37]
  refine ⟨by omega, by omega, ?_⟩
  intro y23 e23
  have e23' : y23 = rb M i := e23
  subst e23'
  refine m_restH g.2.1 ⟨fun w => ⟨by omega, ?_⟩, fun w => h0 (fun q => by omega)⟩
  rw [e37]
  intro y27 e27
  have e27' : y27 = rg M i + rsh o h (rb M i) := e27
  have u := rs_up hB g.2.1.1 g.2.1.2 w
  have h1' := h1 w
  refine m_restR g.2.1 ?_
  rw [cs2_8, cs2_9]
  have ga : 0 ≤ M (144 + 3 * i) ∧ M (144 + 3 * i) < 16 := g.1
  rw [wr_cs2, e27']
  refine ⟨ga, fun q => ⟨ga, by omega, ga, by omega, h1' (.inl q)⟩, fun q => ⟨ga, by omega, fun q2 => h0 (fun _ => ⟨q, .inl q2⟩), fun q2 => ⟨ga, fun q3 => ⟨ga, ga, by omega, h1' (.inr (.inl (by have : rg M i + rsh o h (rb M i) ≤ h (ra M i) := q2; have : ¬ rg M i + rsh o h (rb M i) = h (ra M i) := q3; omega)))⟩, fun q3 => ⟨ga, by omega, fun q4 => ⟨ga, ga, h1' (.inr (.inr ⟨q3, q4⟩))⟩, fun q4 => h0 (fun _ => ⟨q, .inr ⟨q3.symm, q4⟩⟩)⟩⟩⟩⟩
theorem m_way61 {x1 o x3 : Int} {I : Mm} {M h r : Rw} {Q : Int → Mm → Prop} {K : Int → Mm → Prop} (hM : I 237 = M) (hG : WG M) (hB : HB h r) (hS : HSu M o h r) (h0 : HCl M o h r (M 5) → K 0 (cs2 I h r)) (h1 : ∀ h' r' : Rw, HB h' r' → HSu M o h' r' → meH h' r' < meH h r → K 1 (cs2 I h' r')) : ∃ f, L_M_way_61 x1 o x3 Q K f 0 0 (cs2 I h r) := by
  have hn := hG.1
  have hM2 : ∀ h' r' : Rw, cs2 I h' r' 237 = M := fun h' r' => by rw [cs2_o (by decide) (by decide)]; exact hM
  refine lps (σ := Int × Mm) (P := fun f i s => L_M_way_61 x1 o x3 Q K f s.1 (i : Int) s.2) (S := fun i s => ∃ h' r' : Rw, s.2 = cs2 I h' r' ∧ HB h' r' ∧ HSu M o h' r' ∧ (s.1 = 0 ∧ h' = h ∧ r' = r ∧ HCl M o h r (i : Int) ∨ s.1 = 1 ∧ meH h' r' < meH h r)) (s := (0, cs2 I h r)) (M 5).toNat ⟨h, r, rfl, hB, hS, .inl ⟨rfl, rfl, rfl, fun r a b => by omega⟩⟩ ?_ ?_
  · rintro n ⟨x4, I1⟩ ⟨h', r', rfl, b1, s1, hor⟩
    dsimp only at hor ⊢
    unfold L_M_way_61
    rw [hM2]
    refine ⟨fun _ => ?_, fun q => by omega⟩
    rcases hor with ⟨z, e, e2, c⟩ | ⟨z, c⟩
    · subst e e2
      rw [z]
      exact h0 (fun r a b => c r a (by omega))
    · rw [z]
      exact h1 h' r' b1 s1 c
  · rintro i n ⟨x4, I1⟩ hi ⟨h', r', rfl, b1, s1, hor⟩ ih
    dsimp only at hor ⊢
    have ih' : ∀ (y : Int) (h2 r2 : Rw), HB h2 r2 → HSu M o h2 r2 → (y = 0 ∧ h2 = h ∧ r2 = r ∧ HCl M o h r ((i + 1 : Nat) : Int) ∨ y = 1 ∧ meH h2 r2 < meH h r) → L_M_way_61 x1 o x3 Q K n y ((i : Int) + 1) (cs2 I h2 r2) := fun y h2 r2 p1 p2 p3 => ih (y, cs2 I h2 r2) ⟨h2, r2, rfl, p1, p2, p3⟩
    have hle : meH h' r' ≤ meH h r := by
      rcases hor with ⟨z, e, e2, c⟩ | ⟨z, c⟩
      · rw [e, e2]; exact Int.le_refl _
      · omega
    unfold L_M_way_61
    rw [hM2]
    refine ⟨fun q => by omega, fun _ => m_goesBy hM hG b1 (by omega) (by omega) (fun w imp => ⟨fun _ => ⟨by omega, ?_⟩, fun w => absurd w (by decide)⟩) (fun cl => ⟨fun w => absurd rfl w, fun _ => ⟨fun z => ⟨by omega, ?_⟩, fun z => ⟨by omega, ?_⟩⟩⟩)⟩
    · obtain ⟨n1, n2, n3⟩ := goes_ok hG b1 s1 (by omega) (by omega) w imp
      exact ih' 1 _ _ n1 n2 (.inr ⟨rfl, by omega⟩)
    · refine ih' 0 h' r' b1 s1 ?_
      rcases hor with ⟨z, e, e2, c⟩ | ⟨z2, c⟩
      · subst e e2
        refine .inl ⟨rfl, rfl, rfl, fun r a b => ?_⟩
        by_cases q : r = (i : Int)
        · rw [q]; exact cl
        · exact c r a (by omega)
      · omega
    · refine ih' 1 h' r' b1 s1 (.inr ⟨rfl, ?_⟩)
      rcases hor with ⟨z2, e, e2, c⟩ | ⟨z2, c⟩
      · exact absurd z2 z
      · exact c
theorem m_way50 {x1 o x3 : Int} {I : Mm} {M : Rw} {Q : Int → Mm → Prop} {K : Mm → Prop} (hM : I 237 = M) (hG : WG M) (hQ : ∀ h r : Rw, HB h r → HSu M o h r → HCl M o h r (M 5) → K (cs2 I h r)) (n : Nat) : ∀ h r : Rw, HB h r → HSu M o h r → meH h r + 1 < n → L_M_way_50 x1 o x3 Q K n 1 (cs2 I h r) := by
  induction n with
  | zero =>
    intro h r hB _ w
    have := meH_nn hB
    omega
  | succ n ih =>
    intro h r hB hS w
    have := meH_nn hB
    obtain ⟨m, rfl⟩ : ∃ m, n = m + 1 := ⟨n - 1, by omega⟩
    unfold L_M_way_50
    refine ⟨fun q => absurd q (by decide), fun _ => m_way61 hM hG hB hS (fun c => ?_) (fun h' r' b s d => ih h' r' b s (by omega))⟩
    unfold L_M_way_50
    exact ⟨fun _ => hQ h r hB hS c, fun q => absurd rfl q⟩
theorem m_way26 {x1 o x3 : Int} {I : Mm} {M : Rw} {Q : Int → Mm → Prop} {K : Mm → Prop} (hM : I 237 = M) (hG : WG M) (hQ : ∀ h r : Rw, HB h r → HSu M o h r → HCl M o h r (M 5) → K (cs2 I h r)) : ∃ f47 : Nat, L_M_way_26 x1 o x3 Q (fun I28 => ∃ f46 : Nat, L_M_way_50 x1 o x3 Q K f46 1 I28) f47 0 I := by
  have g : ∃ f, L_M_way_26 x1 o x3 Q (fun I28 => ∃ f46 : Nat, L_M_way_50 x1 o x3 Q K f46 1 I28) f ((0 : Nat) : Int) (cset 248 I (fun j => if 0 ≤ j ∧ j < ((0 : Nat) : Int) then -1 else I 248 j)) := by
    refine lp (P := fun f i => L_M_way_26 x1 o x3 Q (fun I28 => ∃ f46 : Nat, L_M_way_50 x1 o x3 Q K f46 1 I28) f (i : Int) (cset 248 I (fun j => if 0 ≤ j ∧ j < (i : Int) then -1 else I 248 j))) 16 (fun f => ?_) (fun i f hi ih => ?_)
    · unfold L_M_way_26
      refine ⟨fun _ => ?_, fun q => absurd q (by decide)⟩
      have hneg : ∀ k : Int, 0 ≤ k → k < 16 → (fun j => if 0 ≤ j ∧ j < ((16 : Nat) : Int) then -1 else I 248 j) k = -1 := fun k a b => if_pos ⟨a, b⟩
      generalize (fun j => if 0 ≤ j ∧ j < ((16 : Nat) : Int) then -1 else I 248 j) = F at hneg ⊢
      have hB : HB F (I 249) := fun k a b => .inl (by rw [hneg k a b]; decide)
      have hS : HSu M o F (I 249) := fun k a b w => by rw [hneg k a b] at w; omega
      have e : cset 248 I F = cs2 I F (I 249) := by
        unfold cs2
        have : cset 248 I F 249 = I 249 := cst_n (by decide)
        rw [← this, cst_id]
      rw [e]
      exact ⟨(meH F (I 249) + 2).toNat, m_way50 hM hG hQ _ F (I 249) hB hS (by have := meH_nn hB; omega)⟩
    · have e : wrM (cset 248 I (fun j => if 0 ≤ j ∧ j < (i : Int) then -1 else I 248 j)) 248 (i : Int) (-1) = cset 248 I (fun j => if 0 ≤ j ∧ j < ((i + 1 : Nat) : Int) then -1 else I 248 j) := by
        rw [wr_cst, cst_s, cst_cst]
        congr 1
        funext y
        unfold stR
        dsimp only
        by_cases q : y = (i : Int)
        · rw [if_pos q, if_pos (show 0 ≤ y ∧ y < ((i + 1 : Nat) : Int) by omega)]
        · rw [if_neg q]
          by_cases q2 : 0 ≤ y ∧ y < (i : Int)
          · rw [if_pos q2, if_pos (show 0 ≤ y ∧ y < ((i + 1 : Nat) : Int) by omega)]
          · rw [if_neg q2, if_neg (show ¬ (0 ≤ y ∧ y < ((i + 1 : Nat) : Int)) by omega)]
      unfold L_M_way_26
      refine ⟨fun q => by omega, fun _ => ⟨by omega, by omega, ?_⟩⟩
      rw [e]
      exact ih
  have e0 : cset 248 I (fun j => if 0 ≤ j ∧ j < ((0 : Nat) : Int) then -1 else I 248 j) = I := by
    have : (fun j => if 0 ≤ j ∧ j < ((0 : Nat) : Int) then -1 else I 248 j) = I 248 := by
      funext j
      rw [if_neg (by omega)]
    rw [this, cst_id]
  rw [e0] at g
  exact g
/-- the two kinds of price agree -/
theorem way_eq {M P h r : Rw} {o : Int} (hG : WG M) (ho : 0 ≤ o ∧ o < 16) (hP : FX M o P) (hB : HB h r) (hS : HSu M o h r) (hC : HCl M o h r (M 5)) : (∀ k : Int, 0 ≤ k → k < 16 → (P k = 2000000000 ∧ rsh o h k < 0 ∨ 0 ≤ P k ∧ P k < 2000000000 ∧ rsh o h k = P k / 32 ∧ rsh o r k = P k % 32)) ∧ ∀ x : Int, 0 ≤ x → x < 16 → (leaR M P x (M 5).toNat = 2000000000 ∧ h x < 0 ∨ 0 ≤ leaR M P x (M 5).toNat ∧ leaR M P x (M 5).toNat < 2000000000 ∧ h x = leaR M P x (M 5).toNat / 32 ∧ r x = leaR M P x (M 5).toNat % 32) := by
  have hn := hG.1
  obtain ⟨p0, pB, pS, pC⟩ := hP
  have ro : ∀ v : Rw, rsh o v o = 0 := fun v => by unfold rsh; rw [if_pos rfl]
  have rn : ∀ (v : Rw) (k : Int), k ≠ o → rsh o v k = v k := fun v k q => by unfold rsh; rw [if_neg q]
  have cA : ∀ (s : Nat) (k : Int), 0 ≤ k → k < 16 → 0 ≤ rsh o h k → rsh o h k ≤ s → P k < 2000000000 ∧ lx (P k / 32) (P k % 32) (rsh o h k) (rsh o r k) := by
    intro s
    induction s with
    | zero =>
      intro k a b f q
      have hk := hB k a b
      by_cases w : k = o
      · rw [w, p0, ro, ro]; exact ⟨by decide, .inr ⟨rfl, Int.le_refl _⟩⟩
      · rw [rn h k w] at f q; omega
    | succ s ih =>
      intro k a b f q
      have hk := hB k a b
      by_cases w : k = o
      · rw [w, p0, ro, ro]; exact ⟨by decide, .inr ⟨rfl, Int.le_refl _⟩⟩
      · rw [rn h k w] at f q ⊢
        rw [rn r k w]
        obtain ⟨i, i1, i2, i3, i4, i5⟩ := hS k a b f
        have g := hG.2 i i1 i2
        have h1 := ih (rb M i) g.2.1.1 g.2.1.2 i4 (by omega)
        have h2 := pC i i1 i2 h1.1
        have h3 := (pB (rb M i) g.2.1.1 g.2.1.2).2.2 h1.1
        have h4 := (pB (rb M i) g.2.1.1 g.2.1.2).1
        have h5 := (pB k a b).1
        rw [i3] at h2
        omega
  have cB : ∀ (s : Nat) (k : Int), 0 ≤ k → k < 16 → P k < 2000000000 → P k ≤ s → 0 ≤ rsh o h k ∧ lx (rsh o h k) (rsh o r k) (P k / 32) (P k % 32) := by
    intro s
    induction s with
    | zero =>
      intro k a b f q
      have hk := pB k a b
      by_cases w : k = o
      · rw [w, p0, ro, ro]; exact ⟨Int.le_refl _, .inr ⟨rfl, Int.le_refl _⟩⟩
      · obtain ⟨i, i1, i2, i3, i4, i5⟩ := pS k a b w f
        have g := hG.2 i i1 i2
        have := pB (rb M i) g.2.1.1 g.2.1.2
        omega
    | succ s ih =>
      intro k a b f q
      have hk := pB k a b
      by_cases w : k = o
      · rw [w, p0, ro, ro]; exact ⟨Int.le_refl _, .inr ⟨rfl, Int.le_refl _⟩⟩
      · obtain ⟨i, i1, i2, i3, i4, i5⟩ := pS k a b w f
        have g := hG.2 i i1 i2
        have hb := pB (rb M i) g.2.1.1 g.2.1.2
        have h1 := ih (rb M i) g.2.1.1 g.2.1.2 i4 (by omega)
        have h2 := hC i i1 i2 h1.1
        have h3 := hb.2.2 i4
        rw [i3] at h2
        rw [rn h k w, rn r k w]
        omega
  have eq : ∀ k : Int, 0 ≤ k → k < 16 → (P k = 2000000000 ∧ rsh o h k < 0 ∨ 0 ≤ P k ∧ P k < 2000000000 ∧ rsh o h k = P k / 32 ∧ rsh o r k = P k % 32) := fun k a b => by
    have hk := pB k a b
    by_cases w : P k < 2000000000
    · have h1 := cB (P k).toNat k a b w (by omega)
      have h2 := cA (rsh o h k).toNat k a b h1.1 (by omega)
      omega
    · by_cases w2 : 0 ≤ rsh o h k
      · have h2 := cA (rsh o h k).toNat k a b w2 (by omega)
        omega
      · omega
  refine ⟨eq, fun x a b => ?_⟩
  obtain ⟨l1, l2⟩ := lst_is (x := x) hG ⟨p0, pB, pS, pC⟩ (M 5).toNat (by omega)
  generalize leaR M P x (M 5).toNat = L at l1 l2 ⊢
  have up : 0 ≤ h x → 0 ≤ L ∧ L < 2000000000 ∧ lx (L / 32) (L % 32) (h x) (r x) := fun f => by
    obtain ⟨i, i1, i2, i3, i4, i5⟩ := hS x a b f
    have g := hG.2 i i1 i2
    have h1 := eq (rb M i) g.2.1.1 g.2.1.2
    have h2 := l2 i i1 (by omega) i3 (by omega)
    have h3 := (pB (rb M i) g.2.1.1 g.2.1.2).2.2 (by omega)
    omega
  rcases l1 with l1 | ⟨l1, l3, i, i1, i2, i3, i4, i5⟩
  · by_cases f : 0 ≤ h x
    · have := up f; omega
    · exact .inl ⟨l1, by omega⟩
  · have g := hG.2 i i1 (by omega)
    have h1 := eq (rb M i) g.2.1.1 g.2.1.2
    have h2 := hC i i1 (by omega) (by omega)
    have h3 := (pB (rb M i) g.2.1.1 g.2.1.2).2.2 i4
    rw [i3] at h2
    have := up h2.1
    omega
theorem fst_cong (p q : Int → Bool) : ∀ n : Nat, (∀ k : Int, 0 ≤ k → k < n → p k = q k) → fstB p n = fstB q n := by
  intro n h
  have f1 := fstB_is p n
  have f2 := fstB_is q n
  rcases f1 with ⟨a1, a2⟩ | ⟨a1, a2, a3⟩ <;> rcases f2 with ⟨b1, b2⟩ | ⟨b1, b2, b3⟩
  · omega
  · exact absurd (a2 _ b1.1 b1.2) (by rw [h _ b1.1 b1.2, b2]; decide)
  · exact absurd (b2 _ a1.1 a1.2) (by rw [← h _ a1.1 a1.2, a2]; decide)
  · by_cases w : fstB p n < fstB q n
    · exact absurd (b3 _ a1.1 w) (by rw [← h _ a1.1 a1.2, a2]; decide)
    · by_cases w2 : fstB q n < fstB p n
      · exact absurd (a3 _ b1.1 w2) (by rw [h _ b1.1 b1.2, b2]; decide)
      · omega
/-- the reference's next rule -/
def wrp (M : Rw) (o : Int) (h r : Rw) (from' : Int) (i : Int) : Bool := decide (ra M i = from' ∧ 0 ≤ rsh o h (rb M i) ∧ rg M i + rsh o h (rb M i) = h from' ∧ 1 + rsh o r (rb M i) = r from')
def wnx (M : Rw) (o : Int) (h r : Rw) (from' : Int) : Int := fstB (wrp M o h r from') (M 5).toNat
theorem m_wayRule {x o : Int} {I : Mm} {M h r : Rw} {Q : Int → Mm → Prop} (hM : I 237 = M) (hG : WG M) (hB : HB h r) (hx : 0 ≤ x ∧ x < 16) (hQ : Q (wnx M o h r x) (cs2 I h r)) : V_M_wayRule x o (cs2 I h r) Q := by
  have hn := hG.1
  have e37 : cs2 I h r 237 = M := by rw [cs2_o (by decide) (by decide)]; exact hM
  unfold V_M_wayRule
  refine lp_first (P := fun f i => L_M_wayRule_2 x o Q f (i : Int) (cs2 I h r)) (wrp M o h r x) (M 5).toNat (fun hall f => ?_) (fun i f hi hi2 hb => ?_) (fun i f hi hb ih => ?_)
  · unfold L_M_wayRule_2
    rw [e37]
    refine ⟨fun _ => ?_, fun q => by omega⟩
    have e : wnx M o h r x = -1 := by
      rcases fstB_is (wrp M o h r x) (M 5).toNat with ⟨h1, -⟩ | ⟨h1, h2, -⟩
      · exact h1
      · exact absurd (hall _ h1.1 h1.2) (by rw [h2]; decide)
    rw [e] at hQ
    exact hQ
  · have hb' := of_decide_eq_true hb
    have g := hG.2 (i : Int) (by omega) (by omega)
    have e : wnx M o h r x = (i : Int) := hi.symm
    have u := rs_up hB g.2.1.1 g.2.1.2 hb'.2.1
    rw [e] at hQ
    unfold L_M_wayRule_2
    rw [e37]
    refine ⟨fun q => by omega, fun _ => ⟨by omega, ?_⟩⟩
    intro y e22
    have e22' : y = rb M (i : Int) := e22
    subst e22'
    refine ⟨by omega, fun w => absurd hb'.1 w, fun _ => m_restH g.2.1 ⟨fun _ => ⟨by omega, m_restH g.2.1 ?_⟩, fun w => by omega⟩⟩
    rw [e37, cs2_8]
    refine ⟨hx, by show r32 (rg M (i : Int) + _); omega, fun w => absurd hb'.2.2.1 w, fun _ => m_restR g.2.1 ?_⟩
    rw [cs2_9]
    exact ⟨hx, by omega, fun w => absurd hb'.2.2.2 w, fun _ => hQ⟩
  · have hb' := of_decide_eq_false hb
    have g := hG.2 (i : Int) (by omega) (by omega)
    unfold L_M_wayRule_2
    rw [e37]
    refine ⟨fun q => by omega, fun _ => ⟨by omega, ?_⟩⟩
    intro y e22
    have e22' : y = rb M (i : Int) := e22
    subst e22'
    refine ⟨by omega, fun w => ⟨by omega, ih⟩, fun z => m_restH g.2.1 ⟨fun z2 => ⟨by omega, m_restH g.2.1 ?_⟩, fun w => ⟨by omega, ih⟩⟩⟩
    have u := rs_up hB g.2.1.1 g.2.1.2 z2
    rw [e37, cs2_8]
    refine ⟨hx, by show r32 (rg M (i : Int) + _); omega, fun w => ⟨by omega, ih⟩, fun z3 => m_restR g.2.1 ?_⟩
    rw [cs2_9]
    exact ⟨hx, by omega, fun w => ⟨by omega, ih⟩, fun z4 => absurd ⟨z, z2, z3, z4⟩ hb'⟩
def rop (M P : Rw) (x left : Int) (i : Int) : Bool := decide (ra M i = x ∧ pbR M P i = left)
theorem s_ruleOfPrice {c x left o : Int} {I : Mm} {M P : Rw} {Q : Int → Mm → Prop} (hR : RRu I c M) (hc : 0 ≤ c ∧ c < 30) (hG : WG M) (hP : FX M o P) (hQ : Q (fstB (rop M P x left) (M 5).toNat) (cset 38 I P)) : V_Wa_ruleOfPrice c x left (cset 38 I P) Q := by
  have hn := hG.1
  have hru : RRu (cset 38 I P) c M := ru_cst hR (by omega)
  have n0 : cset 38 I P c 0 = M 5 := hru.1
  unfold V_Wa_ruleOfPrice
  refine lp_first (P := fun f i => L_Wa_ruleOfPrice_3 c x left Q f (i : Int) (cset 38 I P)) (rop M P x left) (M 5).toNat (fun hall f => ?_) (fun i f hi hi2 hb => ?_) (fun i f hi hb ih => ?_)
  · unfold L_Wa_ruleOfPrice_3
    rw [n0]
    refine ⟨fun _ => ?_, fun q => by omega⟩
    have e : fstB (rop M P x left) (M 5).toNat = -1 := by
      rcases fstB_is (rop M P x left) (M 5).toNat with ⟨h1, -⟩ | ⟨h1, h2, -⟩
      · exact h1
      · exact absurd (hall _ h1.1 h1.2) (by rw [h2]; decide)
    rw [e] at hQ
    exact hQ
  · have hb' := of_decide_eq_true hb
    have g := hG.2 (i : Int) (by omega) (by omega)
    have ea : cset 38 I P (c + 1) (i : Int) = ra M (i : Int) := (hru.2 (i : Int) (by omega) (by omega)).1
    rw [← hi] at hQ
    unfold L_Wa_ruleOfPrice_3
    rw [n0, ea]
    refine ⟨fun q => by omega, fun _ => ⟨by omega, fun w => absurd hb'.1 w, fun _ => s_priceBy hru hG (by omega) (by omega) (by rw [cst_s]; exact fx_or hP g.2.1.1 g.2.1.2) ?_⟩⟩
    rw [cst_s]
    exact ⟨fun w => absurd hb'.2 w, fun _ => hQ⟩
  · have hb' := of_decide_eq_false hb
    have g := hG.2 (i : Int) (by omega) (by omega)
    have ea : cset 38 I P (c + 1) (i : Int) = ra M (i : Int) := (hru.2 (i : Int) (by omega) (by omega)).1
    unfold L_Wa_ruleOfPrice_3
    rw [n0, ea]
    refine ⟨fun q => by omega, fun _ => ⟨by omega, fun w => ⟨by omega, ih⟩, fun z => s_priceBy hru hG (by omega) (by omega) (by rw [cst_s]; exact fx_or hP g.2.1.1 g.2.1.2) ?_⟩⟩
    rw [cst_s]
    exact ⟨fun w => ⟨by omega, ih⟩, fun w => absurd ⟨z, w⟩ hb'⟩
/-- from here (a name, and what is left of the price) both sides go by the same rule -/
theorem way_step {M P h r : Rw} {o x left : Int} (hG : WG M) (hP : FX M o P) (hS : HSu M o h r) (hC : HCl M o h r (M 5)) (hE : ∀ k : Int, 0 ≤ k → k < 16 → (P k = 2000000000 ∧ rsh o h k < 0 ∨ 0 ≤ P k ∧ P k < 2000000000 ∧ rsh o h k = P k / 32 ∧ rsh o r k = P k % 32)) (hx : 0 ≤ x ∧ x < 16) (hl : 0 ≤ left ∧ left < 2000000000) (h1 : h x = left / 32) (h2 : r x = left % 32) : (0 ≤ wnx M o h r x ∧ wnx M o h r x < M 5) ∧ P (rb M (wnx M o h r x)) < 2000000000 ∧ P (rb M (wnx M o h r x)) + (rg M (wnx M o h r x) * 32 + 1) = left ∧ fstB (rop M P x left) (M 5).toNat = wnx M o h r x := by
  have hn := hG.1
  have hc : ∀ k : Int, 0 ≤ k → k < ((M 5).toNat : Int) → rop M P x left k = wrp M o h r x k := fun k a b => by
    have g := hG.2 k a (by omega)
    have e := hE (rb M k) g.2.1.1 g.2.1.2
    have hb := hP.2.1 (rb M k) g.2.1.1 g.2.1.2
    unfold rop wrp pbR
    refine decide_eq_decide.2 ⟨fun w => ?_, fun w => ?_⟩
    · obtain ⟨w1, w2⟩ := w
      split at w2
      · omega
      · refine ⟨w1, by omega, by omega, by omega⟩
    · obtain ⟨w1, w2, w3, w4⟩ := w
      refine ⟨w1, ?_⟩
      rw [if_neg (by omega)]
      omega
  have he := fst_cong _ _ (M 5).toNat hc
  obtain ⟨i, i1, i2, i3, i4, i5⟩ := hS x hx.1 hx.2 (by omega)
  have h3 := hC i i1 i2 i4
  rw [i3] at h3
  rcases fstB_is (wrp M o h r x) (M 5).toNat with ⟨f1, f2⟩ | ⟨f1, f2, -⟩
  · exact absurd (f2 i i1 (by omega)) (by
      have : wrp M o h r x i = true := decide_eq_true ⟨i3, i4, by omega, by omega⟩
      rw [this]; decide)
  · have f3 : rop M P x left (wnx M o h r x) = true := (hc (wnx M o h r x) f1.1 f1.2).trans f2
    have f4 := (of_decide_eq_true f3).2
    have g := hG.2 _ f1.1 (show fstB (wrp M o h r x) (M 5).toNat < M 5 by omega)
    have hb := hP.2.1 (rb M (wnx M o h r x)) g.2.1.1 g.2.1.2
    unfold pbR at f4
    refine ⟨⟨f1.1, by unfold wnx; omega⟩, ?_⟩
    split at f4
    · omega
    · exact ⟨by omega, f4, he⟩
def frS (M : Rw) (o : Int) (h r : Rw) (nm : Int) : Nat → Int
  | 0 => nm
  | i + 1 => rb M (wnx M o h r (frS M o h r nm i))
def lfS (M P : Rw) (o : Int) (h r : Rw) (nm L : Int) : Nat → Int
  | 0 => L
  | i + 1 => P (frS M o h r nm (i + 1))
def ruS (M : Rw) (o : Int) (h r : Rw) (nm : Int) : Nat → Int
  | 0 => -1
  | i + 1 => wnx M o h r (frS M o h r nm i)
theorem way_inv {M P h r : Rw} {o nm L : Int} (hG : WG M) (hP : FX M o P) (hS : HSu M o h r) (hC : HCl M o h r (M 5)) (hE : ∀ k : Int, 0 ≤ k → k < 16 → (P k = 2000000000 ∧ rsh o h k < 0 ∨ 0 ≤ P k ∧ P k < 2000000000 ∧ rsh o h k = P k / 32 ∧ rsh o r k = P k % 32)) (hx : 0 ≤ nm ∧ nm < 16) (hl : 0 ≤ L ∧ L < 2000000000) (h1 : h nm = L / 32) (h2 : r nm = L % 32) : ∀ i : Nat, (i : Int) ≤ L % 32 → (0 ≤ lfS M P o h r nm L i ∧ lfS M P o h r nm L i < 2000000000) ∧ lfS M P o h r nm L i % 32 = L % 32 - i ∧ ((i : Int) < L % 32 → (0 ≤ frS M o h r nm i ∧ frS M o h r nm i < 16) ∧ h (frS M o h r nm i) = lfS M P o h r nm L i / 32 ∧ r (frS M o h r nm i) = lfS M P o h r nm L i % 32)
  | 0, _ => ⟨hl, by show L % 32 = L % 32 - ((0 : Nat) : Int); omega, fun _ => ⟨hx, h1, h2⟩⟩
  | i + 1, hi => by
    obtain ⟨a1, a2, a3⟩ := way_inv hG hP hS hC hE hx hl h1 h2 i (by omega)
    obtain ⟨b1, b2, b3⟩ := a3 (by omega)
    obtain ⟨c1, c2, c3, -⟩ := way_step hG hP hS hC hE b1 a1 b2 b3
    have g := hG.2 _ c1.1 c1.2
    have e := hE (rb M (wnx M o h r (frS M o h r nm i))) g.2.1.1 g.2.1.2
    have hb := hP.2.1 (rb M (wnx M o h r (frS M o h r nm i))) g.2.1.1 g.2.1.2
    have hb2 := hb.2.2 c2
    show (0 ≤ P (rb M (wnx M o h r (frS M o h r nm i))) ∧ P (rb M (wnx M o h r (frS M o h r nm i))) < 2000000000) ∧ P (rb M (wnx M o h r (frS M o h r nm i))) % 32 = L % 32 - ((i + 1 : Nat) : Int) ∧ (((i + 1 : Nat) : Int) < L % 32 → (0 ≤ rb M (wnx M o h r (frS M o h r nm i)) ∧ rb M (wnx M o h r (frS M o h r nm i)) < 16) ∧ h (rb M (wnx M o h r (frS M o h r nm i))) = P (rb M (wnx M o h r (frS M o h r nm i))) / 32 ∧ r (rb M (wnx M o h r (frS M o h r nm i))) = P (rb M (wnx M o h r (frS M o h r nm i))) % 32)
    refine ⟨by omega, by omega, fun w => ⟨g.2.1, ?_⟩⟩
    have ne : rb M (wnx M o h r (frS M o h r nm i)) ≠ o := fun q => by
      have := hP.1
      rw [← q] at this
      omega
    have rn : ∀ v : Rw, rsh o v (rb M (wnx M o h r (frS M o h r nm i))) = v (rb M (wnx M o h r (frS M o h r nm i))) := fun v => by unfold rsh; rw [if_neg ne]
    rw [rn, rn] at e
    omega
theorem s_way54 {c nm o k L : Int} {I : Mm} {M P h r : Rw} {Q : Int → Mm → Prop} (hR : RRu I c M) (hc : 0 ≤ c ∧ c < 30) (hG : WG M) (hP : FX M o P) (hS : HSu M o h r) (hC : HCl M o h r (M 5)) (hE : ∀ k : Int, 0 ≤ k → k < 16 → (P k = 2000000000 ∧ rsh o h k < 0 ∨ 0 ≤ P k ∧ P k < 2000000000 ∧ rsh o h k = P k / 32 ∧ rsh o r k = P k % 32)) (hx : 0 ≤ nm ∧ nm < 16) (hl : 0 ≤ L ∧ L < 2000000000) (h1 : h nm = L / 32) (h2 : r nm = L % 32) (hk : 0 ≤ k ∧ k < L % 32) (hQ : Q (ruS M o h r nm (k + 1).toNat) (cset 38 I P)) : ∃ f, L_Wa_ruleAt_54 c nm o k Q f L nm (-1) 0 (cset 38 I P) := by
  have hn := hG.1
  have hru : RRu (cset 38 I P) c M := ru_cst hR (by omega)
  have n0 : cset 38 I P c 0 = M 5 := hru.1
  have inv := way_inv hG hP hS hC hE hx hl h1 h2
  have g : ∃ f, L_Wa_ruleAt_54 c nm o k Q f (lfS M P o h r nm L 0) (frS M o h r nm 0) (ruS M o h r nm 0) ((0 : Nat) : Int) (cset 38 I P) := by
    refine lp (P := fun f i => L_Wa_ruleAt_54 c nm o k Q f (lfS M P o h r nm L i) (frS M o h r nm i) (ruS M o h r nm i) (i : Int) (cset 38 I P)) (k + 1).toNat (fun f => ?_) (fun i f hi ih => ?_)
    · unfold L_Wa_ruleAt_54
      exact ⟨fun _ => hQ, fun q => by omega⟩
    · obtain ⟨a1, a2, a3⟩ := inv i (by omega)
      obtain ⟨b1, b2, b3⟩ := a3 (by omega)
      obtain ⟨c1, c2, c3, c4⟩ := way_step hG hP hS hC hE b1 a1 b2 b3
      have g := hG.2 _ c1.1 c1.2
      have hb := hP.2.1 (rb M (wnx M o h r (frS M o h r nm i))) g.2.1.1 g.2.1.2
      have eb : cset 38 I P (c + 2) (wnx M o h r (frS M o h r nm i)) = rb M (wnx M o h r (frS M o h r nm i)) := (hru.2 _ c1.1 c1.2).2.1
      unfold L_Wa_ruleAt_54
      refine ⟨fun q => by omega, fun _ => s_ruleOfPrice hR hc hG hP ?_⟩
      rw [c4]
      refine s_ruHas (fun _ _ => ⟨fun _ => ⟨by omega, s_priceOf hru hG c1.1 c1.2 ⟨by omega, by omega, ?_⟩⟩, fun w => absurd w (by decide)⟩) (fun q => absurd ⟨c1.1, by rw [n0]; exact c1.2⟩ q)
      rw [eb]
      have e1 : lfS M P o h r nm L i - (rg M (wnx M o h r (frS M o h r nm i)) * 32 + 1) = lfS M P o h r nm L (i + 1) := by
        show _ = P (rb M (wnx M o h r (frS M o h r nm i)))
        omega
      rw [e1]
      exact ih
  exact g
theorem m_way151 {nm o k L : Int} {I : Mm} {M P h r : Rw} {Q : Int → Mm → Prop} (hM : I 237 = M) (hG : WG M) (hB : HB h r) (hP : FX M o P) (hS : HSu M o h r) (hC : HCl M o h r (M 5)) (hE : ∀ k : Int, 0 ≤ k → k < 16 → (P k = 2000000000 ∧ rsh o h k < 0 ∨ 0 ≤ P k ∧ P k < 2000000000 ∧ rsh o h k = P k / 32 ∧ rsh o r k = P k % 32)) (hx : 0 ≤ nm ∧ nm < 16) (hl : 0 ≤ L ∧ L < 2000000000) (h1 : h nm = L / 32) (h2 : r nm = L % 32) (hk : 0 ≤ k ∧ k < L % 32) (hQ : Q (ruS M o h r nm (k + 1).toNat) (cs2 I h r)) : ∃ f, L_M_way_151 nm o k Q f (wnx M o h r nm) 0 (cs2 I h r) := by
  have hn := hG.1
  have e37 : cs2 I h r 237 = M := by rw [cs2_o (by decide) (by decide)]; exact hM
  have inv := way_inv hG hP hS hC hE hx hl h1 h2
  refine lp (P := fun f i => L_M_way_151 nm o k Q f (ruS M o h r nm (i + 1)) (i : Int) (cs2 I h r)) k.toNat (fun f => ?_) (fun i f hi ih => ?_)
  · unfold L_M_way_151
    rw [show k.toNat + 1 = (k + 1).toNat by omega]
    exact ⟨fun _ => hQ, fun q => by omega⟩
  · obtain ⟨a1, a2, a3⟩ := inv i (by omega)
    obtain ⟨b1, b2, b3⟩ := a3 (by omega)
    obtain ⟨c1, c2, c3, c4⟩ := way_step hG hP hS hC hE b1 a1 b2 b3
    have g := hG.2 _ c1.1 c1.2
    have er : ruS M o h r nm (i + 1) = wnx M o h r (frS M o h r nm i) := rfl
    have e2 : M (144 + 3 * wnx M o h r (frS M o h r nm i) + 1) = frS M o h r nm (i + 1) := rfl
    unfold L_M_way_151
    rw [e37, er, e2]
    refine ⟨fun q => by omega, fun _ => ⟨by omega, m_wayRule hM hG hB g.2.1 ⟨by omega, ih⟩⟩⟩
/-- the tables that the prices make -/
def hPr (M P : Rw) (k : Int) : Int := if leaR M P k (M 5).toNat = 2000000000 then -1 else leaR M P k (M 5).toNat / 32
def rPr (M P : Rw) (k : Int) : Int := leaR M P k (M 5).toNat % 32
theorem pr_tab {M P : Rw} {o : Int} (hG : WG M) (ho : 0 ≤ o ∧ o < 16) (hP : FX M o P) : (∀ k : Int, 0 ≤ k → k < 16 → (P k = 2000000000 ∧ rsh o (hPr M P) k < 0 ∨ 0 ≤ P k ∧ P k < 2000000000 ∧ rsh o (hPr M P) k = P k / 32 ∧ rsh o (rPr M P) k = P k % 32)) ∧ HSu M o (hPr M P) (rPr M P) ∧ HCl M o (hPr M P) (rPr M P) (M 5) := by
  have hn := hG.1
  obtain ⟨p0, pB, pS, pC⟩ := hP
  have hX := fun x => lst_is (x := x) hG ⟨p0, pB, pS, pC⟩ (M 5).toNat (by omega)
  have eq : ∀ k : Int, 0 ≤ k → k < 16 → (P k = 2000000000 ∧ rsh o (hPr M P) k < 0 ∨ 0 ≤ P k ∧ P k < 2000000000 ∧ rsh o (hPr M P) k = P k / 32 ∧ rsh o (rPr M P) k = P k % 32) := fun k a b => by
    have hk := pB k a b
    unfold rsh
    by_cases q : k = o
    · rw [if_pos q, if_pos q, q, p0]
      exact .inr ⟨by decide, by decide, by decide, by decide⟩
    · rw [if_neg q, if_neg q]
      obtain ⟨l1, l2⟩ := hX k
      have e : leaR M P k (M 5).toNat = P k := by
        rcases l1 with l1 | ⟨l1, l3, i, i1, i2, i3, i4, i5⟩
        · by_cases f : P k < 2000000000
          · obtain ⟨i, i1, i2, i3, i4, i5⟩ := pS k a b q f
            have := l2 i i1 (by omega) i3 i4
            omega
          · omega
        · have h1 := pC i i1 (by omega) i4
          rw [i3] at h1
          obtain ⟨i', j1, j2, j3, j4, j5⟩ := pS k a b q (by omega)
          have := l2 i' j1 (by omega) j3 j4
          omega
      unfold hPr rPr
      rw [e]
      by_cases f : P k = 2000000000
      · rw [if_pos f]; exact .inl ⟨f, by decide⟩
      · rw [if_neg f]; exact .inr ⟨hk.1, by omega, rfl, rfl⟩
  refine ⟨eq, fun k a b f => ?_, fun i a b w => ?_⟩
  · obtain ⟨l1, l2⟩ := hX k
    unfold hPr at f
    rcases l1 with l1 | ⟨l1, l3, i, i1, i2, i3, i4, i5⟩
    · rw [if_pos l1] at f; omega
    · have g := hG.2 i i1 (by omega)
      have e := eq (rb M i) g.2.1.1 g.2.1.2
      have h3 := (pB (rb M i) g.2.1.1 g.2.1.2).2.2 i4
      refine ⟨i, i1, by omega, i3, by omega, ?_⟩
      have e1 : hPr M P k = leaR M P k (M 5).toNat / 32 := by unfold hPr; rw [if_neg (by omega)]
      have e2 : rPr M P k = leaR M P k (M 5).toNat % 32 := rfl
      rw [e1, e2]
      omega
  · have g := hG.2 i a b
    have e := eq (rb M i) g.2.1.1 g.2.1.2
    have h3 := (pB (rb M i) g.2.1.1 g.2.1.2).2.2 (by omega)
    obtain ⟨l1, l2⟩ := hX (ra M i)
    have h4 := l2 i a (by omega) rfl (by omega)
    have e1 : hPr M P (ra M i) = leaR M P (ra M i) (M 5).toNat / 32 := by unfold hPr; rw [if_neg (by omega)]
    have e2 : rPr M P (ra M i) = leaR M P (ra M i) (M 5).toNat % 32 := rfl
    rw [e1, e2]
    rcases l1 with l1 | l1
    · omega
    · have := l1.1
      omega
theorem way_nx {M P h r : Rw} {o x : Int} (hG : WG M) (ho : 0 ≤ o ∧ o < 16) (hP : FX M o P) (hB : HB h r) (hS : HSu M o h r) (hC : HCl M o h r (M 5)) (hx : 0 ≤ x ∧ x < 16) : wnx M o h r x = wnx M o (hPr M P) (rPr M P) x := by
  have hn := hG.1
  obtain ⟨eq, ex⟩ := way_eq hG ho hP hB hS hC
  obtain ⟨eq2, -, -⟩ := pr_tab hG ho hP
  refine fst_cong _ _ _ (fun k a b => ?_)
  have g := hG.2 k a (by omega)
  have e1 := eq (rb M k) g.2.1.1 g.2.1.2
  have e2 := eq2 (rb M k) g.2.1.1 g.2.1.2
  have e3 := ex x hx.1 hx.2
  have e4 : hPr M P x = if leaR M P x (M 5).toNat = 2000000000 then -1 else leaR M P x (M 5).toNat / 32 := rfl
  have e5 : rPr M P x = leaR M P x (M 5).toNat % 32 := rfl
  unfold wrp
  refine decide_eq_decide.2 ?_
  rw [e4, e5]
  split <;> constructor <;> omega
theorem way_same {M P h r : Rw} {o nm L : Int} (hG : WG M) (ho : 0 ≤ o ∧ o < 16) (hP : FX M o P) (hB : HB h r) (hS : HSu M o h r) (hC : HCl M o h r (M 5)) (hx : 0 ≤ nm ∧ nm < 16) (hl : 0 ≤ L ∧ L < 2000000000) (h1 : hPr M P nm = L / 32) (h2 : rPr M P nm = L % 32) : ∀ i : Nat, (i : Int) ≤ L % 32 → frS M o h r nm i = frS M o (hPr M P) (rPr M P) nm i ∧ ruS M o h r nm i = ruS M o (hPr M P) (rPr M P) nm i
  | 0, _ => ⟨rfl, rfl⟩
  | i + 1, hi => by
    obtain ⟨eq2, S2, C2⟩ := pr_tab hG ho hP
    obtain ⟨f1, -⟩ := way_same hG ho hP hB hS hC hx hl h1 h2 i (by omega)
    obtain ⟨-, -, a3⟩ := way_inv hG hP S2 C2 eq2 hx hl h1 h2 i (by omega)
    have e := way_nx hG ho hP hB hS hC (a3 (by omega)).1
    refine ⟨?_, ?_⟩
    · show rb M (wnx M o h r (frS M o h r nm i)) = rb M (wnx M o (hPr M P) (rPr M P) (frS M o (hPr M P) (rPr M P) nm i))
      rw [f1, e]
    · show wnx M o h r (frS M o h r nm i) = wnx M o (hPr M P) (rPr M P) (frS M o (hPr M P) (rPr M P) nm i)
      rw [f1, e]
theorem o_way {G x1 x2 x3 : Int} {I : Mm} {Q : Mm → Prop} (hI : Inv G I) (hG : G ≤ 2143000000) (hQ : ∀ I' : Mm, Inv (G + 3000000) I' → Q I') : V_X_way x1 x2 x3 I (fun z I1 => V_M_way x1 x2 x3 I1 (fun z' I2 => (z = z' → Q I2) ∧ (¬ z = z' → False))) := by
  obtain ⟨M, u, H, k, S, l, T, hC, hR, hA⟩ := hI
  have hW := hA.1
  have b4 := hW.1.2.2.2.2.1
  have hg := wg_of hW
  have hn := hg.1
  have hM := hR.1
  have n4 : I (1 + 1) 0 = M 4 := hC.1.1.1
  have hst : Q I := hQ _ (ask_end (P := M) (F := M) hC hR hA (fun a _ _ _ _ => rfl))
  have refuse : ¬ ((0 ≤ x1 ∧ x1 < M 4) ∧ (0 ≤ x2 ∧ x2 < M 4) ∧ -1 ≤ x3) → V_M_way x1 x2 x3 I (fun z' I2 => ((-1 : Int) = z' → Q I2) ∧ (¬ (-1 : Int) = z' → False)) := fun q => by
    unfold V_M_way
    exact m_isName hM b4 (fun a b => ⟨fun w => absurd w (by decide), fun _ => m_isName hM b4 (fun c d => ⟨fun w => absurd w (by decide), fun _ => ⟨fun w => absurd ⟨⟨a, b⟩, ⟨c, d⟩, w⟩ q, fun _ => fin rfl hst⟩⟩) (fun q => ⟨fun _ => fin rfl hst, fun w => absurd rfl w⟩)⟩) (fun q => ⟨fun _ => fin rfl hst, fun w => absurd rfl w⟩)
  unfold V_X_way
  refine s_nmHas (fun a b => ⟨fun w => absurd w (by decide), fun _ => s_nmHas (fun c d => ⟨fun w => absurd w (by decide), fun _ => ⟨fun e => ?_, fun w => refuse (by omega)⟩⟩) (fun q => ⟨fun _ => refuse (by rw [n4] at q; omega), fun w => absurd rfl w⟩)⟩) (fun q => ⟨fun _ => refuse (by rw [n4] at q; omega), fun w => absurd rfl w⟩)
  rw [n4] at b d
  unfold V_Wa_ruleAt
  refine s_find hC.1.2.2.1 (by omega) hg (by omega) (fun P hP => ?_)
  -- the reference
  have ref : ∀ z : Int, (∀ h r : Rw, HB h r → HSu M x2 h r → HCl M x2 h r (M 5) → (h x1 < 0 → z = -2) ∧ (0 ≤ h x1 → (x3 = -1 → z = r x1) ∧ (x3 ≠ -1 → (r x1 ≤ x3 → z = -2) ∧ (x3 < r x1 → z = ruS M x2 h r x1 (x3 + 1).toNat)))) → V_M_way x1 x2 x3 (cset 38 I P) (fun z' I2 => (z = z' → Q I2) ∧ (¬ z = z' → False)) := fun z hz => by
    have hM1 : cset 38 I P 237 = M := by rw [cst_n (by decide)]; exact hM
    unfold V_M_way
    refine m_isName hM1 b4 (fun _ _ => ⟨fun w => absurd w (by decide), fun _ => m_isName hM1 b4 (fun _ _ => ⟨fun w => absurd w (by decide), fun _ => ⟨fun _ => m_way26 hM1 hg (fun h r hB hS hCl => ?_), fun w => by omega⟩⟩) (fun q => absurd ⟨c, d⟩ q)⟩) (fun q => absurd ⟨a, b⟩ q)
    have hi : Q (cs2 (cset 38 I P) h r) := hQ _ (ask_end (P := M) (F := M) hC hR hA (fun a p q s t => by rw [cs2_o s t, cst_n p]))
    obtain ⟨z1, z2⟩ := hz h r hB hS hCl
    obtain ⟨eq, ex⟩ := way_eq hg (show 0 ≤ x2 ∧ x2 < 16 by omega) hP hB hS hCl
    have ex1 := ex x1 a (by omega)
    rw [cs2_8, cs2_9]
    refine ⟨by omega, fun w => ⟨fun w2 => ⟨by omega, fun w3 => ?_, fun w3 => fin (((z2 w).2 w2).1 w3) hi⟩, fun w2 => ⟨by omega, fin ((z2 w).1 w2) hi⟩⟩, fun w => fin (z1 w) hi⟩
    refine m_wayRule hM1 hg hB ⟨a, by omega⟩ ?_
    rcases ex1 with ⟨-, e2⟩ | ⟨l1, l2, l3, l4⟩
    · omega
    · exact m_way151 hM1 hg hB hP hS hCl eq ⟨a, by omega⟩ ⟨l1, l2⟩ l3 l4 ⟨by omega, by omega⟩ (fin (((z2 w).2 w2).2 w3) hi)
  have ox : 0 ≤ x2 ∧ x2 < 16 := by omega
  refine ⟨fun w => ?_, fun w => ref _ (fun h r hB hS hCl => ?_)⟩
  · obtain ⟨l1, l2⟩ := lst_is (x := x1) hg hP (M 5).toNat (by omega)
    have hL : 0 ≤ leaR M P x1 (M 5).toNat ∧ leaR M P x1 (M 5).toNat < 2000000000 := by
      rcases l1 with l1 | l1
      · exact absurd l1 w
      · exact ⟨l1.1, l1.2.1⟩
    have exx : ∀ h r : Rw, HB h r → HSu M x2 h r → HCl M x2 h r (M 5) → h x1 = leaR M P x1 (M 5).toNat / 32 ∧ r x1 = leaR M P x1 (M 5).toNat % 32 := fun h r hB hS hCl => by
      have := (way_eq hg ox hP hB hS hCl).2 x1 a (by omega)
      omega
    refine ⟨hL.1, fun w2 => ⟨fun w3 => ?_, fun w3 => ref _ (fun h r hB hS hCl => ?_)⟩, fun w2 => ref _ (fun h r hB hS hCl => ?_)⟩
    · obtain ⟨eq2, S2, C2⟩ := pr_tab hg ox hP
      have t1 : hPr M P x1 = leaR M P x1 (M 5).toNat / 32 := by unfold hPr; rw [if_neg w]
      refine s_way54 hC.1.2.2.1 (by omega) hg hP S2 C2 eq2 ⟨a, by omega⟩ hL t1 rfl ⟨by omega, w3⟩ (ref _ (fun h r hB hS hCl => ?_))
      have := exx h r hB hS hCl
      refine ⟨fun q => by omega, fun _ => ⟨fun q => absurd q w2, fun _ => ⟨fun q => by omega, fun _ => ?_⟩⟩⟩
      exact (way_same hg ox hP hB hS hCl ⟨a, by omega⟩ hL t1 rfl (x3 + 1).toNat (by omega)).2.symm
    · have := exx h r hB hS hCl
      exact ⟨fun _ => rfl, fun _ => ⟨fun q => absurd q w2, fun _ => ⟨fun _ => rfl, fun q => by omega⟩⟩⟩
    · have := exx h r hB hS hCl
      exact ⟨fun q => by omega, fun _ => ⟨fun _ => this.2.symm, fun q => absurd w2 q⟩⟩
  · have := (way_eq hg ox hP hB hS hCl).2 x1 a (by omega)
    exact ⟨fun _ => rfl, fun q => by omega⟩
