/-! the prices of ways from names to a goal: twelve rounds are enough -/
abbrev ra (M : Rw) (r : Int) : Int := M (144 + 3 * r)
abbrev rb (M : Rw) (r : Int) : Int := M (144 + 3 * r + 1)
abbrev rg (M : Rw) (r : Int) : Int := M (144 + 3 * r + 2)
def WG (M : Rw) : Prop := (0 ≤ M 5 ∧ M 5 ≤ 12) ∧ ∀ r : Int, 0 ≤ r → r < M 5 → (0 ≤ ra M r ∧ ra M r < 16) ∧ (0 ≤ rb M r ∧ rb M r < 16) ∧ (1 ≤ rg M r ∧ rg M r ≤ 999999)
theorem wg_of {G : Int} {M : Rw} (hW : WF G M) : WG M := by
  have b4 := hW.1.2.2.2.2.1
  refine ⟨hW.1.2.2.2.2.2.1, fun r a b => ?_⟩
  have := hW.2.2.1 r a b
  show (0 ≤ M (144 + 3 * r) ∧ M (144 + 3 * r) < 16) ∧ (0 ≤ M (144 + 3 * r + 1) ∧ M (144 + 3 * r + 1) < 16) ∧ (1 ≤ M (144 + 3 * r + 2) ∧ M (144 + 3 * r + 2) ≤ 999999)
  omega
theorem cntB_sub (p q : Int → Bool) : ∀ n : Nat, (∀ k : Int, 0 ≤ k → k < n → p k = true → q k = true) → cntB p n ≤ cntB q n
  | 0, _ => Int.le_refl _
  | n + 1, h => by
    have ih := cntB_sub p q n (fun k a b => h k a (by omega))
    have h1 := h (n : Int) (by omega) (by omega)
    rw [cntB_s, cntB_s]
    by_cases w : p (n : Int) = true
    · rw [if_pos w, if_pos (h1 w)]; omega
    · rw [if_neg w]; split <;> omega
theorem cntB_ssub (p q : Int → Bool) : ∀ n : Nat, (∀ k : Int, 0 ≤ k → k < n → p k = true → q k = true) → ∀ k0 : Int, 0 ≤ k0 → k0 < n → p k0 = false → q k0 = true → cntB p n + 1 ≤ cntB q n
  | 0, _, k0, a, b, _, _ => by omega
  | n + 1, h, k0, a, b, h1, h2 => by
    rw [cntB_s, cntB_s]
    by_cases w : k0 = (n : Int)
    · subst w
      have ih := cntB_sub p q n (fun k a b => h k a (by omega))
      rw [h1, h2]
      simp
      omega
    · have ih := cntB_ssub p q n (fun k a b => h k a (by omega)) k0 a (by omega) h1 h2
      have h3 := h (n : Int) (by omega) (by omega)
      by_cases w2 : p (n : Int) = true
      · rw [if_pos w2, if_pos (h3 w2)]; omega
      · rw [if_neg w2]; split <;> omega
def sumI (f : Int → Int) : Nat → Int
  | 0 => 0
  | n + 1 => sumI f n + f (n : Int)
theorem sumI_le (f g : Int → Int) : ∀ n : Nat, (∀ k : Int, 0 ≤ k → k < n → f k ≤ g k) → sumI f n ≤ sumI g n
  | 0, _ => Int.le_refl _
  | n + 1, h => by
    have ih := sumI_le f g n (fun k a b => h k a (by omega))
    have h1 := h (n : Int) (by omega) (by omega)
    show sumI f n + f (n : Int) ≤ sumI g n + g (n : Int)
    omega
theorem sumI_lt (f g : Int → Int) : ∀ n : Nat, (∀ k : Int, 0 ≤ k → k < n → f k ≤ g k) → ∀ k0 : Int, 0 ≤ k0 → k0 < n → f k0 < g k0 → sumI f n < sumI g n
  | 0, _, k0, a, b, _ => by omega
  | n + 1, h, k0, a, b, h1 => by
    have h2 := h (n : Int) (by omega) (by omega)
    show sumI f n + f (n : Int) < sumI g n + g (n : Int)
    by_cases w : k0 = (n : Int)
    · subst w
      have ih := sumI_le f g n (fun k a b => h k a (by omega))
      omega
    · have ih := sumI_lt f g n (fun k a b => h k a (by omega)) k0 a (by omega) h1
      omega
theorem sumI_nn (f : Int → Int) : ∀ n : Nat, (∀ k : Int, 0 ≤ k → k < n → 0 ≤ f k) → 0 ≤ sumI f n
  | 0, _ => Int.le_refl _
  | n + 1, h => by
    have ih := sumI_nn f n (fun k a b => h k a (by omega))
    have h1 := h (n : Int) (by omega) (by omega)
    show 0 ≤ sumI f n + f (n : Int)
    omega
def pbR (M P : Rw) (r : Int) : Int := if P (rb M r) = 2000000000 then 2000000000 else P (rb M r) + (rg M r * 32 + 1)
def loR (M P : Rw) (r : Int) : Rw := fun j => if j = ra M r then min (P j) (pbR M P r) else P j
def rnR (M P : Rw) : Nat → Rw
  | 0 => P
  | i + 1 => loR M (rnR M P i) (i : Int)
def prN (M Z : Rw) : Nat → Rw
  | 0 => Z
  | n + 1 => rnR M (prN M Z n) (M 5).toNat
def cP (P : Rw) : Int := cntB (fun k => decide (P k < 2000000000)) 16
def PBd (P : Rw) : Prop := ∀ k : Int, 0 ≤ k → k < 16 → 0 ≤ P k ∧ P k ≤ 2000000000 ∧ (P k < 2000000000 → P k ≤ 31999969 * (cP P - 1))
def PSu (M : Rw) (o : Int) (P : Rw) : Prop := ∀ k : Int, 0 ≤ k → k < 16 → k ≠ o → P k < 2000000000 → ∃ r : Int, 0 ≤ r ∧ r < M 5 ∧ ra M r = k ∧ P (rb M r) < 2000000000 ∧ P (rb M r) + (rg M r * 32 + 1) ≤ P k
def PCl (M : Rw) (P : Rw) : Prop := ∀ r : Int, 0 ≤ r → r < M 5 → P (rb M r) < 2000000000 → P (ra M r) ≤ P (rb M r) + (rg M r * 32 + 1)
def PIv (M : Rw) (o : Int) (P : Rw) : Prop := P o = 0 ∧ PBd P ∧ PSu M o P
theorem cP_rng (P : Rw) : 0 ≤ cP P ∧ cP P ≤ 16 := cntB_rng _ 16
theorem pb_lt {P : Rw} (h : PBd P) {k : Int} (a : 0 ≤ k) (b : k < 16) (w : P k < 2000000000) : 0 ≤ P k ∧ P k ≤ 479999535 := by
  have h1 := h k a b
  have h2 := cP_rng P
  have h3 := h1.2.2 w
  omega
theorem lo_le (M P : Rw) (r j : Int) : loR M P r j ≤ P j := by
  unfold loR
  split <;> omega
theorem pi_lo {M P : Rw} {o r : Int} (hG : WG M) (h : PIv M o P) (a : 0 ≤ r) (b : r < M 5) : PIv M o (loR M P r) := by
  obtain ⟨h0, hB, hS⟩ := h
  obtain ⟨ga, gb, gg⟩ := hG.2 r a b
  have hba := hB (ra M r) ga.1 ga.2
  have hbb := hB (rb M r) gb.1 gb.2
  by_cases w : P (rb M r) = 2000000000
  · have e : loR M P r = P := by
      funext j
      unfold loR pbR
      by_cases q : j = ra M r
      · rw [if_pos q, if_pos w, q]; omega
      · rw [if_neg q]
    rw [e]
    exact ⟨h0, hB, hS⟩
  · have hbl := pb_lt hB gb.1 gb.2 (by omega)
    have ea : loR M P r (ra M r) = min (P (ra M r)) (P (rb M r) + (rg M r * 32 + 1)) := by
      unfold loR pbR
      rw [if_pos rfl, if_neg w]
    have eo : ∀ j : Int, j ≠ ra M r → loR M P r j = P j := fun j q => by
      unfold loR
      rw [if_neg q]
    have hle := lo_le M P r
    have hc : cP P ≤ cP (loR M P r) := cntB_sub _ _ 16 (fun k _ _ q => by
      have := hle k
      have q2 := of_decide_eq_true q
      exact decide_eq_true (by omega))
    have hcb := hbb.2.2 (by omega)
    refine ⟨?_, fun k x y => ?_, fun k x y ne fi => ?_⟩
    · by_cases q : o = ra M r
      · rw [q] at h0
        rw [q, ea, h0]; omega
      · rw [eo o q]; exact h0
    · have hk := hB k x y
      by_cases q : k = ra M r
      · subst q
        rw [ea]
        refine ⟨by omega, by omega, fun _ => ?_⟩
        by_cases w2 : P (ra M r) < 2000000000
        · have := hk.2.2 w2; omega
        · have hc2 : cP P + 1 ≤ cP (loR M P r) := cntB_ssub _ _ 16 (fun k _ _ q => by
            have := hle k
            have q2 := of_decide_eq_true q
            exact decide_eq_true (by omega)) (ra M r) ga.1 ga.2 (decide_eq_false w2) (decide_eq_true (by rw [ea]; omega))
          omega
      · rw [eo k q]
        exact ⟨hk.1, hk.2.1, fun w2 => by have := hk.2.2 w2; omega⟩
    · by_cases q : k = ra M r ∧ ¬ P k ≤ P (rb M r) + (rg M r * 32 + 1)
      · obtain ⟨q1, q2⟩ := q
        subst q1
        have := hle (rb M r)
        exact ⟨r, a, b, rfl, by omega, by rw [ea]; omega⟩
      · have ek : loR M P r k = P k := by
          by_cases q1 : k = ra M r
          · rw [q1, ea, ← q1]
            have : P k ≤ P (rb M r) + (rg M r * 32 + 1) := by
              by_cases q2 : P k ≤ P (rb M r) + (rg M r * 32 + 1)
              · exact q2
              · exact absurd ⟨q1, q2⟩ q
            omega
          · exact eo k q1
        rw [ek] at fi ⊢
        obtain ⟨r', r1, r2, r3, r4, r5⟩ := hS k x y ne fi
        have := hle (rb M r')
        exact ⟨r', r1, r2, r3, by omega, by omega⟩
theorem pi_rn {M P : Rw} {o : Int} (hG : WG M) (h : PIv M o P) : ∀ i : Nat, (i : Int) ≤ M 5 → PIv M o (rnR M P i)
  | 0, _ => h
  | i + 1, hi => pi_lo hG (pi_rn hG h i (by omega)) (by omega) (by omega)
theorem rn_le (M P : Rw) (j : Int) : ∀ i : Nat, rnR M P i j ≤ P j
  | 0 => Int.le_refl _
  | i + 1 => Int.le_trans (lo_le M (rnR M P i) (i : Int) j) (rn_le M P j i)
theorem pi_pr {M Z : Rw} {o : Int} (hG : WG M) (h : PIv M o Z) : ∀ n : Nat, PIv M o (prN M Z n)
  | 0 => h
  | n + 1 => pi_rn hG (pi_pr hG h n) _ (by have := hG.1; omega)
theorem rn_cl {M P : Rw} {o : Int} (hG : WG M) (h : PIv M o P) : ∀ i : Nat, (i : Int) ≤ M 5 → ∀ r : Int, 0 ≤ r → r < (i : Int) → P (rb M r) < 2000000000 → rnR M P i (ra M r) ≤ P (rb M r) + (rg M r * 32 + 1)
  | 0, _, r, a, b, _ => by omega
  | i + 1, hi, r, a, b, w => by
    have l := lo_le M (rnR M P i) (i : Int) (ra M r)
    by_cases q : r = (i : Int)
    · subst q
      have l2 := rn_le M P (rb M (i : Int)) i
      show loR M (rnR M P i) (i : Int) (ra M (i : Int)) ≤ _
      unfold loR pbR
      rw [if_pos rfl, if_neg (by omega)]
      omega
    · have ih := rn_cl hG h i (by omega) r a (by omega) w
      exact Int.le_trans l ih
theorem sp_le {M V U : Rw} {o : Int} (hG : WG M) (hV : V o = 0) (hc : PCl M V) (hB : PBd U) (hS : PSu M o U) : ∀ (s : Nat) (k : Int), 0 ≤ k → k < 16 → U k < 2000000000 → U k ≤ s → V k ≤ U k := by
  intro s
  induction s with
  | zero =>
    intro k a b fi hs
    have hk := hB k a b
    by_cases q : k = o
    · rw [q, hV, ← q]; exact hk.1
    · obtain ⟨r, r1, r2, r3, r4, r5⟩ := hS k a b q fi
      have g := hG.2 r r1 r2
      have := hB (rb M r) g.2.1.1 g.2.1.2
      omega
  | succ s ih =>
    intro k a b fi hs
    have hk := hB k a b
    by_cases q : k = o
    · rw [q, hV, ← q]; exact hk.1
    · obtain ⟨r, r1, r2, r3, r4, r5⟩ := hS k a b q fi
      have g := hG.2 r r1 r2
      have h1 := ih (rb M r) g.2.1.1 g.2.1.2 r4 (by omega)
      have h2 := hc r r1 r2 (by omega)
      rw [r3] at h2
      omega
theorem pr_stab {M Z : Rw} {o : Int} (hG : WG M) (h : PIv M o Z) : ∃ N : Nat, ∀ k : Int, 0 ≤ k → k < 16 → prN M Z (N + 1) k = prN M Z N k := by
  have key : ∀ (s N : Nat), sumI (prN M Z N) 16 ≤ (s : Int) → ∃ N : Nat, ∀ k : Int, 0 ≤ k → k < 16 → prN M Z (N + 1) k = prN M Z N k := by
    intro s
    induction s with
    | zero =>
      intro N hs
      by_cases q : ∀ k : Int, 0 ≤ k → k < 16 → prN M Z (N + 1) k = prN M Z N k
      · exact ⟨N, q⟩
      · exfalso
        apply q
        intro k a b
        have l := rn_le M (prN M Z N) k (M 5).toNat
        have hB := (pi_pr hG h (N + 1)).2.1
        by_cases w : prN M Z (N + 1) k = prN M Z N k
        · exact w
        · have h1 := sumI_lt (prN M Z (N + 1)) (prN M Z N) 16 (fun k _ _ => rn_le M (prN M Z N) k (M 5).toNat) k a (by omega) (by have : prN M Z (N + 1) k ≤ prN M Z N k := l; omega)
          have h2 := sumI_nn (prN M Z (N + 1)) 16 (fun k a b => (hB k a (by omega)).1)
          omega
    | succ s ih =>
      intro N hs
      by_cases q : ∀ k : Int, 0 ≤ k → k < 16 → prN M Z (N + 1) k = prN M Z N k
      · exact ⟨N, q⟩
      · by_cases q2 : sumI (prN M Z (N + 1)) 16 ≤ (s : Int)
        · exact ih (N + 1) q2
        · exfalso
          apply q
          intro k a b
          have l := rn_le M (prN M Z N) k (M 5).toNat
          by_cases w : prN M Z (N + 1) k = prN M Z N k
          · exact w
          · have h1 := sumI_lt (prN M Z (N + 1)) (prN M Z N) 16 (fun k _ _ => rn_le M (prN M Z N) k (M 5).toNat) k a (by omega) (by have : prN M Z (N + 1) k ≤ prN M Z N k := l; omega)
            omega
  have hB := h.2.1
  have h2 := sumI_nn Z 16 (fun k a b => (hB k a (by omega)).1)
  exact key (sumI Z 16).toNat 0 (by show sumI Z 16 ≤ _; omega)
theorem sp_dep {M V : Rw} {o : Int} (hG : WG M) (hV : V o = 0) (hB : PBd V) (hS : PSu M o V) (hc : PCl M V) : ∀ (s : Nat) (k : Int), 0 ≤ k → k < 16 → V k < 2000000000 → V k ≤ s → V k % 32 ≤ cntB (fun r => decide (V (ra M r) ≤ V k ∧ ra M r ≠ o)) (M 5).toNat := by
  intro s
  induction s with
  | zero =>
    intro k a b fi hs
    have hk := hB k a b
    have e : V k = 0 := by omega
    rw [e]
    exact (cntB_rng _ _).1
  | succ s ih =>
    intro k a b fi hs
    have hk := hB k a b
    by_cases q : k = o
    · rw [q, hV]
      exact (cntB_rng _ _).1
    · obtain ⟨r, r1, r2, r3, r4, r5⟩ := hS k a b q fi
      have g := hG.2 r r1 r2
      have hb := hB (rb M r) g.2.1.1 g.2.1.2
      have h1 := ih (rb M r) g.2.1.1 g.2.1.2 r4 (by omega)
      have h2 := hc r r1 r2 (by omega)
      rw [r3] at h2
      have hn := hG.1
      have h3 := (cntB_rng (fun r' => decide (V (ra M r') ≤ V (rb M r) ∧ ra M r' ≠ o)) (M 5).toNat).2
      have h4 := cntB_ssub (fun r' => decide (V (ra M r') ≤ V (rb M r) ∧ ra M r' ≠ o)) (fun r' => decide (V (ra M r') ≤ V k ∧ ra M r' ≠ o)) (M 5).toNat (fun x _ _ y => by
        have := of_decide_eq_true y
        exact decide_eq_true ⟨by omega, this.2⟩) r r1 (by omega) (decide_eq_false (fun y => by rw [r3] at y; omega)) (decide_eq_true ⟨by rw [r3]; omega, by rw [r3]; exact q⟩)
      omega
/-- what the prices are at the end -/
def FX (M : Rw) (o : Int) (P : Rw) : Prop := P o = 0 ∧ (∀ k : Int, 0 ≤ k → k < 16 → 0 ≤ P k ∧ P k ≤ 2000000000 ∧ (P k < 2000000000 → P k ≤ 479999535 ∧ P k % 32 ≤ 12)) ∧ (∀ k : Int, 0 ≤ k → k < 16 → k ≠ o → P k < 2000000000 → ∃ r : Int, 0 ≤ r ∧ r < M 5 ∧ ra M r = k ∧ P (rb M r) < 2000000000 ∧ P k = P (rb M r) + (rg M r * 32 + 1)) ∧ PCl M P
theorem bf_fix {M Z : Rw} {o : Int} (hG : WG M) (ho : 0 ≤ o ∧ o < 16) (hZ : ∀ k : Int, 0 ≤ k → k < 16 → Z k = if k = o then 0 else 2000000000) : FX M o (prN M Z 12) := by
  have hI : PIv M o Z := by
    have z0 := hZ o ho.1 ho.2
    rw [if_pos rfl] at z0
    refine ⟨z0, fun k a b => ?_, fun k a b ne fi => ?_⟩
    · have hc : 1 ≤ cP Z := by
        have := cntB_ssub (fun _ => false) (fun k => decide (Z k < 2000000000)) 16 (fun _ _ _ q => absurd q (by decide)) o ho.1 (by omega) rfl (decide_eq_true (by omega))
        have h2 := (cntB_rng (fun _ => false) 16).1
        unfold cP
        omega
      rw [hZ k a b]
      split <;> omega
    · rw [hZ k a b, if_neg ne] at fi
      omega
  obtain ⟨N, hN⟩ := pr_stab hG hI
  have hn := hG.1
  obtain ⟨v0, vB, vS⟩ := pi_pr hG hI N
  have vC : PCl M (prN M Z N) := fun r a b w => by
    have g := hG.2 r a b
    have h1 := rn_cl hG (pi_pr hG hI N) (M 5).toNat (by omega) r a (by omega) w
    have h2 := hN (ra M r) g.1.1 g.1.2
    have h3 : prN M Z (N + 1) (ra M r) = rnR M (prN M Z N) (M 5).toNat (ra M r) := rfl
    omega
  have vD : ∀ k : Int, 0 ≤ k → k < 16 → prN M Z N k < 2000000000 → prN M Z N k % 32 ≤ 12 := fun k a b w => by
    have h1 := sp_dep hG v0 vB vS vC (prN M Z N k).toNat k a b w (by omega)
    have h2 := (cntB_rng (fun r => decide (prN M Z N (ra M r) ≤ prN M Z N k ∧ ra M r ≠ o)) (M 5).toNat).2
    omega
  have vT : ∀ k : Int, 0 ≤ k → k < 16 → k ≠ o → prN M Z N k < 2000000000 → ∃ r : Int, 0 ≤ r ∧ r < M 5 ∧ ra M r = k ∧ prN M Z N (rb M r) < 2000000000 ∧ prN M Z N k = prN M Z N (rb M r) + (rg M r * 32 + 1) := fun k a b ne fi => by
    obtain ⟨r, r1, r2, r3, r4, r5⟩ := vS k a b ne fi
    have := vC r r1 r2 r4
    rw [r3] at this
    exact ⟨r, r1, r2, r3, r4, by omega⟩
  have comp : ∀ (d : Nat) (k : Int), 0 ≤ k → k < 16 → prN M Z N k < 2000000000 → prN M Z N k % 32 ≤ (d : Int) → prN M Z d k ≤ prN M Z N k := by
    intro d
    induction d with
    | zero =>
      intro k a b fi hd
      have hk := vB k a b
      by_cases q : k = o
      · rw [q, (pi_pr hG hI 0).1, v0]
        exact Int.le_refl _
      · obtain ⟨r, r1, r2, r3, r4, r5⟩ := vT k a b q fi
        have g := hG.2 r r1 r2
        have := vD (rb M r) g.2.1.1 g.2.1.2 r4
        have := (vB (rb M r) g.2.1.1 g.2.1.2).1
        omega
    | succ d ih =>
      intro k a b fi hd
      by_cases q : k = o
      · rw [q, (pi_pr hG hI (d + 1)).1, v0]
        exact Int.le_refl _
      · obtain ⟨r, r1, r2, r3, r4, r5⟩ := vT k a b q fi
        have g := hG.2 r r1 r2
        have := vD (rb M r) g.2.1.1 g.2.1.2 r4
        have := (vB (rb M r) g.2.1.1 g.2.1.2).1
        have h1 := ih (rb M r) g.2.1.1 g.2.1.2 r4 (by omega)
        have h2 := rn_cl hG (pi_pr hG hI d) (M 5).toNat (by omega) r r1 (by omega) (by omega)
        have h3 : prN M Z (d + 1) (ra M r) = rnR M (prN M Z d) (M 5).toNat (ra M r) := rfl
        rw [r3] at h2 h3
        omega
  obtain ⟨p0, pB, pS⟩ := pi_pr hG hI 12
  have eq : ∀ k : Int, 0 ≤ k → k < 16 → prN M Z 12 k = prN M Z N k := fun k a b => by
    have hk := vB k a b
    have hp := pB k a b
    by_cases fp : prN M Z 12 k < 2000000000
    · have h1 := sp_le hG v0 vC pB pS (prN M Z 12 k).toNat k a b fp (by omega)
      have h2 := comp 12 k a b (by omega) (by have := vD k a b (by omega); omega)
      omega
    · by_cases fv : prN M Z N k < 2000000000
      · have h2 := comp 12 k a b fv (by have := vD k a b fv; omega)
        omega
      · omega
  refine ⟨p0, fun k a b => ?_, fun k a b ne fi => ?_, fun r a b w => ?_⟩
  · have hp := pB k a b
    refine ⟨hp.1, hp.2.1, fun w => ⟨(pb_lt pB a b w).2, ?_⟩⟩
    rw [eq k a b] at w ⊢
    exact vD k a b w
  · rw [eq k a b] at fi ⊢
    obtain ⟨r, r1, r2, r3, r4, r5⟩ := vT k a b ne fi
    have g := hG.2 r r1 r2
    refine ⟨r, r1, r2, r3, ?_, ?_⟩
    · rw [eq _ g.2.1.1 g.2.1.2]; exact r4
    · rw [eq _ g.2.1.1 g.2.1.2]; exact r5
  · have g := hG.2 r a b
    rw [eq _ g.2.1.1 g.2.1.2] at w ⊢
    rw [eq _ g.1.1 g.1.2]
    exact vC r a b w
