/-! the pure part: rows (the reference's 980 numbers), what a Calendar's cells stand for -/
abbrev Rw : Type := Int → Int
theorem lp {P : Nat → Nat → Prop} (e : Nat) (h1 : ∀ n, P (n + 1) e) (h2 : ∀ i n, i < e → P n (i + 1) → P (n + 1) i) : ∃ n, P n 0 := by
  have h : ∀ k, k ≤ e → P (k + 1) (e - k) := by
    intro k
    induction k with
    | zero => intro _; exact h1 0
    | succ k ih =>
      intro hk
      have h3 := ih (by omega)
      have h4 := h2 (e - (k + 1)) (k + 1) (by omega) (by rw [show e - (k + 1) + 1 = e - k by omega]; exact h3)
      exact h4
  have h5 := h e (Nat.le_refl e)
  rw [Nat.sub_self] at h5
  exact ⟨_, h5⟩
def cntB (p : Int → Bool) : Nat → Int
  | 0 => 0
  | n + 1 => cntB p n + (if p (n : Int) then 1 else 0)
theorem cntB_rng (p : Int → Bool) : ∀ n : Nat, 0 ≤ cntB p n ∧ cntB p n ≤ (n : Int)
  | 0 => by simp [cntB]
  | n + 1 => by
    have h := cntB_rng p n
    unfold cntB
    split <;> omega
theorem cntB_s (p : Int → Bool) (n : Nat) : cntB p (n + 1) = cntB p n + (if p (n : Int) then 1 else 0) := rfl
theorem cntB_mono (p : Int → Bool) (n : Nat) : ∀ m : Nat, n ≤ m → cntB p n ≤ cntB p m
  | 0, h => by rw [show n = 0 by omega]; exact Int.le_refl _
  | m + 1, h => by
    by_cases e : n = m + 1
    · rw [e]; exact Int.le_refl _
    · have h1 := cntB_mono p n m (by omega)
      rw [cntB_s]
      split <;> omega
theorem cntB_lt (p : Int → Bool) (k m : Nat) (h : k < m) (hp : p (k : Int) = true) : cntB p k < cntB p m := by
  have h1 := cntB_mono p (k + 1) m h
  rw [cntB_s, if_pos hp] at h1
  omega
/-- what the cells of a Calendar at c stand for: the row M -/
def RTh (I : Mm) (c : Int) (M : Rw) : Prop := I c 0 = M 0 ∧ ∀ k : Int, 0 ≤ k → k < M 0 → I (c + 1) k = M (380 + k) ∧ I (c + 2) k = M (580 + k) ∧ I (c + 3) k = M (780 + k)
/-- a word of letters: m of them from place o on -/
def wrd (M : Rw) (o : Int) : Nat → Int
  | 0 => 0
  | n + 1 => wrd M o n * 32 + (M (o + (n : Int)) - 96)
/-- how many letters from place o on (six at most) -/
def nlet (M : Rw) (o : Int) : Int := if M o ≤ 0 then 0 else if M (o + 1) ≤ 0 then 1 else if M (o + 2) ≤ 0 then 2 else if M (o + 3) ≤ 0 then 3 else if M (o + 4) ≤ 0 then 4 else if M (o + 5) ≤ 0 then 5 else 6
def RNm (I : Mm) (c : Int) (M : Rw) : Prop := I c 0 = M 4 ∧ ∀ n : Int, 0 ≤ n → n < M 4 → I (c + 1) n = wrd M (48 + 6 * n) (nlet M (48 + 6 * n)).toNat ∧ I (c + 2) n = M (16 + n) ∧ I (c + 3) n = M (32 + n)
def RRu (I : Mm) (c : Int) (M : Rw) : Prop := I c 0 = M 5 ∧ ∀ r : Int, 0 ≤ r → r < M 5 → I (c + 1) r = M (144 + 3 * r) ∧ I (c + 2) r = M (144 + 3 * r + 1) ∧ I (c + 3) r = M (144 + 3 * r + 2)
def RLo (I : Mm) (c : Int) (M : Rw) : Prop := I c 0 = M 7 ∧ (0 ≤ I c 1 ∧ I c 1 < 50) ∧ ∀ k p : Int, 0 ≤ k → k < M 7 → 0 ≤ p → p < 4 → I (c + 1) ((I c 1 + 49 - k) % 50 * 4 + p) = M (180 + 4 * k + p)
def RepC (I : Mm) (c : Int) (M : Rw) : Prop := RNm I (c + 1) M ∧ RTh I (c + 5) M ∧ RRu I (c + 9) M ∧ RLo I (c + 13) M ∧ (∀ j : Int, 0 ≤ j → j < 8 → I (c + 15) j = M (8 + j)) ∧ I c 5 = M 1 ∧ I c 6 = M 2 ∧ I c 7 = M 3 ∧ I c 8 = M 6
/-- who is ahead: by hour, then by number -/
abbrev ahd (h1 n1 h2 n2 : Int) : Prop := h1 < h2 ∨ h1 = h2 ∧ n1 < n2
def WT (M : Rw) : Prop := (∀ k : Int, 0 ≤ k → k < M 0 → (0 ≤ M (380 + k) ∧ M (380 + k) < M 6) ∧ (0 ≤ M (580 + k) ∧ M (580 + k) < M 4) ∧ M 3 ≤ M (780 + k) ∧ M (780 + k) ≤ 999999999) ∧ (∀ i j : Int, 0 ≤ i → i < j → j < M 0 → ahd (M (780 + i)) (M (380 + i)) (M (780 + j)) (M (380 + j))) ∧ (∀ i j : Int, 0 ≤ i → i < j → j < M 0 → M (380 + i) ≠ M (380 + j))
def WR (M : Rw) : Prop := ∀ r : Int, 0 ≤ r → r < M 5 → (0 ≤ M (144 + 3 * r) ∧ M (144 + 3 * r) < M 4) ∧ (0 ≤ M (144 + 3 * r + 1) ∧ M (144 + 3 * r + 1) < M 4) ∧ (1 ≤ M (144 + 3 * r + 2) ∧ M (144 + 3 * r + 2) ≤ 999999)
def WL (M : Rw) : Prop := (∀ n : Int, M 4 ≤ n → n < 16 → M (16 + n) = 0 ∧ M (32 + n) = 0) ∧ ∀ n : Int, 0 ≤ n → n < M 4 → ∃ m : Int, 1 ≤ m ∧ m ≤ 6 ∧ (∀ k : Int, 0 ≤ k → k < m → 97 ≤ M (48 + 6 * n + k) ∧ M (48 + 6 * n + k) ≤ 122) ∧ ∀ k : Int, m ≤ k → k < 6 → M (48 + 6 * n + k) = 0
abbrev rw6 (x : Int) : Prop := x = 2 ∨ x = 4 ∨ x = 8 ∨ x = 16 ∨ x = 32 ∨ x = 64
/-- the plain bounds; G bounds all that is counted -/
def WB (G : Int) (M : Rw) : Prop := (0 ≤ M 0 ∧ M 0 ≤ 200) ∧ rw6 (M 1) ∧ (1 ≤ M 2 ∧ M 2 ≤ 99999999) ∧ (0 ≤ M 3 ∧ M 3 ≤ 999999999) ∧ (0 ≤ M 4 ∧ M 4 ≤ 16) ∧ (0 ≤ M 5 ∧ M 5 ≤ 12) ∧ (0 ≤ M 6 ∧ M 6 ≤ G) ∧ (0 ≤ M 7 ∧ M 7 ≤ 50) ∧ ∀ j : Int, 8 ≤ j → j < 48 → 0 ≤ M j ∧ M j ≤ G
def WF (G : Int) (M : Rw) : Prop := WB G M ∧ WT M ∧ WR M ∧ WL M
/-- no cell but those of the Calendar at c has changed -/
def Frm (c : Int) (I I' : Mm) : Prop := ∀ a : Int, ¬ (c ≤ a ∧ a < c + 16) → I' a = I a
theorem frm_rf (c : Int) (I : Mm) : Frm c I I := fun _ _ => rfl
theorem frm_tr {c : Int} {I I1 I2 : Mm} (h1 : Frm c I I1) (h2 : Frm c I1 I2) : Frm c I I2 := fun a ha => (h2 a ha).trans (h1 a ha)
/-- how many are ahead of a number that is due at an hour -/
def posR (M : Rw) (num due : Int) : Int := cntB (fun k => decide (ahd (M (780 + k)) (M (380 + k)) due num)) (M 0).toNat
def isPos (M : Rw) (num due p : Int) : Prop := 0 ≤ p ∧ p ≤ M 0 ∧ (∀ k : Int, 0 ≤ k → k < p → ahd (M (780 + k)) (M (380 + k)) due num) ∧ ∀ k : Int, p ≤ k → k < M 0 → ¬ ahd (M (780 + k)) (M (380 + k)) due num
theorem cntB_cut (p : Int → Bool) (q : Nat) : ∀ n : Nat, (∀ k : Int, 0 ≤ k → k < q → k < n → p k = true) → (∀ k : Int, (q : Int) ≤ k → k < n → p k = false) → cntB p n = min (q : Int) n
  | 0, _, _ => by simp [cntB]; omega
  | n + 1, h1, h2 => by
    have ih := cntB_cut p q n (fun k a b d => h1 k a b (by omega)) (fun k a b => h2 k a (by omega))
    unfold cntB
    rw [ih]
    by_cases h : (n : Int) < q
    · rw [h1 n (by omega) h (by omega)]
      simp
      omega
    · rw [h2 n (by omega) (by omega)]
      simp
      omega
theorem isPos_eq {M : Rw} {num due p : Int} (h : isPos M num due p) : posR M num due = p := by
  obtain ⟨h0, h1, h2, h3⟩ := h
  obtain ⟨q, rfl⟩ := nat_of h0
  unfold posR
  rw [cntB_cut _ q _ (fun k a b _ => by simpa using h2 k a b) (fun k a b => by simpa using h3 k a (by omega))]
  omega
theorem posR_is {M : Rw} (h0 : 0 ≤ M 0) (hs : ∀ i j : Int, 0 ≤ i → i < j → j < M 0 → ahd (M (780 + i)) (M (380 + i)) (M (780 + j)) (M (380 + j))) (num due : Int) : isPos M num due (posR M num due) := by
  have key : ∃ p : Int, isPos M num due p := by
    have h : ∀ n : Nat, (n : Int) ≤ M 0 → ∃ p : Int, 0 ≤ p ∧ p ≤ n ∧ (∀ k : Int, 0 ≤ k → k < p → ahd (M (780 + k)) (M (380 + k)) due num) ∧ ∀ k : Int, p ≤ k → k < n → ¬ ahd (M (780 + k)) (M (380 + k)) due num := by
      intro n
      induction n with
      | zero => exact fun _ => ⟨0, by omega, by omega, fun k a b => by omega, fun k a b => by omega⟩
      | succ n ih =>
        intro hn
        obtain ⟨p, a1, a2, a3, a4⟩ := ih (by omega)
        by_cases hp : p < n
        · refine ⟨p, a1, by omega, a3, fun k b1 b2 => ?_⟩
          by_cases hk : k < n
          · exact a4 k b1 hk
          · have e1 : k = n := by omega
            subst e1
            have b3 := a4 p (by omega) hp
            have b4 := hs p n a1 hp (by omega)
            omega
        · have e1 : p = n := by omega
          subst e1
          by_cases hk : ahd (M (780 + (n : Int))) (M (380 + (n : Int))) due num
          · refine ⟨n + 1, by omega, by omega, fun k b1 b2 => ?_, fun k b1 b2 => by omega⟩
            by_cases hk2 : k < n
            · exact a3 k b1 hk2
            · have e2 : k = n := by omega
              subst e2
              exact hk
          · refine ⟨n, a1, by omega, a3, fun k b1 b2 => ?_⟩
            have e2 : k = n := by omega
            subst e2
            exact hk
    obtain ⟨p, h1, h2, h3, h4⟩ := h (M 0).toNat (by omega)
    exact ⟨p, h1, by omega, h3, fun k a b => h4 k a (by omega)⟩
  obtain ⟨p, hp⟩ := key
  rw [isPos_eq hp]
  exact hp
