/-! told: both sides spell the same text -/
def fndT (w : Int) : Int → Int → List Int → Int
  | _, f, [] => f
  | n, f, b :: t => fndT w (n + 1) (if n = w then b else f) t
theorem fnd_snoc (w b : Int) : ∀ (t : List Int) (n f : Int), fndT w n f (t ++ [b]) = if n + (t.length : Int) = w then b else fndT w n f t
  | [], n, f => by simp [fndT]
  | a :: t, n, f => by
    have ih := fnd_snoc w b t (n + 1) (if n = w then a else f)
    show fndT w (n + 1) (if n = w then a else f) (t ++ [b]) = _
    rw [ih, List.length_cons]
    rw [show n + 1 + (t.length : Int) = n + ((t.length + 1 : Nat) : Int) by omega]
    rfl
/-- what has been spelt so far: t; cell a holds the place that is wanted (w), how many (n), what was found (f) -/
def tT (a w n f x : Int) (I0 : Mm) (t : List Int) : Mm := fun b j => if b = a then (if j = w then x else if j = n then (t.length : Int) else if j = f then fndT x 0 (-2) t else I0 a j) else I0 b j
theorem tT_oth {a w n f x : Int} {I0 : Mm} {t : List Int} {b : Int} (h : b ≠ a) : tT a w n f x I0 t b = I0 b := by
  funext j
  unfold tT
  rw [if_neg h]
theorem tT_w {a w n f x : Int} {I0 : Mm} {t : List Int} : tT a w n f x I0 t a w = x := by simp [tT]
theorem tT_n {a w n f x : Int} {I0 : Mm} {t : List Int} (h : n ≠ w) : tT a w n f x I0 t a n = (t.length : Int) := by simp [tT, h]
theorem tT_f {a w n f x : Int} {I0 : Mm} {t : List Int} (h : f ≠ w) (h2 : f ≠ n) : tT a w n f x I0 t a f = fndT x 0 (-2) t := by simp [tT, h, h2]
theorem tT_j {a w n f x : Int} {I0 : Mm} {t : List Int} {j : Int} (h : j ≠ w) (h2 : j ≠ n) (h3 : j ≠ f) : tT a w n f x I0 t a j = I0 a j := by simp [tT, h, h2, h3]
theorem tT_0 {a w n f x : Int} {I : Mm} (h1 : n ≠ w) (h2 : f ≠ w) (h3 : f ≠ n) : wrM (wrM (wrM I a w x) a n 0) a f (-2) = tT a w n f x I [] := by
  funext b j
  unfold wrM tT
  by_cases q : b = a
  · subst q
    by_cases q1 : j = w
    · subst q1
      simp [Ne.symm h1, Ne.symm h2]
    · by_cases q2 : j = n
      · subst q2
        simp [h1, Ne.symm h3]
      · by_cases q3 : j = f
        · subst q3
          simp [h2, h3, fndT]
        · simp [q1, q2, q3]
  · simp [q]
theorem tT_put {a w n f x b : Int} {I : Mm} {t : List Int} (h1 : n ≠ w) (h2 : f ≠ w) (h3 : f ≠ n) (q : (t.length : Int) = x) : wrM (wrM (tT a w n f x I t) a f b) a n ((t.length : Int) + 1) = tT a w n f x I (t ++ [b]) := by
  funext c j
  unfold wrM tT
  by_cases r : c = a
  · subst r
    by_cases q1 : j = w
    · subst q1
      simp [Ne.symm h1, Ne.symm h2]
    · by_cases q2 : j = n
      · subst q2
        simp [h1]
      · by_cases q3 : j = f
        · subst q3
          rw [fnd_snoc]
          simp [h2, h3, q]
        · simp [q1, q2, q3]
  · simp [r]
theorem tT_pas {a w n f x b : Int} {I : Mm} {t : List Int} (h1 : n ≠ w) (h2 : f ≠ w) (h3 : f ≠ n) (q : ¬ (t.length : Int) = x) : wrM (tT a w n f x I t) a n ((t.length : Int) + 1) = tT a w n f x I (t ++ [b]) := by
  funext c j
  unfold wrM tT
  by_cases r : c = a
  · subst r
    by_cases q1 : j = w
    · subst q1
      simp [Ne.symm h1]
    · by_cases q2 : j = n
      · subst q2
        simp [h1]
      · by_cases q3 : j = f
        · subst q3
          rw [fnd_snoc]
          simp [h2, h3, q]
        · simp [q1, q2, q3]
  · simp [r]
abbrev tC (x : Int) (I0 : Mm) (t : List Int) : Mm := tT 36 0 1 2 x I0 t
abbrev tM (x : Int) (I0 : Mm) (t : List Int) : Mm := tT 236 13 12 14 x I0 t
theorem tC_oth {x : Int} {I0 : Mm} {t : List Int} {b : Int} (h : b ≠ 36) : tC x I0 t b = I0 b := tT_oth h
theorem tM_oth {x : Int} {I0 : Mm} {t : List Int} {b : Int} (h : b ≠ 236) : tM x I0 t b = I0 b := tT_oth h
theorem s_put {x b : Int} {I0 : Mm} {t : List Int} {Q : Mm → Prop} (hl : (t.length : Int) ≤ 2000000) (hQ : Q (tC x I0 (t ++ [b]))) : V_Te_put b (tC x I0 t) Q := by
  have e1 : tC x I0 t 36 1 = (t.length : Int) := tT_n (by decide)
  have e0 : tC x I0 t 36 0 = x := tT_w
  have e3 : wrM (tC x I0 t) 36 2 b 36 1 = (t.length : Int) := by rw [wr_n (by omega)]; exact e1
  unfold V_Te_put
  rw [e1, e0, e3]
  exact ⟨fun q => ⟨by omega, by rw [tT_pas (b := b) (by decide) (by decide) (by decide) q]; exact hQ⟩, fun q => ⟨by omega, by rw [tT_put (by decide) (by decide) (by decide) q]; exact hQ⟩⟩
theorem m_spell {x b : Int} {I0 : Mm} {t : List Int} {Q : Mm → Prop} (hl : (t.length : Int) ≤ 2000000) (hQ : Q (tM x I0 (t ++ [b]))) : V_M_spell b (tM x I0 t) Q := by
  have e1 : tM x I0 t 236 12 = (t.length : Int) := tT_n (by decide)
  have e0 : tM x I0 t 236 13 = x := tT_w
  have e3 : wrM (tM x I0 t) 236 14 b 236 12 = (t.length : Int) := by rw [wr_n (by omega)]; exact e1
  unfold V_M_spell
  rw [e1, e0, e3]
  exact ⟨fun q => ⟨by omega, by rw [tT_pas (b := b) (by decide) (by decide) (by decide) q]; exact hQ⟩, fun q => ⟨by omega, by rw [tT_put (by decide) (by decide) (by decide) q]; exact hQ⟩⟩
theorem takeS : ∀ (l : List Int) (i : Nat), i < l.length → l.take (i + 1) = l.take i ++ [l.getD i 0]
  | [], i, h => absurd h (Nat.not_lt_zero _)
  | a :: l, 0, _ => by simp
  | a :: l, i + 1, h => by
    have ih := takeS l i (by simpa using h)
    rw [List.take_succ_cons, List.take_succ_cons, ih]
    simp
abbrev sxL (w : Nat) : List Int := stx.getD w []
theorem sch_is (w i : Nat) : sch w (i : Int) = (sxL w).getD i 0 := by
  unfold sch
  rw [Int.toNat_natCast]
theorem s_putText {x : Int} {w : Nat} {I0 : Mm} {t : List Int} {Q : Mm → Prop} (hl : (t.length : Int) ≤ 1000000) (hw : (sxL w).length ≤ 100) (hQ : Q (tC x I0 (t ++ sxL w))) : V_Te_putText w (tC x I0 t) Q := by
  have g : ∃ f, L_Te_putText_2 w Q f ((0 : Nat) : Int) (tC x I0 (t ++ (sxL w).take 0)) := by
    refine lp (P := fun f i => L_Te_putText_2 w Q f (i : Int) (tC x I0 (t ++ (sxL w).take i))) (sxL w).length (fun f => ?_) (fun i f hi ih => ?_)
    · unfold L_Te_putText_2 slenI
      rw [List.take_length]
      exact ⟨fun _ => hQ, fun q => absurd q (Int.lt_irrefl _)⟩
    · have hi2 : (((sxL w).take i).length : Int) ≤ 100 := by rw [List.length_take]; omega
      unfold L_Te_putText_2 slenI
      refine ⟨fun q => absurd q (by show ¬ ((sxL w).length : Int) ≤ (i : Int); omega), fun q => ⟨by omega, s_put (by rw [List.length_append]; omega) ⟨by omega, ?_⟩⟩⟩
      rw [takeS _ i hi, ← List.append_assoc, ← sch_is] at ih
      exact ih
  rw [List.take_zero, List.append_nil] at g
  exact g
theorem m_spells {x : Int} {w : Nat} {I0 : Mm} {t : List Int} {Q : Mm → Prop} (hl : (t.length : Int) ≤ 1000000) (hw : (sxL w).length ≤ 100) (hQ : Q (tM x I0 (t ++ sxL w))) : V_M_spells w (tM x I0 t) Q := by
  have g : ∃ f, L_M_spells_2 w Q f ((0 : Nat) : Int) (tM x I0 (t ++ (sxL w).take 0)) := by
    refine lp (P := fun f i => L_M_spells_2 w Q f (i : Int) (tM x I0 (t ++ (sxL w).take i))) (sxL w).length (fun f => ?_) (fun i f hi ih => ?_)
    · unfold L_M_spells_2 slenI
      rw [List.take_length]
      exact ⟨fun _ => hQ, fun q => absurd q (Int.lt_irrefl _)⟩
    · have hi2 : (((sxL w).take i).length : Int) ≤ 100 := by rw [List.length_take]; omega
      unfold L_M_spells_2 slenI
      refine ⟨fun q => absurd q (by show ¬ ((sxL w).length : Int) ≤ (i : Int); omega), fun q => ⟨by omega, m_spell (by rw [List.length_append]; omega) ⟨by omega, ?_⟩⟩⟩
      rw [takeS _ i hi, ← List.append_assoc, ← sch_is] at ih
      exact ih
  rw [List.take_zero, List.append_nil] at g
  exact g
/-- a number's digits -/
def dC : Nat → Int → List Int
  | 0, v => [48 + v % 10]
  | k + 1, v => (if 10 ^ (k + 1) ≤ v then [48 + v / 10 ^ (k + 1) % 10] else []) ++ dC k v
def dgL : Nat → Int → List Int
  | 0, v => [48 + v % 10]
  | k + 1, v => (if 10 ≤ v then dgL k (v / 10) else []) ++ [48 + v % 10]
theorem dC_len : ∀ (k : Nat) (v : Int), (dC k v).length ≤ k + 1
  | 0, v => by simp [dC]
  | k + 1, v => by
    have ih := dC_len k v
    unfold dC
    rw [List.length_append]
    split
    · simp only [List.length_cons, List.length_nil]; omega
    · simp only [List.length_nil]; omega
theorem dgL_len : ∀ (k : Nat) (v : Int), (dgL k v).length ≤ k + 1
  | 0, v => by simp [dgL]
  | k + 1, v => by
    have ih := dgL_len k (v / 10)
    unfold dgL
    rw [List.length_append]
    split
    · simp only [List.length_cons, List.length_nil]; omega
    · simp only [List.length_cons, List.length_nil]; omega
theorem dC_step : ∀ (k : Nat) (v : Int), 0 ≤ v → dC (k + 1) v = (if 10 ≤ v then dC k (v / 10) else []) ++ [48 + v % 10]
  | 0, v, h => by
    show (if 10 ^ (0 + 1) ≤ v then [48 + v / 10 ^ (0 + 1) % 10] else []) ++ [48 + v % 10] = (if 10 ≤ v then [48 + v / 10 % 10] else []) ++ [48 + v % 10]
    rfl
  | k + 1, v, h => by
    have ih := dC_step k v h
    show (if 10 ^ (k + 1 + 1) ≤ v then [48 + v / 10 ^ (k + 1 + 1) % 10] else []) ++ dC (k + 1) v = (if 10 ≤ v then (if 10 ^ (k + 1) ≤ v / 10 then [48 + v / 10 / 10 ^ (k + 1) % 10] else []) ++ dC k (v / 10) else []) ++ [48 + v % 10]
    have e : v / 10 / 10 ^ (k + 1) = v / 10 ^ (k + 1 + 1) := by rw [Int.ediv_ediv_of_nonneg (by decide), ← Int.pow_succ']
    have p : (10 : Int) ^ (k + 1 + 1) = 10 * 10 ^ (k + 1) := Int.pow_succ' _ _
    have p1 : (10 : Int) ^ (k + 1) = 10 * 10 ^ k := Int.pow_succ' _ _
    have p0 : 0 < (10 : Int) ^ k := Int.pow_pos (by decide)
    rw [ih, e]
    by_cases q : 10 ≤ v
    · rw [if_pos q, if_pos q]
      by_cases r : 10 ^ (k + 1) ≤ v / 10
      · rw [if_pos r, if_pos (by rw [p]; omega)]
        simp
      · rw [if_neg r, if_neg (by rw [p]; omega)]
        simp
    · rw [if_neg q, if_neg q, if_neg (by rw [p, p1]; omega)]
      simp
theorem dC_eq : ∀ (k : Nat) (v : Int), 0 ≤ v → dC k v = dgL k v
  | 0, v, _ => rfl
  | k + 1, v, h => by
    have ih := dC_eq k (v / 10) (by omega)
    rw [dC_step k v h, ih]
    rfl
theorem pow10 : ∀ k : Nat, k < 10 → 1 ≤ (10 : Int) ^ k ∧ (10 : Int) ^ k ≤ 1000000000 := by decide
theorem s_putNumK {x v : Int} {I0 : Mm} {Q : Mm → Prop} (hv : 0 ≤ v ∧ v ≤ 2147483647) (k : Nat) : k < 10 → ∀ (t : List Int), (t.length : Int) + k ≤ 1999999 → Q (tC x I0 (t ++ dC k v)) → ∃ f, L_Te_putNumber_3 v Q f (10 ^ k) (tC x I0 t) := by
  induction k with
  | zero =>
    intro _ t hl hQ
    refine ⟨2, ?_⟩
    have j : J_Te_putNumber_18 v Q (fun x2 I => L_Te_putNumber_3 v Q 1 x2 I) 1 (tC x I0 t) := by
      unfold J_Te_putNumber_18
      rw [Int.ediv_one]
      refine ⟨by omega, hv.1, by omega, s_put (by omega) ⟨by omega, ?_⟩⟩
      simp only [L_Te_putNumber_3]
      exact ⟨fun _ => hQ, fun q => absurd q (by decide)⟩
    rw [Int.pow_zero]
    unfold L_Te_putNumber_3
    exact ⟨fun q => absurd q (by decide), fun _ => ⟨fun _ => j, fun _ => ⟨fun q => absurd rfl q, fun _ => j⟩⟩⟩
  | succ k ih =>
    intro hk t hl hQ
    have p := pow10 (k + 1) hk
    have p2 := pow10 k (by omega)
    have e2 : (10 : Int) ^ (k + 1) = 10 ^ k * 10 := Int.pow_succ _ _
    have e : (10 : Int) ^ (k + 1) / 10 = 10 ^ k := by rw [e2]; omega
    by_cases q : 10 ^ (k + 1) ≤ v
    · have hQ2 : Q (tC x I0 ((t ++ [48 + v / 10 ^ (k + 1) % 10]) ++ dC k v)) := by
        have h : dC (k + 1) v = [48 + v / 10 ^ (k + 1) % 10] ++ dC k v := by show (if 10 ^ (k + 1) ≤ v then [48 + v / 10 ^ (k + 1) % 10] else []) ++ dC k v = _; rw [if_pos q]
        rw [h, ← List.append_assoc] at hQ
        exact hQ
      obtain ⟨f, hf⟩ := ih (by omega) _ (by rw [List.length_append, List.length_singleton]; omega) hQ2
      refine ⟨f + 1, ?_⟩
      have g := Int.ediv_nonneg hv.1 (show 0 ≤ (10 : Int) ^ (k + 1) by omega)
      unfold L_Te_putNumber_3
      refine ⟨fun w => by omega, fun _ => ⟨fun _ => ?_, fun w => by omega⟩⟩
      unfold J_Te_putNumber_18
      refine ⟨by omega, g, by omega, s_put (by omega) ⟨by omega, ?_⟩⟩
      rw [e]
      exact hf
    · have hQ2 : Q (tC x I0 (t ++ dC k v)) := by
        have h : dC (k + 1) v = dC k v := by show (if 10 ^ (k + 1) ≤ v then [48 + v / 10 ^ (k + 1) % 10] else []) ++ dC k v = _; rw [if_neg q]; rfl
        rw [h] at hQ
        exact hQ
      obtain ⟨f, hf⟩ := ih (by omega) t (by omega) hQ2
      refine ⟨f + 1, ?_⟩
      unfold L_Te_putNumber_3
      refine ⟨fun w => by omega, fun _ => ⟨fun w => absurd w q, fun _ => ⟨fun _ => ⟨by omega, ?_⟩, fun w => by omega⟩⟩⟩
      rw [e]
      exact hf
theorem s_putNumber {x v : Int} {I0 : Mm} {t : List Int} {Q : Mm → Prop} (hv : 0 ≤ v ∧ v ≤ 2147483647) (hl : (t.length : Int) ≤ 1000000) (hQ : Q (tC x I0 (t ++ dgL 9 v))) : V_Te_putNumber v (tC x I0 t) Q := by
  rw [← dC_eq 9 v hv.1] at hQ
  exact s_putNumK hv 9 (by omega) t (by omega) hQ
theorem m_spellNum {x : Int} {I0 : Mm} {t : List Int} (k : Nat) : ∀ (d : Nat) (v : Int) (Q : Mm → Prop), 0 ≤ v → v ≤ 2147483647 → v < 10 ^ (k + 1) → k < d → (t.length : Int) + k ≤ 1999999 → Q (tM x I0 (t ++ dgL k v)) → V_M_spellNumber d v (tM x I0 t) Q := by
  induction k with
  | zero =>
    intro d v Q h0 h1 h2 h hl hQ
    obtain ⟨d, rfl⟩ : ∃ e, d = e + 1 := ⟨d - 1, by omega⟩
    rw [show (10 : Int) ^ (0 + 1) = 10 from rfl] at h2
    unfold V_M_spellNumber
    exact ⟨fun _ => ⟨h0, by omega, m_spell (by omega) hQ⟩, fun q => by omega⟩
  | succ k ih =>
    intro d v Q h0 h1 h2 h hl hQ
    obtain ⟨d, rfl⟩ : ∃ e, d = e + 1 := ⟨d - 1, by omega⟩
    have e : (10 : Int) ^ (k + 1 + 1) = 10 ^ (k + 1) * 10 := Int.pow_succ _ _
    unfold V_M_spellNumber
    refine ⟨fun q => ⟨h0, by omega, m_spell (by omega) ?_⟩, fun q => ⟨h0, ih d (v / 10) _ (by omega) (by omega) (by omega) (by omega) (by omega) ⟨h0, by omega, ?_⟩⟩⟩
    · have g : dgL (k + 1) v = [48 + v % 10] := by show (if 10 ≤ v then dgL k (v / 10) else []) ++ [48 + v % 10] = _; rw [if_neg (by omega)]; rfl
      rw [g] at hQ
      exact hQ
    · have g : dgL (k + 1) v = dgL k (v / 10) ++ [48 + v % 10] := by show (if 10 ≤ v then dgL k (v / 10) else []) ++ [48 + v % 10] = _; rw [if_pos (by omega)]
      have l := dgL_len k (v / 10)
      rw [g, ← List.append_assoc] at hQ
      exact m_spell (by rw [List.length_append]; omega) hQ
theorem m_spellNumber {x v : Int} {I0 : Mm} {t : List Int} {Q : Mm → Prop} (hv : 0 ≤ v ∧ v ≤ 2147483647) (hl : (t.length : Int) ≤ 1000000) (hQ : Q (tM x I0 (t ++ dgL 9 v))) : V_M_spellNumber 12 v (tM x I0 t) Q :=
  m_spellNum 9 12 v Q hv.1 hv.2 (by rw [show (10 : Int) ^ (9 + 1) = 10000000000 from rfl]; omega) (by omega) (by omega) hQ
/-- a name's letters as a list -/
def letL (M : Rw) (o : Int) : Nat → List Int
  | 0 => []
  | n + 1 => letL M o n ++ [M (o + (n : Int))]
def namL (M : Rw) (n : Int) : List Int := letL M (48 + 6 * n) (nlet M (48 + 6 * n)).toNat
theorem letL_len (M : Rw) (o : Int) : ∀ n : Nat, (letL M o n).length = n
  | 0 => rfl
  | n + 1 => by
    show (letL M o n ++ [M (o + (n : Int))]).length = n + 1
    rw [List.length_append, letL_len M o n, List.length_singleton]
theorem namL_len (M : Rw) (n : Int) : (namL M n).length ≤ 6 := by
  have := nlet_rng M (48 + 6 * n)
  unfold namL
  rw [letL_len]
  omega
theorem s_putName {x n G c : Int} {I0 : Mm} {t : List Int} {M : Rw} {Q : Mm → Prop} (hR : RNm I0 c M) (hc : 0 ≤ c ∧ c < 30) (hW : WF G M) (hn : 0 ≤ n ∧ n < M 4) (hl : (t.length : Int) ≤ 1000000) (hQ : Q (tC x I0 (t ++ namL M n))) : V_Te_putName c n (tC x I0 t) Q := by
  have b4 := hW.1.2.2.2.2.1
  obtain ⟨m, q1, q2, q3, q4, q5⟩ := nm_let hW hn
  have e : ∀ t' : List Int, ∀ j : Int, 0 ≤ j → j < 4 → tC x I0 t' (c + j) = I0 (c + j) := fun t' j a b => tT_oth (by omega)
  have e0 : tC x I0 t c = I0 c := tT_oth (by omega)
  have kw : tC x I0 t (c + 1) n = wrd M (48 + 6 * n) m := by
    rw [e t 1 (by omega) (by omega)]
    have := (hR.2 n hn.1 hn.2).1
    rw [q5] at this
    exact this
  have hQ2 : Q (tC x I0 (t ++ letL M (48 + 6 * n) m)) := by
    unfold namL at hQ
    rw [q5] at hQ
    exact hQ
  unfold V_Te_putName
  refine s_nmHas (fun a b => ⟨fun _ => ⟨by omega, ?_⟩, fun w => absurd w (by decide)⟩) (fun q => absurd ⟨hn.1, by rw [e0, hR.1]; exact hn.2⟩ q)
  rw [kw]
  refine x_lettersIn q3 q2 ?_
  have g : ∃ f, L_Te_putName_25 c n (wrd M (48 + 6 * n) m) (m : Int) Q f ((0 : Nat) : Int) (tC x I0 (t ++ letL M (48 + 6 * n) 0)) := by
    refine lp (P := fun f i => L_Te_putName_25 c n (wrd M (48 + 6 * n) m) (m : Int) Q f (i : Int) (tC x I0 (t ++ letL M (48 + 6 * n) i))) m (fun f => ?_) (fun i f hi ih => ?_)
    · unfold L_Te_putName_25
      exact ⟨fun _ => hQ2, fun q => absurd q (Int.lt_irrefl _)⟩
    · unfold L_Te_putName_25
      refine ⟨fun q => by omega, fun _ => x_letterAt q3 q2 (fun _ _ => s_put (by rw [List.length_append, letL_len]; omega) ⟨by omega, ?_⟩) (fun q => absurd ⟨by omega, by omega⟩ q)⟩
      rw [List.append_assoc]
      exact ih
  rw [show letL M (48 + 6 * n) 0 = [] from rfl, List.append_nil] at g
  exact g
theorem m_spellName {x n G : Int} {I0 : Mm} {t : List Int} {M : Rw} {Q : Mm → Prop} (hM : I0 237 = M) (hW : WF G M) (hn : 0 ≤ n ∧ n < M 4) (hl : (t.length : Int) ≤ 1000000) (hQ : Q (tM x I0 (t ++ namL M n))) : V_M_spellName n (tM x I0 t) Q := by
  have b4 := hW.1.2.2.2.2.1
  obtain ⟨m, q1, q2, q3, q4, q5⟩ := nm_let hW hn
  have e : ∀ t' : List Int, tM x I0 t' 237 = M := fun t' => by rw [tM_oth (by decide)]; exact hM
  have hQ2 : Q (tM x I0 (t ++ letL M (48 + 6 * n) m)) := by
    unfold namL at hQ
    rw [q5] at hQ
    exact hQ
  have g : ∃ f, L_M_spellName_2 n Q f ((0 : Nat) : Int) (tM x I0 (t ++ letL M (48 + 6 * n) 0)) := by
    refine lp (P := fun f i => L_M_spellName_2 n Q f (i : Int) (tM x I0 (t ++ letL M (48 + 6 * n) i))) m (fun f => ?_) (fun i f hi ih => ?_)
    · unfold L_M_spellName_2
      exact m_letters (e _) ⟨hn.1, by omega⟩ q3 q2 q4 ⟨fun _ => hQ2, fun q => absurd q (Int.lt_irrefl _)⟩
    · unfold L_M_spellName_2
      refine m_letters (e _) ⟨hn.1, by omega⟩ q3 q2 q4 ⟨fun q => by omega, fun _ => ⟨by omega, ?_⟩⟩
      rw [e]
      refine m_spell (by rw [List.length_append, letL_len]; omega) ⟨by omega, ?_⟩
      rw [List.append_assoc]
      exact ih
  rw [show letL M (48 + 6 * n) 0 = [] from rfl, List.append_nil] at g
  exact g
def thL (M : Rw) : Nat → List Int
  | 0 => []
  | n + 1 => thL M n ++ (sxL 10 ++ (dgL 9 (M (780 + (n : Int))) ++ (sxL 11 ++ namL M (M (580 + (n : Int))))))
def ruL (M : Rw) : Nat → List Int
  | 0 => []
  | n + 1 => ruL M n ++ (sxL 12 ++ (namL M (M (144 + 3 * (n : Int))) ++ (sxL 13 ++ (dgL 9 (M (144 + 3 * (n : Int) + 2)) ++ (sxL 11 ++ namL M (M (144 + 3 * (n : Int) + 1)))))))
def hdL (M : Rw) : List Int := sxL 8 ++ (dgL 9 (M 1) ++ (sxL 9 ++ dgL 9 (M 2)))
theorem sx8 : (sxL 8).length = 5 := by decide
theorem sx9 : (sxL 9).length = 6 := by decide
theorem sx10 : (sxL 10).length = 4 := by decide
theorem sx11 : (sxL 11).length = 1 := by decide
theorem sx12 : (sxL 12).length = 7 := by decide
theorem sx13 : (sxL 13).length = 4 := by decide
theorem thL_len (M : Rw) : ∀ n : Nat, (thL M n).length ≤ 21 * n
  | 0 => Nat.le_refl _
  | n + 1 => by
    have ih := thL_len M n
    have a := dgL_len 9 (M (780 + (n : Int)))
    have b := namL_len M (M (580 + (n : Int)))
    show (thL M n ++ (sxL 10 ++ (dgL 9 (M (780 + (n : Int))) ++ (sxL 11 ++ namL M (M (580 + (n : Int))))))).length ≤ _
    rw [List.length_append, List.length_append, List.length_append, List.length_append, sx10, sx11]
    omega
theorem ruL_len (M : Rw) : ∀ n : Nat, (ruL M n).length ≤ 40 * n
  | 0 => Nat.le_refl _
  | n + 1 => by
    have ih := ruL_len M n
    have a := dgL_len 9 (M (144 + 3 * (n : Int) + 2))
    have b := namL_len M (M (144 + 3 * (n : Int)))
    have c := namL_len M (M (144 + 3 * (n : Int) + 1))
    show (ruL M n ++ (sxL 12 ++ (namL M (M (144 + 3 * (n : Int))) ++ (sxL 13 ++ (dgL 9 (M (144 + 3 * (n : Int) + 2)) ++ (sxL 11 ++ namL M (M (144 + 3 * (n : Int) + 1)))))))).length ≤ _
    rw [List.length_append, List.length_append, List.length_append, List.length_append, List.length_append, List.length_append, sx12, sx13, sx11]
    omega
def txL (M : Rw) : List Int := hdL M ++ thL M (M 0).toNat ++ ruL M (M 5).toNat
theorem hdL_len (M : Rw) : (hdL M).length ≤ 31 := by
  have a := dgL_len 9 (M 1)
  have b := dgL_len 9 (M 2)
  unfold hdL
  rw [List.length_append, List.length_append, List.length_append, sx8, sx9]
  omega
theorem s_write {x G c : Int} {I0 : Mm} {M : Rw} {Q : Mm → Prop} (hR : RepC I0 c M) (hc : 0 ≤ c ∧ c < 20) (hW : WF G M) (hQ : Q (tC x I0 (txL M))) : V_Te_write c (tC x I0 []) Q := by
  have b0 := hW.1.1
  have b1 := hW.1.2.1
  have b2 := hW.1.2.2.1
  have b5 := hW.1.2.2.2.2.2.1
  have e : ∀ (t' : List Int) (j : Int), 0 ≤ j → j < 16 → tC x I0 t' (c + j) = I0 (c + j) := fun t' j a b => tT_oth (by omega)
  have ec : ∀ (t' : List Int), tC x I0 t' c = I0 c := fun t' => tT_oth (by omega)
  obtain ⟨rn, rt, ru, rl, tot, h5, h6, h7, h8⟩ := hR
  unfold V_Te_write
  refine s_putText (by decide) (by decide) ?_
  rw [ec, h5]
  refine s_putNumber (by omega) (by have := sx8; rw [List.nil_append]; omega) (s_putText (by have := sx8; have := dgL_len 9 (M 1); rw [List.length_append, List.nil_append]; omega) (by decide) ?_)
  rw [ec, h6]
  refine s_putNumber (by omega) (by have := sx8; have := sx9; have := dgL_len 9 (M 1); rw [List.length_append, List.length_append, List.nil_append]; omega) ?_
  rw [show [] ++ sxL 8 ++ dgL 9 (M 1) ++ sxL 9 ++ dgL 9 (M 2) = hdL M by unfold hdL; simp only [List.nil_append, List.append_assoc]]
  have hl := hdL_len M
  have g : ∃ f, L_Te_write_35 c Q (fun I32 => ∃ f43 : Nat, L_Te_write_93 c Q f43 0 I32) f ((0 : Nat) : Int) (tC x I0 (hdL M ++ thL M 0)) := by
    refine lp (P := fun f i => L_Te_write_35 c Q (fun I32 => ∃ f43 : Nat, L_Te_write_93 c Q f43 0 I32) f (i : Int) (tC x I0 (hdL M ++ thL M i))) (M 0).toNat (fun f => ?_) (fun i f hi ih => ?_)
    · unfold L_Te_write_35
      rw [e _ 5 (by omega) (by omega), rt.1]
      refine ⟨fun _ => ?_, fun q => by omega⟩
      have tl := thL_len M (M 0).toNat
      have g2 : ∃ f, L_Te_write_93 c Q f ((0 : Nat) : Int) (tC x I0 (hdL M ++ thL M (M 0).toNat ++ ruL M 0)) := by
        refine lp (P := fun f i => L_Te_write_93 c Q f (i : Int) (tC x I0 (hdL M ++ thL M (M 0).toNat ++ ruL M i))) (M 5).toNat (fun f => ?_) (fun i f hi ih => ?_)
        · unfold L_Te_write_93
          rw [e _ 9 (by omega) (by omega), ru.1]
          exact ⟨fun _ => hQ, fun q => by omega⟩
        · obtain ⟨k1, k2, k3⟩ := ru.2 (i : Int) (by omega) (by omega)
          have w := hW.2.2.1 (i : Int) (by omega) (by omega)
          have rl2 := ruL_len M i
          have l1 := namL_len M (M (144 + 3 * (i : Int)))
          have l2 := dgL_len 9 (M (144 + 3 * (i : Int) + 2))
          have s12 := sx12
          have s13 := sx13
          have s11 := sx11
          have e1 : ∀ t' : List Int, tC x I0 t' (c + 9 + 1) (i : Int) = M (144 + 3 * (i : Int)) := fun t' => by rw [tC_oth (by omega)]; exact k1
          have e2 : ∀ t' : List Int, tC x I0 t' (c + 9 + 2) (i : Int) = M (144 + 3 * (i : Int) + 1) := fun t' => by rw [tC_oth (by omega)]; exact k2
          have e3 : ∀ t' : List Int, tC x I0 t' (c + 9 + 3) (i : Int) = M (144 + 3 * (i : Int) + 2) := fun t' => by rw [tC_oth (by omega)]; exact k3
          unfold L_Te_write_93
          rw [e _ 9 (by omega) (by omega), ru.1]
          refine ⟨fun q => by omega, fun _ => s_putText (by rw [List.length_append, List.length_append]; omega) (by decide) ⟨by omega, ?_⟩⟩
          rw [e1]
          refine s_putName rn (by omega) hW w.1 (by simp only [List.length_append]; omega) (s_putText (by simp only [List.length_append]; omega) (by decide) ⟨by omega, ?_⟩)
          rw [e3]
          refine s_putNumber (by omega) (by simp only [List.length_append]; omega) (s_putText (by simp only [List.length_append]; omega) (by decide) ⟨by omega, ?_⟩)
          rw [e2]
          refine s_putName rn (by omega) hW w.2.1 (by simp only [List.length_append]; omega) ⟨by omega, ?_⟩
          simp only [ruL, List.append_assoc] at ih ⊢
          exact ih
      rw [show ruL M 0 = [] from rfl, List.append_nil] at g2
      exact g2
    · obtain ⟨k1, k2, k3⟩ := rt.2 (i : Int) (by omega) (by omega)
      have w := hW.2.1.1 (i : Int) (by omega) (by omega)
      have wh := wf_h hW (i : Int) (by omega) (by omega)
      have tl := thL_len M i
      have l2 := dgL_len 9 (M (780 + (i : Int)))
      have s10 := sx10
      have s11 := sx11
      have e2 : ∀ t' : List Int, tC x I0 t' (c + 5 + 2) (i : Int) = M (580 + (i : Int)) := fun t' => by rw [tC_oth (by omega)]; exact k2
      have e3 : ∀ t' : List Int, tC x I0 t' (c + 5 + 3) (i : Int) = M (780 + (i : Int)) := fun t' => by rw [tC_oth (by omega)]; exact k3
      unfold L_Te_write_35
      rw [e _ 5 (by omega) (by omega), rt.1]
      refine ⟨fun q => by omega, fun _ => s_putText (by rw [List.length_append]; omega) (by decide) ⟨by omega, ?_⟩⟩
      rw [e3]
      refine s_putNumber (by omega) (by simp only [List.length_append]; omega) (s_putText (by simp only [List.length_append]; omega) (by decide) ⟨by omega, ?_⟩)
      rw [e2]
      refine s_putName rn (by omega) hW w.2.1 (by simp only [List.length_append]; omega) ⟨by omega, ?_⟩
      simp only [thL, List.append_assoc] at ih ⊢
      exact ih
  rw [show thL M 0 = [] from rfl, List.append_nil] at g
  exact g
theorem m_spellAll {x G : Int} {I0 : Mm} {M : Rw} {Q : Mm → Prop} (hM : I0 237 = M) (hW : WF G M) (hQ : Q (tM x I0 (txL M))) : V_M_spellAll (tM x I0 []) Q := by
  have b0 := hW.1.1
  have b1 := hW.1.2.1
  have b2 := hW.1.2.2.1
  have b5 := hW.1.2.2.2.2.2.1
  have e : ∀ t' : List Int, tM x I0 t' 237 = M := fun t' => by rw [tM_oth (by decide)]; exact hM
  unfold V_M_spellAll
  refine m_spells (by decide) (by decide) ?_
  rw [e]
  refine m_spellNumber (by omega) (by have := sx8; rw [List.nil_append]; omega) (m_spells (by have := sx8; have := dgL_len 9 (M 1); rw [List.length_append, List.nil_append]; omega) (by decide) ?_)
  rw [e]
  refine m_spellNumber (by omega) (by have := sx8; have := sx9; have := dgL_len 9 (M 1); rw [List.length_append, List.length_append, List.nil_append]; omega) ?_
  rw [show [] ++ sxL 8 ++ dgL 9 (M 1) ++ sxL 9 ++ dgL 9 (M 2) = hdL M by unfold hdL; simp only [List.nil_append, List.append_assoc]]
  have hl := hdL_len M
  have g : ∃ f, L_M_spellAll_35 Q (fun I32 => ∃ f43 : Nat, L_M_spellAll_94 Q f43 0 I32) f ((0 : Nat) : Int) (tM x I0 (hdL M ++ thL M 0)) := by
    refine lp (P := fun f i => L_M_spellAll_35 Q (fun I32 => ∃ f43 : Nat, L_M_spellAll_94 Q f43 0 I32) f (i : Int) (tM x I0 (hdL M ++ thL M i))) (M 0).toNat (fun f => ?_) (fun i f hi ih => ?_)
    · unfold L_M_spellAll_35
      rw [e]
      refine ⟨fun _ => ?_, fun q => by omega⟩
      have tl := thL_len M (M 0).toNat
      have g2 : ∃ f, L_M_spellAll_94 Q f ((0 : Nat) : Int) (tM x I0 (hdL M ++ thL M (M 0).toNat ++ ruL M 0)) := by
        refine lp (P := fun f i => L_M_spellAll_94 Q f (i : Int) (tM x I0 (hdL M ++ thL M (M 0).toNat ++ ruL M i))) (M 5).toNat (fun f => ?_) (fun i f hi ih => ?_)
        · unfold L_M_spellAll_94
          rw [e]
          exact ⟨fun _ => hQ, fun q => by omega⟩
        · have w := hW.2.2.1 (i : Int) (by omega) (by omega)
          have rl2 := ruL_len M i
          have l1 := namL_len M (M (144 + 3 * (i : Int)))
          have l2 := dgL_len 9 (M (144 + 3 * (i : Int) + 2))
          have s12 := sx12
          have s13 := sx13
          have s11 := sx11
          unfold L_M_spellAll_94
          rw [e]
          refine ⟨fun q => by omega, fun _ => m_spells (by rw [List.length_append, List.length_append]; omega) (by decide) ⟨by omega, ?_⟩⟩
          rw [e]
          refine m_spellName hM hW w.1 (by simp only [List.length_append]; omega) (m_spells (by simp only [List.length_append]; omega) (by decide) ⟨by omega, ?_⟩)
          rw [e]
          refine m_spellNumber (by omega) (by simp only [List.length_append]; omega) (m_spell (by simp only [List.length_append]; omega) ⟨by omega, ?_⟩)
          rw [e]
          refine m_spellName hM hW w.2.1 (by simp only [List.length_append, List.length_singleton]; omega) ⟨by omega, ?_⟩
          simp only [ruL, List.append_assoc] at ih ⊢
          exact ih
      rw [show ruL M 0 = [] from rfl, List.append_nil] at g2
      exact g2
    · have w := hW.2.1.1 (i : Int) (by omega) (by omega)
      have wh := wf_h hW (i : Int) (by omega) (by omega)
      have tl := thL_len M i
      have l2 := dgL_len 9 (M (780 + (i : Int)))
      have s10 := sx10
      have s11 := sx11
      unfold L_M_spellAll_35
      rw [e]
      refine ⟨fun q => by omega, fun _ => m_spells (by rw [List.length_append]; omega) (by decide) ⟨by omega, ?_⟩⟩
      rw [e]
      refine m_spellNumber (by omega) (by simp only [List.length_append]; omega) (m_spell (by simp only [List.length_append]; omega) ⟨by omega, ?_⟩)
      rw [e]
      refine m_spellName hM hW w.2.1 (by simp only [List.length_append, List.length_singleton]; omega) ⟨by omega, ?_⟩
      simp only [thL, List.append_assoc] at ih ⊢
      exact ih
  rw [show thL M 0 = [] from rfl, List.append_nil] at g
  exact g
theorem o_told {G x1 : Int} {I : Mm} {Q : Mm → Prop} (hI : Inv G I) (hG : G ≤ 2143000000) (hQ : ∀ I' : Mm, Inv (G + 3000000) I' → Q I') : V_X_told x1 I (fun z I1 => V_M_told x1 I1 (fun z' I2 => (z = z' → Q I2) ∧ (¬ z = z' → False))) := by
  obtain ⟨M, u, H, k, S, l, T, hC, hR, hA⟩ := hI
  have hst : Q I := hQ I ⟨M, u, H, k, S, l, T, hC, hR, aw_mono hA (by omega)⟩
  have hW := hA.1
  have hM := hR.1
  unfold V_X_told
  refine ⟨fun a => ?_, fun a => ⟨fun q => by omega, fun _ => fin rfl hst⟩⟩
  unfold V_Te_byteAt
  rw [tT_0 (by decide) (by decide) (by decide)]
  refine s_write hC.1 (by omega) hW ?_
  have hM1 : tC x1 I (txL M) 237 = M := by rw [tC_oth (by decide)]; exact hM
  have hend : Q (tM x1 (tC x1 I (txL M)) (txL M)) := by
    have q : ∀ b : Int, b ≠ 36 → b ≠ 236 → tM x1 (tC x1 I (txL M)) (txL M) b = I b := fun b p1 p2 => by rw [tM_oth p2, tC_oth p1]
    have q2 : ∀ j : Int, j ≠ 12 → j ≠ 13 → j ≠ 14 → tM x1 (tC x1 I (txL M)) (txL M) 236 j = I 236 j := fun j p1 p2 p3 => by rw [show tM x1 (tC x1 I (txL M)) (txL M) 236 j = tC x1 I (txL M) 236 j from tT_j p2 p1 p3, tC_oth (by decide)]
    exact hQ _ ⟨M, u, H, k, S, l, T, cs_fr hC hA (fun b hb => q b (by omega) (by omega)), rs_fr hR (fun b hb => q b (by omega) (by omega)) (q2 3 (by decide) (by decide) (by decide)) (q2 16 (by decide) (by decide) (by decide)), aw_mono hA (by omega)⟩
  have e1 : tC x1 I (txL M) 36 1 = ((txL M).length : Int) := tT_n (by decide)
  have e2 : tC x1 I (txL M) 36 2 = fndT x1 0 (-2) (txL M) := tT_f (by decide) (by decide)
  have e3 : tM x1 (tC x1 I (txL M)) (txL M) 236 12 = ((txL M).length : Int) := tT_n (by decide)
  have e4 : tM x1 (tC x1 I (txL M)) (txL M) 236 14 = fndT x1 0 (-2) (txL M) := tT_f (by decide) (by decide)
  have e5 : wrM (wrM (wrM (tC x1 I (txL M)) 236 12 0) 236 13 x1) 236 14 (-2) = tM x1 (tC x1 I (txL M)) [] := by
    show _ = tT 236 13 12 14 x1 (tC x1 I (txL M)) []
    rw [← tT_0 (a := 236) (w := 13) (n := 12) (f := 14) (by decide) (by decide) (by decide)]
    funext b j
    unfold wrM
    by_cases p : b = 236
    · subst p
      by_cases p1 : j = 12
      · subst p1; simp
      · by_cases p2 : j = 13
        · subst p2; simp
        · simp [p1, p2]
    · simp [p]
  unfold V_M_told
  refine ⟨fun w => ⟨fun _ => ?_, fun q => by omega⟩, fun w => ⟨fun _ => ?_, fun q => by omega⟩⟩
  · rw [e5]
    refine m_spellAll hM1 hW ⟨fun _ => ?_, fun q => absurd q w⟩
    rw [e2, e4]
    exact fin rfl hend
  · rw [e5]
    refine m_spellAll hM1 hW ⟨fun q => absurd w q, fun _ => ?_⟩
    rw [e1, e3]
    exact fin rfl hend
