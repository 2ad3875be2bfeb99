/-- of the first gaps those that are not above twice the mean: their sum, how many -/
def gsR (M : Rw) (mean : Int) : Nat → Int
  | 0 => 0
  | n + 1 => if gapR M (n : Int) ≤ 2 * mean then gsR M mean n + gapR M (n : Int) else gsR M mean n
def gcR (M : Rw) (mean : Int) : Nat → Int
  | 0 => 0
  | n + 1 => if gapR M (n : Int) ≤ 2 * mean then gcR M mean n + 1 else gcR M mean n
def meaR (M : Rw) : Int := (M (780 + (min (M 0) 10 - 1)) - M 780) / (min (M 0) 10 - 1)
def wanR (M : Rw) : Int := if min (M 0) 10 < 2 then M 2 else max 1 (min 99999999 (3 * (gsR M (meaR M) (min (M 0) 10 - 1).toNat / gcR M (meaR M) (min (M 0) 10 - 1).toNat)))
theorem gs_rng {G : Int} {M : Rw} (hW : WF G M) (mean : Int) (n : Nat) (h : (n : Int) < M 0) : 0 ≤ gsR M mean n ∧ gsR M mean n ≤ M (780 + (n : Int)) - M 780 := by
  induction n with
  | zero => simp [gsR]
  | succ n ih =>
    have h1 := ih (by omega)
    have h2 := gap_rng hW n (by omega) (by omega)
    unfold gsR
    have e : gapR M (n : Int) = M (780 + ((n : Int) + 1)) - M (780 + (n : Int)) := rfl
    push_cast
    split <;> omega
theorem gc_rng (M : Rw) (mean : Int) (n : Nat) : 0 ≤ gcR M mean n ∧ gcR M mean n ≤ n := by
  induction n with
  | zero => simp [gcR]
  | succ n ih =>
    unfold gcR
    split <;> omega
theorem gap_sum (M : Rw) (d : Int) (n : Nat) (h : ∀ k : Nat, k < n → d ≤ gapR M (k : Int)) : d * (n : Int) ≤ M (780 + (n : Int)) - M 780 := by
  induction n with
  | zero => simp
  | succ n ih =>
    have h1 := ih (fun k hk => h k (by omega))
    have h2 := h n (by omega)
    have e : gapR M (n : Int) = M (780 + ((n : Int) + 1)) - M (780 + (n : Int)) := rfl
    have e2 : d * ((n + 1 : Nat) : Int) = d * (n : Int) + d := by push_cast; rw [Int.mul_add, Int.mul_one]
    rw [e2]
    push_cast
    omega
theorem gc_zero (M : Rw) (mean : Int) (n : Nat) (h : gcR M mean n ≤ 0) : ∀ k : Nat, k < n → 2 * mean + 1 ≤ gapR M (k : Int) := by
  induction n with
  | zero => intro k hk; omega
  | succ n ih =>
    intro k hk
    have h1 := gc_rng M mean n
    unfold gcR at h
    split at h
    · omega
    · by_cases e : k = n
      · subst e; omega
      · exact ih h k (by omega)
theorem mea_rng {G : Int} {M : Rw} (hW : WF G M) (h : 2 ≤ min (M 0) 10) : 0 ≤ M (780 + (min (M 0) 10 - 1)) - M 780 ∧ 0 ≤ meaR M ∧ meaR M ≤ 999999999 := by
  have h1 := wf_h hW (min (M 0) 10 - 1) (by omega) (by omega)
  have h2 := wf_h hW 0 (by omega) (by omega)
  have h3 := wf_s hW 0 (min (M 0) 10 - 1) (by omega) (by omega) (by omega)
  rw [Int.add_zero] at h2 h3
  have h4 : 0 ≤ M (780 + (min (M 0) 10 - 1)) - M 780 := by omega
  have h5 := Int.ediv_nonneg h4 (show 0 ≤ min (M 0) 10 - 1 by omega)
  have h6 := Int.ediv_le_self (min (M 0) 10 - 1) h4
  unfold meaR
  omega
theorem gc_pos {G : Int} {M : Rw} (hW : WF G M) (h : 2 ≤ min (M 0) 10) : 1 ≤ gcR M (meaR M) (min (M 0) 10 - 1).toNat := by
  have h1 := gc_rng M (meaR M) (min (M 0) 10 - 1).toNat
  by_cases h2 : gcR M (meaR M) (min (M 0) 10 - 1).toNat ≤ 0
  · have h3 := gap_sum M _ _ (gc_zero M (meaR M) _ h2)
    obtain ⟨h4, h5, h6⟩ := mea_rng hW h
    have e : (((min (M 0) 10 - 1).toNat : Nat) : Int) = min (M 0) 10 - 1 := by omega
    rw [e] at h3
    have h7 : (M (780 + (min (M 0) 10 - 1)) - M 780) < (meaR M + 1) * (min (M 0) 10 - 1) := by
      unfold meaR
      exact Int.lt_ediv_add_one_mul_self _ (by omega)
    have h8 : (2 * meaR M + 1) * (min (M 0) 10 - 1) = (meaR M + 1) * (min (M 0) 10 - 1) + meaR M * (min (M 0) 10 - 1) := by
      rw [← Int.add_mul]; congr 1; omega
    have h9 := Int.mul_nonneg h5 (show 0 ≤ min (M 0) 10 - 1 by omega)
    omega
  · omega
theorem s_widthAnew {c G x1 : Int} {I : Mm} {M : Rw} {Q : Int → Mm → Prop} (hR : RTh I c M) (hW : WF G M) (hx : x1 = M 2) (hQ : Q (wanR M) I) : V_Th_widthAnew c x1 I Q := by
  have h5 := wf_n hW
  obtain ⟨hn, hk⟩ := hR
  unfold V_Th_widthAnew
  rw [hn]
  refine ⟨fun h => ?_, fun h => ?_⟩
  · obtain ⟨q1, q2, q3⟩ := mea_rng hW h
    have h1 := (hk 0 (by omega) (by omega)).2.2
    have h2 := (hk (min (M 0) 10 - 1) (by omega) (by omega)).2.2
    have h3 := wf_h hW (min (M 0) 10 - 1) (by omega) (by omega)
    have h4 := wf_h hW 0 (by omega) (by omega)
    rw [Int.add_zero] at h1 h4
    rw [h1, h2]
    refine ⟨by omega, by omega, by omega, by omega, ?_⟩
    intro y hy
    have e : y = meaR M := hy
    subst e
    have w : wanR M = max 1 (min 99999999 (3 * (gsR M (meaR M) (min (M 0) 10 - 1).toNat / gcR M (meaR M) (min (M 0) 10 - 1).toNat))) := by
      unfold wanR; rw [if_neg (by omega)]
    rw [w] at hQ
    refine lp (P := fun f i => L_Th_widthAnew_46 c x1 (min (M 0) 10) (meaR M) Q _ f (gsR M (meaR M) i) (gcR M (meaR M) i) (i : Int) I) (min (M 0) 10 - 1).toNat (fun f => ?_) (fun i f hi ih => ?_)
    · unfold L_Th_widthAnew_46
      have p1 := gc_pos hW h
      have p2 := gs_rng hW (meaR M) (min (M 0) 10 - 1).toNat (by omega)
      have p3 := wf_h hW (((min (M 0) 10 - 1).toNat : Nat) : Int) (by omega) (by omega)
      have p4 := Int.ediv_nonneg p2.1 (show 0 ≤ gcR M (meaR M) (min (M 0) 10 - 1).toNat by omega)
      have p5 := Int.ediv_le_self (gcR M (meaR M) (min (M 0) 10 - 1).toNat) p2.1
      refine ⟨by omega, fun _ => ⟨fun _ => ⟨by omega, ?_⟩, fun _ => by omega⟩, fun _ => by omega⟩
      unfold J_Th_widthAnew_117
      exact ⟨by omega, by omega, by omega, hQ⟩
    · unfold L_Th_widthAnew_46
      have p1 := gc_rng M (meaR M) i
      have p2 := gs_rng hW (meaR M) i (by omega)
      have p3 := wf_h hW (i : Int) (by omega) (by omega)
      have p4 := wf_h hW ((i : Int) + 1) (by omega) (by omega)
      have p5 := gap_rng hW (i : Int) (by omega) (by omega)
      have e1 := (hk (i : Int) (by omega) (by omega)).2.2
      have e2 := (hk ((i : Int) + 1) (by omega) (by omega)).2.2
      rw [e1, e2]
      refine ⟨by omega, fun _ => by omega, fun _ => ⟨by omega, by omega, ?_⟩⟩
      intro y hy
      have e : y = gapR M (i : Int) := hy
      subst e
      unfold gsR gcR at ih
      push_cast at ih
      refine ⟨by omega, by omega, fun q => ⟨by omega, ?_⟩, fun q => ⟨by omega, by omega, by omega, ?_⟩⟩
      · rw [if_neg (by omega), if_neg (by omega)] at ih
        exact ih
      · rw [if_pos (by omega), if_pos (by omega)] at ih
        exact ih
  · have w : wanR M = x1 := by unfold wanR; rw [if_pos (by omega), hx]
    rw [← w]
    exact hQ
/-- how many are due ahead of an hour -/
def nbR (M : Rw) (h : Int) : Int := cntB (fun k => decide (M (780 + k) < h)) (M 0).toNat
theorem nbR_is {G : Int} {M : Rw} (hW : WF G M) (h : Int) : (0 ≤ nbR M h ∧ nbR M h ≤ M 0) ∧ (∀ k : Int, 0 ≤ k → k < nbR M h → M (780 + k) < h) ∧ ∀ k : Int, nbR M h ≤ k → k < M 0 → h ≤ M (780 + k) := by
  have h5 := wf_n hW
  have h1 := posR_is h5.1 hW.2.1.2.1 (-1) h
  have e : posR M (-1) h = nbR M h := by
    unfold posR nbR
    have key : ∀ n : Nat, (n : Int) ≤ M 0 → cntB (fun k => decide (ahd (M (780 + k)) (M (380 + k)) h (-1))) n = cntB (fun k => decide (M (780 + k) < h)) n := by
      intro n
      induction n with
      | zero => intro _; rfl
      | succ n ih =>
        intro hn
        rw [cntB_s, cntB_s, ih (by omega)]
        have h3 := (hW.2.1.1 n (by omega) (by omega)).1
        congr 2
        have h4 : ahd (M (780 + (n : Int))) (M (380 + (n : Int))) h (-1) ↔ M (780 + (n : Int)) < h := by unfold ahd; omega
        simp only [h4]
    exact key _ (by omega)
  rw [e] at h1
  obtain ⟨a, b, d, f⟩ := h1
  refine ⟨⟨a, b⟩, fun k p q => ?_, fun k p q => ?_⟩
  · have h2 := d k p q
    have h3 := hW.2.1.1 k p (by omega)
    omega
  · have h2 := f k p q
    omega
theorem nbR_pos {G : Int} {M : Rw} (hW : WF G M) (h : Int) : posR M (-1) h = nbR M h := by
  refine isPos_eq ?_
  obtain ⟨⟨a, b⟩, d, f⟩ := nbR_is hW h
  refine ⟨a, b, fun k p q => Or.inl (d k p q), fun k p q => ?_⟩
  have h1 := f k p q
  have h2 := hW.2.1.1 k (by omega) q
  unfold ahd
  omega
theorem s_firstFrom {c G x1 : Int} {I : Mm} {M : Rw} {Q : Int → Mm → Prop} (hR : RTh I c M) (hW : WF G M) (hQ : Q (nbR M x1) I) : V_Th_firstFrom c x1 I Q := by
  unfold V_Th_firstFrom
  exact s_placeFor hR (wf_n hW) hW.2.1.2.1 (by rw [nbR_pos hW]; exact hQ)
def rmx (f : Int → Int) : Nat → Int
  | 0 => 0
  | n + 1 => max (rmx f n) (f (n : Int))
def rar (f g : Int → Int) (d : Int) : Nat → Int
  | 0 => d
  | n + 1 => if rmx f n < f (n : Int) then g (n : Int) else rar f g d n
def fwR (M : Rw) (span k : Int) : Int := nbR M (M (780 + k) + span) - k
theorem rmx_rng (f : Int → Int) (b : Int) (hb : 0 ≤ b) : ∀ n : Nat, (∀ k : Int, 0 ≤ k → k < n → f k ≤ b) → 0 ≤ rmx f n ∧ rmx f n ≤ b
  | 0, _ => by simp [rmx]; exact hb
  | n + 1, h => by
    have h1 := rmx_rng f b hb n (fun k p q => h k p (by omega))
    have h2 := h n (by omega) (by omega)
    unfold rmx
    omega
theorem fw_rng {G : Int} {M : Rw} (hW : WF G M) {span k : Int} (hs : 1 ≤ span) (a : 0 ≤ k) (b : k < M 0) : 1 ≤ fwR M span k ∧ fwR M span k ≤ M 0 - k := by
  obtain ⟨⟨h1, h2⟩, h3, h4⟩ := nbR_is hW (M (780 + k) + span)
  unfold fwR
  by_cases h : nbR M (M (780 + k) + span) ≤ k
  · have h5 := h4 k h b
    omega
  · omega
theorem s_mw21 {c G x1 x2 x3 x4 b : Int} {i : Nat} {I : Mm} {M : Rw} {Q : Int → Mm → Prop} {K : Int → Mm → Prop} (hR : RTh I c M) (hW : WF G M) (hs : 1 ≤ x1 ∧ x1 ≤ 999999999) (hi : (i : Int) < M 0) (hb : 0 ≤ b ∧ b ≤ nbR M (M (780 + (i : Int)) + x1)) (hK : K (nbR M (M (780 + (i : Int)) + x1)) I) : ∃ f : Nat, L_Th_mostWithin_21 c x1 x2 x3 x4 (i : Int) Q K f b I := by
  have h5 := wf_n hW
  obtain ⟨hn, hk⟩ := hR
  obtain ⟨⟨n1, n2⟩, n3, n4⟩ := nbR_is hW (M (780 + (i : Int)) + x1)
  have p3 := wf_h hW (i : Int) (by omega) (by omega)
  have e3 := (hk (i : Int) (by omega) (by omega)).2.2
  have h := lp (P := fun f j => L_Th_mostWithin_21 c x1 x2 x3 x4 (i : Int) Q K f (b + (j : Int)) I) (nbR M (M (780 + (i : Int)) + x1) - b).toNat (fun f => ?_) (fun j f hj ihj => ?_)
  · obtain ⟨f, h⟩ := h
    exact ⟨f, by simpa using h⟩
  · have e : b + (((nbR M (M (780 + (i : Int)) + x1) - b).toNat : Nat) : Int) = nbR M (M (780 + (i : Int)) + x1) := by omega
    rw [e]
    unfold L_Th_mostWithin_21
    refine ⟨fun _ => hK, fun q => ⟨by omega, by omega, ?_⟩⟩
    rw [hn] at q
    have e4 := (hk (nbR M (M (780 + (i : Int)) + x1)) (by omega) q).2.2
    have g8 := n4 _ (Int.le_refl _) q
    have g9 := wf_h hW _ n1 q
    rw [e3, e4]
    exact ⟨by omega, fun _ => hK, fun _ => by omega⟩
  · unfold L_Th_mostWithin_21
    have e4 := (hk (b + (j : Int)) (by omega) (by omega)).2.2
    have g7 := n3 (b + (j : Int)) (by omega) (by omega)
    have g9 := wf_h hW (b + (j : Int)) (by omega) (by omega)
    rw [e3, e4]
    refine ⟨fun _ => by omega, fun _ => ⟨by omega, by omega, by omega, fun _ => by omega, fun _ => ⟨by omega, ?_⟩⟩⟩
    push_cast at ihj
    rw [Int.add_assoc]
    exact ihj
theorem s_mostWithin {c G x1 x2 : Int} {I : Mm} {M : Rw} {Q : Int → Mm → Prop} (hR : RTh I c M) (hW : WF G M) (hs : 1 ≤ x1 ∧ x1 ≤ 999999999) (h0 : x2 = 0 → Q (rmx (fwR M x1) (M 0).toNat) I) (h1 : x2 ≠ 0 → Q (rar (fwR M x1) (fun k => M (780 + k)) (-2) (M 0).toNat) I) : V_Th_mostWithin c x1 x2 I Q := by
  have h5 := wf_n hW
  obtain ⟨hn, hk⟩ := hR
  unfold V_Th_mostWithin
  have key : ∀ m i : Nat, ∀ b : Int, i + m = (M 0).toNat → 0 ≤ b → b ≤ M 0 → (∀ k : Int, (i : Int) ≤ k → k < M 0 → b ≤ nbR M (M (780 + k) + x1)) → L_Th_mostWithin_12 c x1 x2 Q (m + 1) (rmx (fwR M x1) i) (rar (fwR M x1) (fun k => M (780 + k)) (-2) i) b (i : Int) I := by
    intro m
    induction m with
    | zero =>
      intro i b hi hb1 hb2 hb3
      unfold L_Th_mostWithin_12
      have e : i = (M 0).toNat := by omega
      subst e
      exact ⟨fun _ => ⟨fun q => h1 q, fun q => h0 q⟩, fun _ => by omega⟩
    | succ m ih =>
      intro i b hi hb1 hb2 hb3
      unfold L_Th_mostWithin_12
      refine ⟨fun _ => by omega, fun _ => ?_⟩
      obtain ⟨⟨n1, n2⟩, n3, n4⟩ := nbR_is hW (M (780 + (i : Int)) + x1)
      have p3 := wf_h hW (i : Int) (by omega) (by omega)
      have e3 := (hk (i : Int) (by omega) (by omega)).2.2
      have hbi := hb3 i (Int.le_refl _) (by omega)
      obtain ⟨f1, f2⟩ := fw_rng hW hs.1 (show 0 ≤ (i : Int) by omega) (by omega)
      have r1 := rmx_rng (fwR M x1) 200 (by omega) i (fun k p q => by have := fw_rng hW hs.1 p (show k < M 0 by omega); omega)
      refine s_mw21 ⟨hn, hk⟩ hW hs (by omega) ⟨hb1, hbi⟩ ?_
      have ef : fwR M x1 (i : Int) = nbR M (M (780 + (i : Int)) + x1) - i := rfl
      have hnext := ih (i + 1) (nbR M (M (780 + (i : Int)) + x1)) (by omega) n1 n2 (fun k a d => by
        obtain ⟨⟨g1, g2⟩, g3, g4⟩ := nbR_is hW (M (780 + k) + x1)
        have g5 := wf_s hW i k (by omega) (by omega) d
        by_cases g6 : nbR M (M (780 + (i : Int)) + x1) ≤ nbR M (M (780 + k) + x1)
        · exact g6
        · have g7 := n3 (nbR M (M (780 + k) + x1)) g1 (by omega)
          have g8 := g4 (nbR M (M (780 + k) + x1)) (Int.le_refl _) (by omega)
          omega)
      unfold rmx rar at hnext
      push_cast at hnext
      refine ⟨by omega, fun q => ⟨by omega, ?_⟩, fun q => ⟨by omega, by omega, by omega, ?_⟩⟩
      · rw [if_neg (by omega), Int.max_eq_left (by omega)] at hnext
        exact hnext
      · rw [if_pos (by omega), Int.max_eq_right (by omega)] at hnext
        rw [e3]
        exact hnext
  exact ⟨_, key (M 0).toNat 0 0 (by omega) (by omega) (by omega) (fun k a b => (nbR_is hW _).1.1)⟩
