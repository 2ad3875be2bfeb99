def ffR (M : Rw) (span fr : Int) : Nat → Int
  | 0 => fr
  | n + 1 => if ffR M span fr n ≤ M (780 + (n : Int)) ∧ M (780 + (n : Int)) < ffR M span fr n + span then M (780 + (n : Int)) + 1 else ffR M span fr n
theorem ff_low {G : Int} {M : Rw} (hW : WF G M) (span fr : Int) (n : Nat) (h : (n : Int) ≤ nbR M fr) : ffR M span fr n = fr := by
  induction n with
  | zero => rfl
  | succ n ih =>
    have h1 := (nbR_is hW fr).2.1 n (by omega) (by omega)
    unfold ffR
    rw [ih (by omega), if_neg (by omega)]
theorem ff_rng {G : Int} {M : Rw} (hW : WF G M) (span fr : Int) (hf : 0 ≤ fr ∧ fr ≤ 999999999) (n : Nat) (h : (n : Int) ≤ M 0) : fr ≤ ffR M span fr n ∧ ffR M span fr n ≤ 1000000000 := by
  induction n with
  | zero => unfold ffR; omega
  | succ n ih =>
    have h1 := ih (by omega)
    have h2 := wf_h hW n (by omega) (by omega)
    unfold ffR
    split <;> omega
/-- behind the first that is too far nothing changes -/
theorem ff_stop {G : Int} {M : Rw} (hW : WF G M) (span fr : Int) (i : Nat) (h : (i : Int) < M 0) (hs : ffR M span fr i + span ≤ M (780 + (i : Int))) (n : Nat) (hn : i ≤ n) (hn2 : (n : Int) ≤ M 0) : ffR M span fr n = ffR M span fr i := by
  induction n with
  | zero => rw [show i = 0 by omega]
  | succ n ih =>
    by_cases e : i = n + 1
    · rw [e]
    · have h1 := ih (by omega) (by omega)
      have h2 : M (780 + (i : Int)) ≤ M (780 + (n : Int)) := by
        by_cases e2 : i = n
        · rw [e2]; exact Int.le_refl _
        · exact wf_s hW i n (by omega) (by omega) (by omega)
      have e3 : ffR M span fr (n + 1) = if ffR M span fr n ≤ M (780 + (n : Int)) ∧ M (780 + (n : Int)) < ffR M span fr n + span then M (780 + (n : Int)) + 1 else ffR M span fr n := rfl
      rw [e3, h1, if_neg (by omega)]
theorem ff_near {G : Int} {M : Rw} (hW : WF G M) (span fr : Int) (hs : 1 ≤ span) (n : Nat) (h1 : nbR M fr ≤ n) (h2 : (n : Int) < M 0) : ffR M span fr n - 1 ≤ M (780 + (n : Int)) := by
  induction n with
  | zero =>
    have h3 := (nbR_is hW fr).2.2 ((0 : Nat) : Int) h1 h2
    unfold ffR
    omega
  | succ n ih =>
    by_cases e : nbR M fr = ((n + 1 : Nat) : Int)
    · rw [ff_low hW span fr (n + 1) (by omega)]
      have h3 := (nbR_is hW fr).2.2 ((n + 1 : Nat) : Int) (by omega) h2
      omega
    · have h3 := ih (by omega) (by omega)
      have h4 := wf_s hW n ((n + 1 : Nat) : Int) (by omega) (by omega) h2
      have e3 : ffR M span fr (n + 1) = if ffR M span fr n ≤ M (780 + (n : Int)) ∧ M (780 + (n : Int)) < ffR M span fr n + span then M (780 + (n : Int)) + 1 else ffR M span fr n := rfl
      rw [e3]
      split <;> omega
theorem s_firstFree {c G x1 x2 : Int} {I : Mm} {M : Rw} {Q : Int → Mm → Prop} (hR : RTh I c M) (hW : WF G M) (hs : 1 ≤ x1 ∧ x1 ≤ 999999999) (hf : 0 ≤ x2 ∧ x2 ≤ 999999999) (hQ : Q (ffR M x1 x2 (M 0).toNat) I) : V_Th_firstFree c x1 x2 I Q := by
  have h5 := wf_n hW
  unfold V_Th_firstFree
  refine s_firstFrom hR hW ?_
  obtain ⟨hn, hk⟩ := hR
  obtain ⟨⟨n1, n2⟩, n3, n4⟩ := nbR_is hW x2
  have key : ∀ m i : Nat, i + m = (M 0).toNat → nbR M x2 ≤ i → L_Th_firstFree_9 c x1 x2 Q (m + 1) (ffR M x1 x2 i) (i : Int) I := by
    intro m
    induction m with
    | zero =>
      intro i hi h1
      unfold L_Th_firstFree_9
      rw [show i = (M 0).toNat by omega]
      exact ⟨fun _ => hQ, fun _ => by omega⟩
    | succ m ih =>
      intro i hi h1
      unfold L_Th_firstFree_9
      have e1 := (hk i (by omega) (by omega)).2.2
      have r1 := ff_rng hW x1 x2 hf i (by omega)
      have r2 := wf_h hW i (by omega) (by omega)
      have r3 := ff_near hW x1 x2 hs.1 i h1 (by omega)
      have h2 := ih (i + 1) (by omega) (by omega)
      have e3 : ffR M x1 x2 (i + 1) = if ffR M x1 x2 i ≤ M (780 + (i : Int)) ∧ M (780 + (i : Int)) < ffR M x1 x2 i + x1 then M (780 + (i : Int)) + 1 else ffR M x1 x2 i := rfl
      rw [e1]
      refine ⟨fun _ => by omega, fun _ => ⟨by omega, by omega, fun q => ?_, fun q => ⟨by omega, by omega, by omega, ?_⟩⟩⟩
      · rw [ff_stop hW x1 x2 i (by omega) (by omega) (M 0).toNat (by omega) (by omega)] at hQ
        exact hQ
      · have e4 : M (780 + (i : Int)) + 1 = ffR M x1 x2 (i + 1) := by rw [e3]; split <;> omega
        rw [e4]
        push_cast at h2
        exact h2
  obtain ⟨q, hq⟩ := nat_of n1
  have h := key ((M 0).toNat - q) q (by omega) (by omega)
  rw [ff_low hW x1 x2 q (by omega)] at h
  exact ⟨_, by rw [hq]; exact h⟩
/-- how many of one name, one behind the other, end at a place -/
def lrR (M : Rw) : Nat → Int
  | 0 => 1
  | n + 1 => if M (580 + ((n : Int) + 1)) = M (580 + (n : Int)) then lrR M n + 1 else 1
theorem lr_rng (M : Rw) : ∀ n : Nat, 1 ≤ lrR M n ∧ lrR M n ≤ (n : Int) + 1
  | 0 => by simp [lrR]
  | n + 1 => by
    have h := lr_rng M n
    unfold lrR
    split <;> omega
def lrI (M : Rw) (k : Int) : Int := lrR M k.toNat
theorem lr_name (M : Rw) : ∀ n : Nat, M (580 + ((n : Int) - lrR M n + 1)) = M (580 + (n : Int))
  | 0 => by simp [lrR]
  | n + 1 => by
    have h := lr_name M n
    unfold lrR
    split
    · rename_i e
      push_cast
      rw [show (n : Int) + 1 - (lrR M n + 1) + 1 = (n : Int) - lrR M n + 1 by omega, h, e]
    · push_cast
      rw [show (n : Int) + 1 - 1 + 1 = (n : Int) + 1 by omega]
theorem s_longest {c G x1 : Int} {I : Mm} {M : Rw} {Q : Int → Mm → Prop} (hR : RTh I c M) (hW : WF G M) (h0 : x1 = 0 → Q (rmx (lrI M) (M 0).toNat) I) (h1 : x1 ≠ 0 → Q (rar (lrI M) (fun k => M (380 + (k - lrI M k + 1))) (-2) (M 0).toNat) I) : V_Th_longestOfOneName c x1 I Q := by
  have h5 := wf_n hW
  obtain ⟨hn, hk⟩ := hR
  unfold V_Th_longestOfOneName
  have key : ∀ m i : Nat, ∀ f : Int, i + m = (M 0).toNat → 0 ≤ f → f < 200 → (i = 0 → f = 0) → (0 < i → f = (i : Int) - 1 - lrR M (i - 1) + 1) → L_Th_longestOfOneName_11 c x1 Q (m + 1) (rmx (lrI M) i) (rar (lrI M) (fun k => M (380 + (k - lrI M k + 1))) (-2) i) f (i : Int) I := by
    intro m
    induction m with
    | zero =>
      intro i f hi a0 a1 a2 a3
      unfold L_Th_longestOfOneName_11
      rw [show i = (M 0).toNat by omega]
      exact ⟨fun _ => ⟨h1, h0⟩, fun _ => by omega⟩
    | succ m ih =>
      intro i f hi a0 a1 a2 a3
      unfold L_Th_longestOfOneName_11
      have l1 := lr_rng M i
      have r1 := rmx_rng (lrI M) 200 (by omega) i (fun k p q => by have := lr_rng M k.toNat; unfold lrI; omega)
      have e1 := (hk i (by omega) (by omega)).2.1
      have ef := (hk f a0 (by
        rcases i with _ | i
        · have := a2 rfl; omega
        · have := a3 (by omega); have := lr_rng M (i + 1 - 1); omega)).2.1
      rw [e1, ef]
      have ei : lrI M (i : Int) = lrR M i := by unfold lrI; rw [Int.toNat_natCast]
      -- the first place of the run that ends at i
      have first : ∀ g : Int, g = (i : Int) - lrR M i + 1 → J_Th_longestOfOneName_41 c x1 Q (fun x2 x3 x4 x5 I => L_Th_longestOfOneName_11 c x1 Q (m + 1) x2 x3 x4 x5 I) (rmx (lrI M) i) (rar (lrI M) (fun k => M (380 + (k - lrI M k + 1))) (-2) i) g (i : Int) I := by
        intro g hg
        have h2 := ih (i + 1) g (by omega) (by omega) (by omega) (by omega) (fun _ => by rw [Nat.add_sub_cancel]; omega)
        unfold rmx rar at h2
        push_cast at h2
        have eg := (hk g (by omega) (by omega)).1
        unfold J_Th_longestOfOneName_41
        rw [eg]
        refine ⟨by omega, fun q => ⟨by omega, ?_⟩, fun q => ⟨by omega, by omega, by omega, ?_⟩⟩
        · rw [if_neg (by omega), Int.max_eq_left (by omega)] at h2
          exact h2
        · rw [if_pos (by omega), Int.max_eq_right (by omega), ei] at h2
          rw [show (i : Int) - g + 1 = lrR M i by omega, hg]
          rw [hg] at h2
          exact h2
      refine ⟨fun _ => by omega, fun _ => ⟨by omega, by omega, fun q => first f ?_, fun q => first i ?_⟩⟩
      · rcases i with _ | i
        · have := a2 rfl; unfold lrR; omega
        · have h6 := a3 (by omega)
          rw [Nat.add_sub_cancel] at h6
          push_cast at h6
          have h7 := lr_name M i
          rw [show (i : Int) - lrR M i + 1 = f by omega] at h7
          unfold lrR
          push_cast at q ⊢
          rw [if_pos (by rw [q, h7])]
          omega
      · rcases i with _ | i
        · unfold lrR; omega
        · have h6 := a3 (by omega)
          rw [Nat.add_sub_cancel] at h6
          push_cast at h6
          have h7 := lr_name M i
          rw [show (i : Int) - lrR M i + 1 = f by omega] at h7
          unfold lrR
          push_cast at q ⊢
          rw [if_neg (by intro w; exact q (by rw [w, h7]))]
          omega
  exact ⟨_, key (M 0).toNat 0 0 (by omega) (by omega) (by omega) (fun _ => rfl) (fun h => by omega)⟩
def dgR (M : Rw) (v : Int) : Nat → Int
  | 0 => v
  | n + 1 => (31 * ((31 * ((31 * dgR M v n) + M (380 + (n : Int)))) + M (580 + (n : Int)))) + M (780 + (n : Int))
theorem s_digestFrom {c G x1 : Int} {I : Mm} {M : Rw} {Q : Int → Mm → Prop} (hR : RTh I c M) (hW : WF G M) (hQ : Q (dgR M x1 (M 0).toNat) I) : V_Th_digestFrom c x1 I Q := by
  have h5 := wf_n hW
  obtain ⟨hn, hk⟩ := hR
  unfold V_Th_digestFrom
  refine lp (P := fun f i => L_Th_digestFrom_5 c x1 Q f (dgR M x1 i) (i : Int) I) (M 0).toNat (fun f => ?_) (fun i f hi ih => ?_)
  · unfold L_Th_digestFrom_5
    exact ⟨fun _ => hQ, fun _ => by omega⟩
  · unfold L_Th_digestFrom_5
    obtain ⟨e1, e2, e3⟩ := hk i (by omega) (by omega)
    rw [e1, e2, e3]
    unfold dgR at ih
    push_cast at ih
    exact ⟨fun _ => by omega, fun _ => ⟨by omega, by omega, by omega, by omega, ih⟩⟩
def likT (M M' : Rw) : Prop := M 0 = M' 0 ∧ ∀ k : Int, 0 ≤ k → k < M 0 → M (380 + k) = M' (380 + k) ∧ M (580 + k) = M' (580 + k) ∧ M (780 + k) = M' (780 + k)
theorem s_thLike {c c1 G : Int} {I : Mm} {M M' : Rw} {Q : Int → Mm → Prop} (hR : RTh I c M) (hR' : RTh I c1 M') (hW : WF G M) (h1 : likT M M' → Q 1 I) (h0 : ¬ likT M M' → Q 0 I) : V_Th_isLike c c1 I Q := by
  have h5 := wf_n hW
  obtain ⟨hn, hk⟩ := hR
  obtain ⟨hn', hk'⟩ := hR'
  unfold V_Th_isLike
  refine ⟨fun e => ?_, fun e => h0 (fun q => by have := q.1; omega)⟩
  have key : ∀ m i : Nat, i + m = (M 0).toNat → (∀ k : Int, 0 ≤ k → k < i → M (380 + k) = M' (380 + k) ∧ M (580 + k) = M' (580 + k) ∧ M (780 + k) = M' (780 + k)) → L_Th_isLike_15 c c1 Q (m + 1) (i : Int) I := by
    intro m
    induction m with
    | zero =>
      intro i hi h
      unfold L_Th_isLike_15
      exact ⟨fun _ => h1 ⟨by omega, fun k a b => h k a (by omega)⟩, fun _ => by omega⟩
    | succ m ih =>
      intro i hi h
      unfold L_Th_isLike_15
      obtain ⟨e1, e2, e3⟩ := hk i (by omega) (by omega)
      obtain ⟨g1, g2, g3⟩ := hk' i (by omega) (by omega)
      rw [e1, e2, e3, g1, g2, g3]
      refine ⟨fun _ => by omega, fun _ => ⟨by omega, by omega, fun q => h0 (fun z => q (z.2 i (by omega) (by omega)).1), fun q1 => ⟨by omega, by omega, fun q => h0 (fun z => q (z.2 i (by omega) (by omega)).2.1), fun q2 => ⟨by omega, by omega, fun q3 => ⟨by omega, ?_⟩, fun q => h0 (fun z => q (z.2 i (by omega) (by omega)).2.2)⟩⟩⟩⟩
      have h2 := ih (i + 1) (by omega) (fun k a b => by
        by_cases w : k = i
        · subst w; exact ⟨q1, q2, q3⟩
        · exact h k a (by omega))
      push_cast at h2
      exact h2
  exact ⟨_, key (M 0).toNat 0 (by omega) (fun k a b => by omega)⟩
theorem s_thCopy {c c1 : Int} {I : Mm} {M : Rw} {Q : Mm → Prop} (hR : RTh I c1 M) (h0 : 0 ≤ M 0 ∧ M 0 ≤ 200) (hd : c1 + 4 ≤ c ∨ c + 4 ≤ c1) (hQ : ∀ I' : Mm, RTh I' c M → (∀ a : Int, ¬ (c ≤ a ∧ a < c + 4) → I' a = I a) → Q I') : V_Th_copyFrom c c1 I Q := by
  obtain ⟨hn, hk⟩ := hR
  unfold V_Th_copyFrom
  have e0 : wrM I c 0 (I c1 0) c 0 = M 0 := by rw [wr_s, hn]
  simp only [e0]
  have e1 : cpM (wrM I c 0 (I c1 0)) (c1 + 1) 0 (c + 1) 0 (M 0) c 0 = M 0 := by grind [cpM]
  simp only [e1]
  have e2 : cpM (cpM (wrM I c 0 (I c1 0)) (c1 + 1) 0 (c + 1) 0 (M 0)) (c1 + 2) 0 (c + 2) 0 (M 0) c 0 = M 0 := by grind [cpM]
  simp only [e2]
  refine ⟨by omega, by omega, by omega, by omega, by omega, by omega, by omega, by omega, by omega, hQ _ ⟨?_, fun k a b => ⟨?_, ?_, ?_⟩⟩ (fun a ha => ?_)⟩
  all_goals grind [wrM, cpM]
