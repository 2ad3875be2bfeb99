theorem wf_n {G : Int} {M : Rw} (h : WF G M) : 0 ≤ M 0 ∧ M 0 ≤ 200 := h.1.1
theorem wf_h {G : Int} {M : Rw} (h : WF G M) (k : Int) (a : 0 ≤ k) (b : k < M 0) : 0 ≤ M (780 + k) ∧ M (780 + k) ≤ 999999999 := by
  have h1 := h.2.1.1 k a b
  have h2 := h.1.2.2.2.1
  omega
theorem wf_s {G : Int} {M : Rw} (h : WF G M) (i j : Int) (a : 0 ≤ i) (b : i < j) (d : j < M 0) : M (780 + i) ≤ M (780 + j) := by
  have h1 := h.2.1.2.1 i j a b d
  omega
def renR (M : Rw) (nam oth : Int) : Rw := fun j => if 580 ≤ j ∧ j < 580 + M 0 ∧ M j = nam then oth else M j
theorem s_rename {c x1 x2 : Int} {I : Mm} {M : Rw} {Q : Int → Mm → Prop} (hR : RTh I c M) (h0 : 0 ≤ M 0 ∧ M 0 ≤ 200) (hne : x1 ≠ x2) (hQ : ∀ I' : Mm, RTh I' c (renR M x1 x2) → (∀ a : Int, ¬ (c ≤ a ∧ a < c + 4) → I' a = I a) → Q (cnmR M x1) I') : V_Th_rename c x1 x2 I Q := by
  obtain ⟨hn, hk⟩ := hR
  unfold V_Th_rename
  have key : ∀ m i : Nat, ∀ I' : Mm, i + m = (M 0).toNat → (∀ a : Int, a ≠ c + 2 → I' a = I a) → (∀ k : Int, 0 ≤ k → k < M 0 → I' (c + 2) k = if k < i ∧ M (580 + k) = x1 then x2 else M (580 + k)) → L_Th_rename_5 c x1 x2 Q (m + 1) (cntB (fun k => decide (M (580 + k) = x1)) i) (i : Int) I' := by
    intro m
    induction m with
    | zero =>
      intro i I' hi ho hl
      have e0 := ho c (by omega)
      have e1 := ho (c + 1) (by omega)
      have e3 := ho (c + 3) (by omega)
      have e : cnmR M x1 = cntB (fun k => decide (M (580 + k) = x1)) (M 0).toNat := rfl
      have h3 := hQ I' ⟨by rw [e0, hn]; rfl, fun k a b => by
        have h1 := hl k
        have h2 := hk k
        rw [e1, e3]
        grind [renR]⟩ (fun a ha => ho a (by omega))
      unfold L_Th_rename_5
      grind
    | succ m ih =>
      intro i I' hi ho hl
      have e0 := ho c (by omega)
      have h1 := cntB_rng (fun k => decide (M (580 + k) = x1)) i
      have h2 := hl i
      unfold L_Th_rename_5
      rw [e0, hn]
      refine ⟨fun _ => by omega, fun _ => ⟨by omega, fun b => ⟨by omega, ?_⟩, fun b => ⟨by omega, by omega, by omega, ?_⟩⟩⟩
      · have h3 := ih (i + 1) I' (by omega) ho (fun k a b => by have := hl k a b; grind)
        rw [cntB_s] at h3
        grind
      · have h3 := ih (i + 1) (wrM I' (c + 2) i x2) (by omega) (fun a ha => by rw [wr_oth _ ha]; exact ho a ha) (fun k a b => by have := hl k a b; grind [wrM])
        rw [cntB_s] at h3
        grind
  exact ⟨_, key (M 0).toNat 0 I (by omega) (fun _ _ => rfl) (fun k a b => by rw [(hk k a b).2.1]; grind)⟩
theorem s_gapBehind {c x1 : Int} {G : Int} {I : Mm} {M : Rw} {Q : Int → Mm → Prop} (hR : RTh I c M) (hW : WF G M) (hQ : Q (if 0 ≤ x1 ∧ x1 + 1 < M 0 then M (780 + (x1 + 1)) - M (780 + x1) else 0) I) (hx : r32 (x1 + 1)) : V_Th_gapBehind c x1 I Q := by
  obtain ⟨hn, hk⟩ := hR
  have h1 := hk x1
  have h2 := hk (x1 + 1)
  have h3 := wf_h hW x1
  have h4 := wf_h hW (x1 + 1)
  have h5 := wf_n hW
  unfold V_Th_gapBehind
  grind
theorem s_meanGap {c G : Int} {I : Mm} {M : Rw} {Q : Int → Mm → Prop} (hR : RTh I c M) (hW : WF G M) (hQ : Q (if M 0 < 2 then 0 else (M (780 + (M 0 - 1)) - M 780) / (M 0 - 1)) I) : V_Th_meanGap c I Q := by
  obtain ⟨hn, hk⟩ := hR
  have h5 := wf_n hW
  have h1 := hk 0
  have h2 := hk (M 0 - 1)
  have h3 := wf_h hW 0
  have h4 := wf_h hW (M 0 - 1)
  have h6 := wf_s hW 0 (M 0 - 1)
  unfold V_Th_meanGap
  rw [hn]
  simp only [Int.add_zero] at h1 h3 h6
  by_cases h : 2 ≤ M 0
  · rw [if_neg (by omega)] at hQ
    refine ⟨fun _ => ?_, fun _ => by omega⟩
    rw [(h2 (by omega) (by omega)).2.2, (h1 (by omega) (by omega)).2.2]
    exact ⟨by omega, by omega, by omega, by omega, hQ⟩
  · rw [if_pos (by omega)] at hQ
    exact ⟨fun _ => by omega, fun _ => hQ⟩
def gapR (M : Rw) (k : Int) : Int := M (780 + (k + 1)) - M (780 + k)
theorem gap_rng {G : Int} {M : Rw} (hW : WF G M) (k : Int) (a : 0 ≤ k) (b : k + 1 < M 0) : 0 ≤ gapR M k ∧ gapR M k ≤ 999999999 := by
  have h1 := wf_h hW k a (by omega)
  have h2 := wf_h hW (k + 1) (by omega) b
  have h3 := wf_s hW k (k + 1) a (by omega) b
  unfold gapR
  omega
def gmxR (M : Rw) : Nat → Int
  | 0 => 0
  | n + 1 => max (gmxR M n) (gapR M (n : Int))
theorem s_greatestGap {c G : Int} {I : Mm} {M : Rw} {Q : Int → Mm → Prop} (hR : RTh I c M) (hW : WF G M) (hQ : Q (gmxR M (M 0 - 1).toNat) I) : V_Th_greatestGap c I Q := by
  have h5 := wf_n hW
  unfold V_Th_greatestGap
  refine lp (P := fun f i => L_Th_greatestGap_4 c Q f (gmxR M i) (i : Int) I) (M 0 - 1).toNat (fun f => ?_) (fun i f hi ih => ?_)
  · unfold L_Th_greatestGap_4
    rw [hR.1]
    exact ⟨by omega, fun _ => hQ, fun _ => by omega⟩
  · unfold L_Th_greatestGap_4
    rw [hR.1]
    refine ⟨by omega, fun _ => by omega, fun _ => s_gapBehind hR hW ?_ (by omega)⟩
    rw [if_pos (by omega)]
    exact ⟨by omega, ih⟩
def garR (M : Rw) : Nat → Int
  | 0 => 0
  | n + 1 => if gapR M ((n : Int) + 1) < gapR M (garR M n) then (n : Int) + 1 else garR M n
theorem gar_rng (M : Rw) : ∀ n : Nat, 0 ≤ garR M n ∧ garR M n ≤ n
  | 0 => by simp [garR]
  | n + 1 => by
    have h := gar_rng M n
    unfold garR
    split <;> omega
theorem s_closest {c G : Int} {I : Mm} {M : Rw} {Q : Int → Mm → Prop} (hR : RTh I c M) (hW : WF G M) (hQ : Q (if M 0 < 2 then -1 else garR M (M 0 - 2).toNat) I) : V_Th_closest c I Q := by
  have h5 := wf_n hW
  unfold V_Th_closest
  rw [hR.1]
  refine ⟨fun h => ?_, fun h => ?_⟩
  · rw [if_neg (by omega)] at hQ
    unfold J_Th_closest_13
    refine lp (P := fun f i => L_Th_closest_16 c Q f (garR M i) ((i : Int) + 1) I) (M 0 - 2).toNat (fun f => ?_) (fun i f hi ih => ?_)
    · unfold L_Th_closest_16
      rw [hR.1]
      exact ⟨by omega, fun _ => hQ, fun _ => by omega⟩
    · unfold L_Th_closest_16
      rw [hR.1]
      have h6 := gar_rng M i
      refine ⟨by omega, fun _ => by omega, fun _ => s_gapBehind hR hW ?_ (by omega)⟩
      refine s_gapBehind hR hW ?_ (by omega)
      rw [if_pos (by omega), if_pos (by omega)]
      unfold garR at ih
      unfold gapR at ih
      push_cast at ih
      refine ⟨fun q => ⟨by omega, ?_⟩, fun q => ⟨by omega, ?_⟩⟩
      · rw [if_neg (by omega)] at ih
        exact ih
      · rw [if_pos (by omega)] at ih
        exact ih
  · rw [if_pos (by omega)] at hQ
    unfold J_Th_closest_13
    refine ⟨1, ?_⟩
    unfold L_Th_closest_16
    rw [hR.1]
    exact ⟨by omega, fun _ => hQ, fun _ => by omega⟩
