/-! the Calendar: its parts together -/
def moR (M : Rw) (i d : Int) : Rw := fun j => if j = i then M i + d else M j
def layR (M : Rw) (r w : Int) : Rw := fun j => if j = 1 then r else if j = 2 then w else if j = 9 then M 9 + M 0 else M j
def groR (M : Rw) : Rw := if 2 * M 1 < M 0 ∧ M 1 < 64 then moR (layR M (2 * M 1) (wanR M)) 11 1 else M
def shrR (M : Rw) : Rw := if 2 * M 0 < M 1 ∧ 2 < M 1 then moR (layR M (M 1 / 2) (wanR M)) 12 1 else M
def comR (M : Rw) (num nam due : Int) : Rw := groR (insR M (posR M num due) num nam due)
def goeR (M : Rw) (p : Int) : Rw := shrR (delR M p)
theorem rnm_c {c : Int} {I I' : Mm} {M M' : Rw} (h : RNm I c M) (h0 : M 4 ≤ 16) (hI : ∀ a : Int, c ≤ a → a < c + 4 → I' a = I a) (h4 : M' 4 = M 4) (hM : ∀ j : Int, 16 ≤ j → j < 144 → M' j = M j) : RNm I' c M' := by
  obtain ⟨hn, hk⟩ := h
  refine ⟨by rw [hI c (by omega) (by omega), h4]; exact hn, fun n a b => ?_⟩
  have b2 : n < M 4 := by rw [← h4]; exact b
  obtain ⟨k1, k2, k3⟩ := hk n a b2
  have h2 := word_cong M M' n (fun k q1 q2 => hM k (by omega) (by omega))
  unfold wordR at h2
  rw [h2, hI (c + 1) (by omega) (by omega), hI (c + 2) (by omega) (by omega), hI (c + 3) (by omega) (by omega), hM _ (by omega) (by omega), hM _ (by omega) (by omega)]
  exact ⟨k1, k2, k3⟩
theorem rth_c {c : Int} {I I' : Mm} {M M' : Rw} (h : RTh I c M) (hI : ∀ a : Int, c ≤ a → a < c + 4 → I' a = I a) (h0 : M' 0 = M 0) (hM : ∀ j : Int, 380 ≤ j → M' j = M j) : RTh I' c M' := by
  obtain ⟨hn, hk⟩ := h
  refine ⟨by rw [hI c (by omega) (by omega), h0]; exact hn, fun n a b => ?_⟩
  have k := hk n a (by omega)
  rw [hI (c + 1) (by omega) (by omega), hI (c + 2) (by omega) (by omega), hI (c + 3) (by omega) (by omega), hM _ (by omega), hM _ (by omega), hM _ (by omega)]
  exact k
theorem rru_c {c : Int} {I I' : Mm} {M M' : Rw} (h : RRu I c M) (h0 : M 5 ≤ 12) (hI : ∀ a : Int, c ≤ a → a < c + 4 → I' a = I a) (h5 : M' 5 = M 5) (hM : ∀ j : Int, 144 ≤ j → j < 180 → M' j = M j) : RRu I' c M' := by
  obtain ⟨hn, hk⟩ := h
  refine ⟨by rw [hI c (by omega) (by omega), h5]; exact hn, fun n a b => ?_⟩
  have k := hk n a (by omega)
  rw [hI (c + 1) (by omega) (by omega), hI (c + 2) (by omega) (by omega), hI (c + 3) (by omega) (by omega), hM _ (by omega) (by omega), hM _ (by omega) (by omega), hM _ (by omega) (by omega)]
  exact k
theorem rlo_c {c : Int} {I I' : Mm} {M M' : Rw} (h : RLo I c M) (h0 : M 7 ≤ 50) (hI : ∀ a : Int, c ≤ a → a < c + 2 → I' a = I a) (h7 : M' 7 = M 7) (hM : ∀ j : Int, 180 ≤ j → j < 380 → M' j = M j) : RLo I' c M' := by
  obtain ⟨hn, hf, hk⟩ := h
  rw [← hI c (by omega) (by omega)] at hn hf
  refine ⟨by rw [h7]; exact hn, hf, fun k p a b d e => ?_⟩
  have k := hk k p a (by omega) d e
  rw [hI c (by omega) (by omega), hI (c + 1) (by omega) (by omega), hM _ (by omega) (by omega)]
  exact k
/-- what stands in the rest of the Calendar -/
theorem wt_c {M M' : Rw} (h : WT M) (h0 : M' 0 = M 0) (h3 : M' 3 ≤ M 3) (h4 : M 4 ≤ M' 4) (h6 : M 6 ≤ M' 6) (hM : ∀ j : Int, 380 ≤ j → M' j = M j) : WT M' := by
  obtain ⟨a1, a2, a3⟩ := h
  refine ⟨fun k p q => ?_, fun i j p q r => ?_, fun i j p q r => ?_⟩
  · have := a1 k p (by omega)
    rw [hM (380 + k) (by omega), hM (580 + k) (by omega), hM (780 + k) (by omega)]
    omega
  · have := a2 i j p q (by omega)
    rw [hM _ (by omega), hM _ (by omega), hM _ (by omega), hM _ (by omega)]
    exact this
  · have := a3 i j p q (by omega)
    rw [hM _ (by omega), hM _ (by omega)]
    exact this
theorem wr_c {M M' : Rw} (h : WR M) (h5 : M' 5 = M 5) (h50 : M 5 ≤ 12) (h4 : M 4 ≤ M' 4) (hM : ∀ j : Int, 144 ≤ j → j < 180 → M' j = M j) : WR M' := by
  intro r a b
  have := h r a (by omega)
  rw [hM (144 + 3 * r) (by omega) (by omega), hM (144 + 3 * r + 1) (by omega) (by omega), hM (144 + 3 * r + 2) (by omega) (by omega)]
  omega
theorem wl_c {M M' : Rw} (h : WL M) (h4 : M' 4 = M 4) (h40 : 0 ≤ M 4 ∧ M 4 ≤ 16) (hM : ∀ j : Int, 16 ≤ j → j < 144 → M' j = M j) : WL M' := by
  obtain ⟨a1, a2⟩ := h
  refine ⟨fun n p q => ?_, fun n p q => ?_⟩
  · rw [hM _ (by omega) (by omega), hM _ (by omega) (by omega)]
    exact a1 n (by omega) q
  · obtain ⟨m, m1, m2, m3, m4⟩ := a2 n p (by omega)
    refine ⟨m, m1, m2, fun k u v => ?_, fun k u v => ?_⟩
    · rw [hM _ (by omega) (by omega)]; exact m3 k u v
    · rw [hM _ (by omega) (by omega)]; exact m4 k u v
theorem wf_mono {G G' : Int} {M : Rw} (h : WF G M) (hG : G ≤ G') : WF G' M := by
  obtain ⟨⟨b0, b1, b2, b3, b4, b5, b6, b7, b8⟩, w⟩ := h
  exact ⟨⟨b0, b1, b2, b3, b4, b5, by omega, b7, fun j p q => by have := b8 j p q; omega⟩, w⟩
theorem wf_lay {G : Int} {M : Rw} (h : WF G M) {r w : Int} (hr : rw6 r) (hw : 1 ≤ w ∧ w ≤ 99999999) : WF (G + 200) (layR M r w) := by
  obtain ⟨⟨b0, b1, b2, b3, b4, b5, b6, b7, b8⟩, w1, w2, w3⟩ := h
  refine ⟨⟨b0, hr, hw, b3, b4, b5, ?_, b7, fun j p q => ?_⟩, ?_, ?_, ?_⟩
  · unfold layR; simp only [show ¬ ((6 : Int) = 1) by decide, show ¬ ((6 : Int) = 2) by decide, show ¬ ((6 : Int) = 9) by decide, if_false]; omega
  · have h1 := b8 j p q
    have h2 := b8 9 (by omega) (by omega)
    unfold layR
    rw [if_neg (by omega), if_neg (by omega)]
    split <;> omega
  · exact wt_c w1 rfl (Int.le_refl _) (Int.le_refl _) (Int.le_refl _) (fun j hj => by unfold layR; rw [if_neg (by omega), if_neg (by omega), if_neg (by omega)])
  · exact wr_c w2 rfl b5.2 (Int.le_refl _) (fun j hj hj2 => by unfold layR; rw [if_neg (by omega), if_neg (by omega), if_neg (by omega)])
  · exact wl_c w3 rfl b4 (fun j hj hj2 => by unfold layR; rw [if_neg (by omega), if_neg (by omega), if_neg (by omega)])
theorem mo_ne {M : Rw} {i d j : Int} (h : j ≠ i) : moR M i d j = M j := by unfold moR; rw [if_neg h]
/-- the totals -/
theorem wf_mo {G : Int} {M : Rw} (h : WF G M) {i d : Int} (hi : 8 ≤ i ∧ i < 16 ∨ i = 6) (hd : 0 ≤ d) : WF (G + d) (moR M i d) := by
  obtain ⟨⟨b0, b1, b2, b3, b4, b5, b6, b7, b8⟩, w1, w2, w3⟩ := h
  have e0 : moR M i d 0 = M 0 := mo_ne (by omega)
  have e1 : moR M i d 1 = M 1 := mo_ne (by omega)
  have e2 : moR M i d 2 = M 2 := mo_ne (by omega)
  have e3 : moR M i d 3 = M 3 := mo_ne (by omega)
  have e4 : moR M i d 4 = M 4 := mo_ne (by omega)
  have e5 : moR M i d 5 = M 5 := mo_ne (by omega)
  have e7 : moR M i d 7 = M 7 := mo_ne (by omega)
  have e6 : M 6 ≤ moR M i d 6 ∧ moR M i d 6 ≤ M 6 + d := by
    by_cases q : (6 : Int) = i
    · subst q; simp [moR]; omega
    · rw [mo_ne q]; omega
  refine ⟨⟨by omega, by rw [e1]; exact b1, by omega, by omega, by omega, by omega, by omega, by omega, fun j p q => ?_⟩, ?_, ?_, ?_⟩
  · have h1 := b8 j p q
    by_cases q : j = i
    · subst q; simp [moR]; omega
    · rw [mo_ne q]; omega
  · exact wt_c w1 e0 (by omega) (by omega) (by omega) (fun j hj => mo_ne (by omega))
  · exact wr_c w2 e5 b5.2 (by omega) (fun j hj hj2 => mo_ne (by omega))
  · exact wl_c w3 e4 b4 (fun j hj hj2 => mo_ne (by omega))
theorem wan_rng {G : Int} {M : Rw} (h : WF G M) : 1 ≤ wanR M ∧ wanR M ≤ 99999999 := by
  have := h.1.2.2.1
  unfold wanR
  split
  · exact this
  · omega
theorem ins_0 {M : Rw} {p num nam due : Int} : insR M p num nam due 0 = M 0 + 1 := by simp [insR]
theorem ins_lo {M : Rw} {p num nam due j : Int} (h : j ≠ 0) (h1 : j < 380) : insR M p num nam due j = M j := by
  unfold insR
  rw [if_neg h, if_neg (by omega), if_neg (by omega), if_neg (by omega)]
theorem ins_k {M : Rw} {p num nam due : Int} (h0 : 0 ≤ M 0 ∧ M 0 < 200) (hp : 0 ≤ p ∧ p ≤ M 0) (k : Int) (a : 0 ≤ k) (b : k ≤ M 0) :
    (k < p ∧ insR M p num nam due (380 + k) = M (380 + k) ∧ insR M p num nam due (580 + k) = M (580 + k) ∧ insR M p num nam due (780 + k) = M (780 + k)) ∨
    (k = p ∧ insR M p num nam due (380 + k) = num ∧ insR M p num nam due (580 + k) = nam ∧ insR M p num nam due (780 + k) = due) ∨
    (p < k ∧ insR M p num nam due (380 + k) = M (380 + (k - 1)) ∧ insR M p num nam due (580 + k) = M (580 + (k - 1)) ∧ insR M p num nam due (780 + k) = M (780 + (k - 1))) := by
  rcases (show k < p ∨ k = p ∨ p < k by omega) with h | h | h
  · refine .inl ⟨h, ?_, ?_, ?_⟩ <;> (unfold insR; grind)
  · refine .inr (.inl ⟨h, ?_, ?_, ?_⟩) <;> (unfold insR; grind)
  · refine .inr (.inr ⟨h, ?_, ?_, ?_⟩) <;> (unfold insR; grind)
theorem wf_ins {G : Int} {M : Rw} (h : WF G M) (h0 : M 0 < 200) {num nam due : Int} (hn : 0 ≤ num ∧ num < M 6) (hw : ∀ k : Int, 0 ≤ k → k < M 0 → M (380 + k) ≠ num) (hnam : 0 ≤ nam ∧ nam < M 4) (hdue : M 3 ≤ due ∧ due ≤ 999999999) : WF G (insR M (posR M num due) num nam due) := by
  obtain ⟨⟨b0, b1, b2, b3, b4, b5, b6, b7, b8⟩, ⟨w1, w11, w12⟩, w2, w3⟩ := h
  obtain ⟨p0, p1, p2, p3⟩ := posR_is b0.1 w11 num due
  generalize posR M num due = p at *
  have L : ∀ j : Int, j ≠ 0 → j < 380 → insR M p num nam due j = M j := fun j u v => ins_lo u v
  have K := fun k a b => ins_k (M := M) (p := p) (num := num) (nam := nam) (due := due) ⟨b0.1, h0⟩ ⟨p0, p1⟩ k a b
  have L0 : insR M p num nam due 0 = M 0 + 1 := ins_0
  have L3 := L 3 (by omega) (by omega)
  have L4 := L 4 (by omega) (by omega)
  have L5 := L 5 (by omega) (by omega)
  have L6 := L 6 (by omega) (by omega)
  refine ⟨⟨by omega, ?_, ?_, by omega, by omega, by omega, by omega, ?_, fun j u v => by rw [L j (by omega) (by omega)]; exact b8 j u v⟩, ⟨fun k a b => ?_, fun i j a b d => ?_, fun i j a b d => ?_⟩, ?_, ?_⟩
  · rw [L 1 (by omega) (by omega)]; exact b1
  · rw [L 2 (by omega) (by omega)]; exact b2
  · rw [L 7 (by omega) (by omega)]; exact b7
  · rw [L0] at b
    rw [L3, L4, L6]
    rcases K k a (by omega) with ⟨c1, c2, c3, c4⟩ | ⟨c1, c2, c3, c4⟩ | ⟨c1, c2, c3, c4⟩
    · rw [c2, c3, c4]; exact w1 k a (by omega)
    · rw [c2, c3, c4]; exact ⟨hn, hnam, hdue.1, hdue.2⟩
    · rw [c2, c3, c4]; exact w1 (k - 1) (by omega) (by omega)
  · rw [L0] at d
    rcases K i a (by omega) with ⟨c1, c2, c3, c4⟩ | ⟨c1, c2, c3, c4⟩ | ⟨c1, c2, c3, c4⟩
    · rcases K j (by omega) (by omega) with ⟨d1, d2, d3, d4⟩ | ⟨d1, d2, d3, d4⟩ | ⟨d1, d2, d3, d4⟩
      · rw [c2, c4, d2, d4]; exact w11 i j a b (by omega)
      · rw [c2, c4, d2, d4]; exact p2 i a c1
      · rw [c2, c4, d2, d4]; exact w11 i (j - 1) a (by omega) (by omega)
    · rcases K j (by omega) (by omega) with ⟨d1, d2, d3, d4⟩ | ⟨d1, d2, d3, d4⟩ | ⟨d1, d2, d3, d4⟩
      · omega
      · omega
      · rw [c2, c4, d2, d4]
        have q1 := p3 (j - 1) (by omega) (by omega)
        have q2 := hw (j - 1) (by omega) (by omega)
        omega
    · rcases K j (by omega) (by omega) with ⟨d1, d2, d3, d4⟩ | ⟨d1, d2, d3, d4⟩ | ⟨d1, d2, d3, d4⟩
      · omega
      · omega
      · rw [c2, c4, d2, d4]; exact w11 (i - 1) (j - 1) (by omega) (by omega) (by omega)
  · rw [L0] at d
    rcases K i a (by omega) with ⟨c1, c2, c3, c4⟩ | ⟨c1, c2, c3, c4⟩ | ⟨c1, c2, c3, c4⟩
    · rcases K j (by omega) (by omega) with ⟨d1, d2, d3, d4⟩ | ⟨d1, d2, d3, d4⟩ | ⟨d1, d2, d3, d4⟩
      · rw [c2, d2]; exact w12 i j a b (by omega)
      · rw [c2, d2]; exact hw i a (by omega)
      · rw [c2, d2]; exact w12 i (j - 1) a (by omega) (by omega)
    · rcases K j (by omega) (by omega) with ⟨d1, d2, d3, d4⟩ | ⟨d1, d2, d3, d4⟩ | ⟨d1, d2, d3, d4⟩
      · omega
      · omega
      · rw [c2, d2]; exact fun q => hw (j - 1) (by omega) (by omega) q.symm
    · rcases K j (by omega) (by omega) with ⟨d1, d2, d3, d4⟩ | ⟨d1, d2, d3, d4⟩ | ⟨d1, d2, d3, d4⟩
      · omega
      · omega
      · rw [c2, d2]; exact w12 (i - 1) (j - 1) (by omega) (by omega) (by omega)
  · exact wr_c w2 L5 b5.2 (by omega) (fun j u v => L j (by omega) (by omega))
  · exact wl_c w3 L4 b4 (fun j u v => L j (by omega) (by omega))
theorem del_0 {M : Rw} {p : Int} : delR M p 0 = M 0 - 1 := by simp [delR]
theorem del_lo {M : Rw} {p j : Int} (h0 : M 0 ≤ 200) (h : j ≠ 0) (h1 : j < 380) (hp : 0 ≤ p) : delR M p j = M j := by
  unfold delR
  rw [if_neg h, if_neg (by omega), if_neg (by omega), if_neg (by omega)]
theorem del_k {M : Rw} {p : Int} (h0 : 0 ≤ M 0 ∧ M 0 ≤ 200) (hp : 0 ≤ p ∧ p < M 0) (k : Int) (a : 0 ≤ k) (b : k < M 0 - 1) :
    (k < p ∧ delR M p (380 + k) = M (380 + k) ∧ delR M p (580 + k) = M (580 + k) ∧ delR M p (780 + k) = M (780 + k)) ∨
    (p ≤ k ∧ delR M p (380 + k) = M (380 + (k + 1)) ∧ delR M p (580 + k) = M (580 + (k + 1)) ∧ delR M p (780 + k) = M (780 + (k + 1))) := by
  by_cases h : k < p
  · refine .inl ⟨h, ?_, ?_, ?_⟩ <;> (unfold delR; grind)
  · refine .inr ⟨by omega, ?_, ?_, ?_⟩ <;> (unfold delR; grind)
theorem wf_del {G : Int} {M : Rw} (h : WF G M) {p : Int} (hp : 0 ≤ p ∧ p < M 0) : WF G (delR M p) := by
  obtain ⟨⟨b0, b1, b2, b3, b4, b5, b6, b7, b8⟩, ⟨w1, w11, w12⟩, w2, w3⟩ := h
  have L : ∀ j : Int, j ≠ 0 → j < 380 → delR M p j = M j := fun j u v => del_lo b0.2 u v hp.1
  have K := fun k a b => del_k (M := M) (p := p) b0 hp k a b
  have L0 : delR M p 0 = M 0 - 1 := del_0
  have L3 := L 3 (by omega) (by omega)
  have L4 := L 4 (by omega) (by omega)
  have L5 := L 5 (by omega) (by omega)
  have L6 := L 6 (by omega) (by omega)
  have N : ∀ k : Int, 0 ≤ k → k < M 0 - 1 → ∃ k' : Int, (k ≤ k' ∧ k' ≤ k + 1 ∧ (k < p → k' = k) ∧ (p ≤ k → k' = k + 1)) ∧ delR M p (380 + k) = M (380 + k') ∧ delR M p (580 + k) = M (580 + k') ∧ delR M p (780 + k) = M (780 + k') := by
    intro k a b
    rcases K k a b with ⟨c1, c⟩ | ⟨c1, c⟩
    · exact ⟨k, by omega, c⟩
    · exact ⟨k + 1, by omega, c⟩
  refine ⟨⟨by omega, ?_, ?_, by omega, by omega, by omega, by omega, ?_, fun j u v => by rw [L j (by omega) (by omega)]; exact b8 j u v⟩, ⟨fun k a b => ?_, fun i j a b d => ?_, fun i j a b d => ?_⟩, ?_, ?_⟩
  · rw [L 1 (by omega) (by omega)]; exact b1
  · rw [L 2 (by omega) (by omega)]; exact b2
  · rw [L 7 (by omega) (by omega)]; exact b7
  · obtain ⟨k', c1, c2, c3, c4⟩ := N k a (by omega)
    rw [L3, L4, L6, c2, c3, c4]
    exact w1 k' (by omega) (by omega)
  · obtain ⟨k', c1, c2, c3, c4⟩ := N i a (by omega)
    obtain ⟨k2, d1, d2, d3, d4⟩ := N j (by omega) (by omega)
    rw [c2, c4, d2, d4]
    exact w11 k' k2 (by omega) (by omega) (by omega)
  · obtain ⟨k', c1, c2, c3, c4⟩ := N i a (by omega)
    obtain ⟨k2, d1, d2, d3, d4⟩ := N j (by omega) (by omega)
    rw [c2, d2]
    exact w12 k' k2 (by omega) (by omega) (by omega)
  · exact wr_c w2 L5 b5.2 (by omega) (fun j u v => L j (by omega) (by omega))
  · exact wl_c w3 L4 b4 (fun j u v => L j (by omega) (by omega))
theorem wf_gro {G : Int} {M : Rw} (h : WF G M) : WF (G + 201) (groR M) := by
  unfold groR
  split
  · rename_i q
    exact wf_mono (wf_mo (i := 11) (d := 1) (wf_lay h (by have := h.1.2.1; omega) (wan_rng h)) (by omega) (by omega)) (by omega)
  · exact wf_mono h (by omega)
theorem wf_shr {G : Int} {M : Rw} (h : WF G M) : WF (G + 201) (shrR M) := by
  unfold shrR
  split
  · rename_i q
    exact wf_mono (wf_mo (i := 12) (d := 1) (wf_lay h (by have := h.1.2.1; omega) (wan_rng h)) (by omega) (by omega)) (by omega)
  · exact wf_mono h (by omega)
theorem wf_com {G : Int} {M : Rw} (h : WF G M) (h0 : M 0 < 200) {num nam due : Int} (hn : 0 ≤ num ∧ num < M 6) (hw : ∀ k : Int, 0 ≤ k → k < M 0 → M (380 + k) ≠ num) (hnam : 0 ≤ nam ∧ nam < M 4) (hdue : M 3 ≤ due ∧ due ≤ 999999999) : WF (G + 201) (comR M num nam due) := wf_gro (wf_ins h h0 hn hw hnam hdue)
theorem wf_goe {G : Int} {M : Rw} (h : WF G M) {p : Int} (hp : 0 ≤ p ∧ p < M 0) : WF (G + 201) (goeR M p) := wf_shr (wf_del h hp)
