/-! the reference's row: what its methods make of it -/
def rset (I : Mm) (M : Rw) : Mm := fun a => if a = 237 then M else I a
theorem rs_237 (I : Mm) (M : Rw) : rset I M 237 = M := by simp [rset]
theorem rs_ne (I : Mm) (M : Rw) {a : Int} (h : a ≠ 237) : rset I M a = I a := by simp [rset, h]
theorem rs_id (I : Mm) : rset I (I 237) = I := by
  funext a
  by_cases h : a = 237
  · rw [h, rs_237]
  · rw [rs_ne _ _ h]
theorem rs_rs (I : Mm) (M M' : Rw) : rset (rset I M) M' = rset I M' := by
  funext a
  by_cases h : a = 237
  · rw [h, rs_237, rs_237]
  · rw [rs_ne _ _ h, rs_ne _ _ h, rs_ne _ _ h]
def stR (M : Rw) (i v : Int) : Rw := fun j => if j = i then v else M j
theorem wr_rs (I : Mm) (i v : Int) : wrM I 237 i v = rset I (stR (I 237) i v) := by
  funext a j
  by_cases h : a = 237
  · subst h; simp [wrM, rset, stR]
  · rw [rs_ne _ _ h]; simp [wrM, h]
theorem st_mo (M : Rw) (i d : Int) : stR M i (M i + d) = moR M i d := rfl
theorem lpu {P : Nat → Nat → Prop} (s e : Nat) (h0 : s ≤ e) (h1 : ∀ n, P (n + 1) e) (h2 : ∀ i n, s ≤ i → i < e → P n (i + 1) → P (n + 1) i) : ∃ n, P n s := by
  have h : ∀ k, s + k ≤ e → P (k + 1) (e - k) := by
    intro k
    induction k with
    | zero => intro _; exact h1 0
    | succ k ih =>
      intro hk
      have h4 := h2 (e - (k + 1)) (k + 1) (by omega) (by omega) (by rw [show e - (k + 1) + 1 = e - k by omega]; exact ih (by omega))
      exact h4
  have h5 := h (e - s) (by omega)
  rw [show e - (e - s) = s by omega] at h5
  exact ⟨_, h5⟩
theorem lpd {P : Nat → Nat → Prop} (e n : Nat) (h1 : ∀ f, P (f + 1) e) (h2 : ∀ i f, e ≤ i → i < e + n → P f i → P (f + 1) (i + 1)) : ∃ f, P f (e + n) := by
  have h : ∀ k, k ≤ n → P (k + 1) (e + k) := by
    intro k
    induction k with
    | zero => intro _; exact h1 0
    | succ k ih => intro hk; exact h2 (e + k) (k + 1) (by omega) (by omega) (ih (by omega))
  exact ⟨_, h n (Nat.le_refl n)⟩
theorem gap_cong {M M' : Rw} (h : ∀ j : Int, 380 ≤ j → M' j = M j) (k : Int) (hk : 0 ≤ k) : gapR M' k = gapR M k := by
  unfold gapR
  rw [h _ (by omega), h _ (by omega)]
theorem gs_cong {M M' : Rw} (h : ∀ j : Int, 380 ≤ j → M' j = M j) (mean : Int) : ∀ n : Nat, gsR M' mean n = gsR M mean n ∧ gcR M' mean n = gcR M mean n
  | 0 => ⟨rfl, rfl⟩
  | n + 1 => by
    obtain ⟨h1, h2⟩ := gs_cong h mean n
    unfold gsR gcR
    rw [gap_cong h _ (by omega), h1, h2]
    exact ⟨rfl, rfl⟩
theorem wan_cong {M M' : Rw} (h0 : M' 0 = M 0) (h2 : M' 2 = M 2) (h : ∀ j : Int, 380 ≤ j → M' j = M j) (hn : 0 ≤ M 0) : wanR M' = wanR M := by
  unfold wanR
  rw [h0, h2]
  by_cases q : min (M 0) 10 < 2
  · rw [if_pos q, if_pos q]
  · rw [if_neg q, if_neg q]
    have e : meaR M' = meaR M := by
      unfold meaR
      rw [h0, h _ (by omega), h 780 (by omega)]
    rw [e, (gs_cong h (meaR M) _).1, (gs_cong h (meaR M) _).2]
theorem pos_cong {M M' : Rw} (h0 : M' 0 = M 0) (h : ∀ j : Int, 380 ≤ j → M' j = M j) (num due : Int) : posR M' num due = posR M num due := by
  unfold posR
  rw [h0]
  have : ∀ n : Nat, cntB (fun k => decide (ahd (M' (780 + k)) (M' (380 + k)) due num)) n = cntB (fun k => decide (ahd (M (780 + k)) (M (380 + k)) due num)) n := by
    intro n
    induction n with
    | zero => rfl
    | succ n ih =>
      unfold cntB
      rw [ih, h _ (by omega), h _ (by omega)]
  exact this _
theorem m_widthAnew {G : Int} {I : Mm} {M M0 : Rw} {Q : Int → Mm → Prop} (hM : I 237 = M0) (hE : ∀ j : Int, j ≠ 6 → M j = M0 j) (hW : WF G M) (hQ : Q (wanR M0) I) : V_M_widthAnew I Q := by
  rw [← wan_cong (hE 0 (by omega)) (hE 2 (by omega)) (fun j hj => hE j (by omega)) (by rw [← hE 0 (by omega)]; exact hW.1.1.1)] at hQ
  have b0 := hW.1.1
  have key : J_M_widthAnew_22 Q (min (M 0) 10) I := by
    unfold J_M_widthAnew_22
    rw [hM, ← hE 2 (by omega), ← hE 780 (by omega)]
    refine ⟨fun h => ?_, fun h => by unfold wanR at hQ; rw [if_pos h] at hQ; exact hQ⟩
    obtain ⟨q1, q2, q3⟩ := mea_rng hW h
    have h3 := wf_h hW (min (M 0) 10 - 1) (by omega) (by omega)
    have h4 := wf_h hW 0 (by omega) (by omega)
    rw [Int.add_zero] at h4
    rw [show 780 + min (M 0) 10 - 1 = 780 + (min (M 0) 10 - 1) by omega, ← hE (780 + (min (M 0) 10 - 1)) (by omega)]
    refine ⟨by omega, by omega, by omega, by omega, ?_⟩
    intro y hy
    have e : y = meaR M := hy
    subst e
    have w : wanR M = max 1 (min 99999999 (3 * (gsR M (meaR M) (min (M 0) 10 - 1).toNat / gcR M (meaR M) (min (M 0) 10 - 1).toNat))) := by
      unfold wanR; rw [if_neg (by omega)]
    rw [w] at hQ
    refine lp (P := fun f i => L_M_widthAnew_69 (min (M 0) 10) (meaR M) Q _ f (gsR M (meaR M) i) (gcR M (meaR M) i) ((i : Int) + 1) I) (min (M 0) 10 - 1).toNat (fun f => ?_) (fun i f hi ih => ?_)
    · unfold L_M_widthAnew_69
      have p1 := gc_pos hW h
      have p2 := gs_rng hW (meaR M) (min (M 0) 10 - 1).toNat (by omega)
      have p3 := wf_h hW (((min (M 0) 10 - 1).toNat : Nat) : Int) (by omega) (by omega)
      have p4 := Int.ediv_nonneg p2.1 (show 0 ≤ gcR M (meaR M) (min (M 0) 10 - 1).toNat by omega)
      have p5 := Int.ediv_le_self (gcR M (meaR M) (min (M 0) 10 - 1).toNat) p2.1
      have p6 := (gc_rng M (meaR M) (min (M 0) 10 - 1).toNat)
      generalize gsR M (meaR M) (min (M 0) 10 - 1).toNat = S at *
      generalize gcR M (meaR M) (min (M 0) 10 - 1).toNat = C at *
      generalize S / C = D at *
      refine ⟨fun _ => ⟨by omega, by omega, fun a => ⟨fun b => ⟨by omega, ?_⟩, fun b => ⟨by omega, ?_⟩⟩, fun a => ⟨by omega, ?_⟩⟩, fun q => by omega⟩
      · rw [show max 1 (min 99999999 (3 * D)) = 3 * D by omega] at hQ; exact hQ
      · rw [show max 1 (min 99999999 (3 * D)) = 99999999 by omega] at hQ; exact hQ
      · rw [show max 1 (min 99999999 (3 * D)) = 1 by omega] at hQ; exact hQ
    · have g := gap_rng hW (i : Int) (by omega) (by omega)
      have e1 : gsR M (meaR M) (i + 1) = if gapR M (i : Int) ≤ 2 * meaR M then gsR M (meaR M) i + gapR M (i : Int) else gsR M (meaR M) i := rfl
      have e2 : gcR M (meaR M) (i + 1) = if gapR M (i : Int) ≤ 2 * meaR M then gcR M (meaR M) i + 1 else gcR M (meaR M) i := rfl
      have p6 := (gc_rng M (meaR M) i)
      rw [e1, e2] at ih
      unfold L_M_widthAnew_69
      rw [hM, show 780 + ((i : Int) + 1) - 1 = 780 + (i : Int) by omega, ← hE (780 + ((i : Int) + 1)) (by omega), ← hE (780 + (i : Int)) (by omega)]
      refine ⟨fun q => by omega, fun _ => ⟨by omega, by omega, ?_⟩⟩
      intro z hz
      have ez : z = gapR M (i : Int) := hz
      subst ez
      refine ⟨by omega, by omega, fun q => ⟨by omega, by omega, ?_⟩, fun q => ⟨by omega, ?_⟩⟩
      · rw [if_pos q, if_pos q] at ih; exact ih
      · rw [if_neg (by omega), if_neg (by omega)] at ih; exact ih
  unfold V_M_widthAnew
  rw [hM, ← hE 0 (by omega)]
  refine ⟨fun q => ?_, fun q => ?_⟩
  · rw [show min (M 0) 10 = 10 by omega] at key; exact key
  · rw [show min (M 0) 10 = M 0 by omega] at key; exact key
theorem m_laysAnew {G r : Int} {I : Mm} {M M' : Rw} {Q : Mm → Prop} (hM : I 237 = M) (hE : ∀ j : Int, j ≠ 6 → M' j = M j) (hW : WF G M') (hG : G ≤ 2147483000) (hQ : Q (rset I (layR M r (wanR M)))) : V_M_laysAnew r I Q := by
  have b9 := hW.1.2.2.2.2.2.2.2.2 9 (by omega) (by omega)
  rw [hE 9 (by omega)] at b9
  have b0 := hW.1.1
  rw [hE 0 (by omega)] at b0
  unfold V_M_laysAnew
  refine m_widthAnew hM hE hW ?_
  simp only [wr_rs, rs_237, rs_rs, hM]
  have e9 : stR (stR M 1 r) 2 (wanR M) 9 = M 9 := by simp [stR]
  have e0 : stR (stR M 1 r) 2 (wanR M) 0 = M 0 := by simp [stR]
  rw [e9, e0]
  have e : stR (stR (stR M 1 r) 2 (wanR M)) 9 (M 9 + M 0) = layR M r (wanR M) := by
    funext j
    unfold stR layR
    grind
  rw [e]
  exact ⟨by omega, hQ⟩
theorem m_grows {G : Int} {I : Mm} {M M' : Rw} {Q : Mm → Prop} (hM : I 237 = M) (hE : ∀ j : Int, j ≠ 6 → M' j = M j) (hW : WF G M') (hG : G ≤ 2147483000) (hQ : Q (rset I (groR M))) : V_M_grows I Q := by
  have b1 := hW.1.2.1
  have e1 := hE 1 (by omega)
  rw [e1] at b1
  have b0 := hW.1.1
  rw [hE 0 (by omega)] at b0
  have b11 := hW.1.2.2.2.2.2.2.2.2 11 (by omega) (by omega)
  rw [hE 11 (by omega)] at b11
  have hid : rset I M = I := by rw [← hM]; exact rs_id I
  unfold V_M_grows
  unfold groR at hQ
  rw [hM]
  refine ⟨by omega, fun q => by rw [if_neg (by omega), hid] at hQ; exact hQ, fun q => ⟨fun q2 => ⟨by omega, m_laysAnew hM hE hW hG ?_⟩, fun q2 => by rw [if_neg (by omega), hid] at hQ; exact hQ⟩⟩
  rw [if_pos (by omega)] at hQ
  simp only [wr_rs, rs_237, rs_rs]
  have e : layR M (2 * M 1) (wanR M) 11 = M 11 := by simp [layR]
  refine ⟨by rw [e]; omega, hQ⟩
theorem m_shrinks {G : Int} {I : Mm} {M M' : Rw} {Q : Mm → Prop} (hM : I 237 = M) (hE : ∀ j : Int, j ≠ 6 → M' j = M j) (hW : WF G M') (hG : G ≤ 2147483000) (hQ : Q (rset I (shrR M))) : V_M_shrinks I Q := by
  have b1 := hW.1.2.1
  have e1 := hE 1 (by omega)
  rw [e1] at b1
  have b0 := hW.1.1
  rw [hE 0 (by omega)] at b0
  have b12 := hW.1.2.2.2.2.2.2.2.2 12 (by omega) (by omega)
  rw [hE 12 (by omega)] at b12
  have hid : rset I M = I := by rw [← hM]; exact rs_id I
  unfold V_M_shrinks
  unfold shrR at hQ
  rw [hM]
  refine ⟨by omega, fun q => by rw [if_neg (by omega), hid] at hQ; exact hQ, fun q => ⟨fun q2 => ⟨by omega, m_laysAnew hM hE hW hG ?_⟩, fun q2 => by rw [if_neg (by omega), hid] at hQ; exact hQ⟩⟩
  rw [if_pos (by omega)] at hQ
  simp only [wr_rs, rs_237, rs_rs]
  have e : layR M (M 1 / 2) (wanR M) 12 = M 12 := by simp [layR]
  refine ⟨by rw [e]; omega, hQ⟩
/-- what is behind a place moved by one -/
def shfR (M : Rw) (q : Int) : Rw := fun j => if (380 + q < j ∧ j ≤ 380 + M 0) ∨ (580 + q < j ∧ j ≤ 580 + M 0) ∨ (780 + q < j ∧ j ≤ 780 + M 0) then M (j - 1) else M j
theorem m_comes {G num nam due : Int} {I : Mm} {M : Rw} {Q : Mm → Prop} (hM : I 237 = M) (hW : WF G M) (h0 : M 0 < 200) {M1 : Rw} (hE1 : ∀ j : Int, j ≠ 6 → M1 j = insR M (posR M num due) num nam due j) (hW1 : WF G M1) (hw : ∀ k : Int, 0 ≤ k → k < M 0 → M (380 + k) ≠ num) (hG : G ≤ 2147483000) (hQ : Q (rset I (comR M num nam due))) : V_M_comes num nam due I Q := by
  have b0 := hW.1.1
  obtain ⟨p0, p1, p2, p3⟩ := posR_is b0.1 hW.2.1.2.1 num due
  unfold comR at hQ
  generalize posR M num due = p at *
  obtain ⟨e, rfl⟩ := nat_of p0
  obtain ⟨m, hm⟩ := nat_of b0.1
  have e0 : shfR M (e : Int) 0 = M 0 := by unfold shfR; rw [if_neg (by omega)]
  unfold V_M_comes
  have hs : I = rset I (shfR M (M 0)) := by
    have : shfR M (M 0) = M := by
      funext j
      unfold shfR
      rw [if_neg (by omega)]
    rw [this, ← hM]
    exact (rs_id I).symm
  have hkey := lpd (P := fun f i => L_M_comes_8 num nam due Q (fun y36 I37 => (0 ≤ (380 + y36) ∧ (380 + y36) < 980) ∧ (0 ≤ (580 + y36) ∧ (580 + y36) < 980) ∧ (0 ≤ (780 + y36) ∧ (780 + y36) < 980) ∧ r32 ((wrM ((wrM ((wrM I37 237 (380 + y36) num)) 237 (580 + y36) nam)) 237 (780 + y36) due) 237 0 + 1) ∧ V_M_grows ((wrM ((wrM ((wrM ((wrM I37 237 (380 + y36) num)) 237 (580 + y36) nam)) 237 (780 + y36) due)) 237 0 ((wrM ((wrM ((wrM I37 237 (380 + y36) num)) 237 (580 + y36) nam)) 237 (780 + y36) due) 237 0 + 1))) (fun I46 => Q I46)) f (i : Int) (rset I (shfR M (i : Int)))) e (m - e) (fun f => ?_) (fun i f hi1 hi2 ih => ?_)
  · rw [show e + (m - e) = m by omega, ← hm, ← hs, ← hM] at hkey
    exact hkey
  · unfold L_M_comes_8
    have hend : (0 ≤ (380 + (e : Int)) ∧ (380 + (e : Int)) < 980) ∧ (0 ≤ (580 + (e : Int)) ∧ (580 + (e : Int)) < 980) ∧ (0 ≤ (780 + (e : Int)) ∧ (780 + (e : Int)) < 980) ∧ r32 ((wrM ((wrM ((wrM (rset I (shfR M (e : Int))) 237 (380 + (e : Int)) num)) 237 (580 + (e : Int)) nam)) 237 (780 + (e : Int)) due) 237 0 + 1) ∧ V_M_grows ((wrM ((wrM ((wrM ((wrM (rset I (shfR M (e : Int))) 237 (380 + (e : Int)) num)) 237 (580 + (e : Int)) nam)) 237 (780 + (e : Int)) due)) 237 0 ((wrM ((wrM ((wrM (rset I (shfR M (e : Int))) 237 (380 + (e : Int)) num)) 237 (580 + (e : Int)) nam)) 237 (780 + (e : Int)) due) 237 0 + 1))) (fun I46 => Q I46) := by
      simp only [wr_rs, rs_237, rs_rs]
      have e1 : stR (stR (stR (shfR M (e : Int)) (380 + (e : Int)) num) (580 + (e : Int)) nam) (780 + (e : Int)) due 0 = M 0 := by
        unfold stR
        rw [if_neg (by omega), if_neg (by omega), if_neg (by omega), e0]
      rw [e1]
      have e2 : stR (stR (stR (stR (shfR M (e : Int)) (380 + (e : Int)) num) (580 + (e : Int)) nam) (780 + (e : Int)) due) 0 (M 0 + 1) = insR M (e : Int) num nam due := by
        funext j
        unfold stR shfR insR
        grind
      rw [e2]
      refine ⟨by omega, by omega, by omega, by omega, m_grows (rs_237 _ _) hE1 hW1 hG ?_⟩
      rw [rs_rs]
      exact hQ
    simp only [rs_237]
    refine ⟨fun _ => hend, fun q => ?_⟩
    have hk := p2 ((e : Int) - 1) (by omega) (by omega)
    have d1 : shfR M (e : Int) (780 + (e : Int) - 1) = M (780 + ((e : Int) - 1)) := by
      unfold shfR; rw [if_neg (by omega)]; congr 1; omega
    have d2 : shfR M (e : Int) (380 + (e : Int) - 1) = M (380 + ((e : Int) - 1)) := by
      unfold shfR; rw [if_neg (by omega)]; congr 1; omega
    rw [d1, d2]
    refine ⟨by omega, fun q2 => by omega, fun q2 => ⟨by omega, fun _ => hend, fun q3 => ⟨by omega, fun _ => hend, fun q4 => by omega⟩⟩⟩
  · have hk := p3 (i : Int) (by omega) (by omega)
    have hn := hw (i : Int) (by omega) (by omega)
    have d1 : shfR M ((i : Int) + 1) (780 + ((i : Int) + 1) - 1) = M (780 + (i : Int)) := by
      unfold shfR; rw [if_neg (by omega)]; congr 1; omega
    have d2 : shfR M ((i : Int) + 1) (380 + ((i : Int) + 1) - 1) = M (380 + (i : Int)) := by
      unfold shfR; rw [if_neg (by omega)]; congr 1; omega
    have d3 : shfR M ((i : Int) + 1) (580 + ((i : Int) + 1) - 1) = M (580 + (i : Int)) := by
      unfold shfR; rw [if_neg (by omega)]; congr 1; omega
    have hJ : J_M_comes_64 num nam due Q (fun x4 I1 => L_M_comes_8 num nam due Q (fun y36 I37 => (0 ≤ (380 + y36) ∧ (380 + y36) < 980) ∧ (0 ≤ (580 + y36) ∧ (580 + y36) < 980) ∧ (0 ≤ (780 + y36) ∧ (780 + y36) < 980) ∧ r32 ((wrM ((wrM ((wrM I37 237 (380 + y36) num)) 237 (580 + y36) nam)) 237 (780 + y36) due) 237 0 + 1) ∧ V_M_grows ((wrM ((wrM ((wrM ((wrM I37 237 (380 + y36) num)) 237 (580 + y36) nam)) 237 (780 + y36) due)) 237 0 ((wrM ((wrM ((wrM I37 237 (380 + y36) num)) 237 (580 + y36) nam)) 237 (780 + y36) due) 237 0 + 1))) (fun I46 => Q I46)) f x4 I1) ((i : Int) + 1) (rset I (shfR M ((i : Int) + 1))) := by
      unfold J_M_comes_64
      simp only [wr_rs, rs_237, rs_rs] at ih ⊢
      refine ⟨by omega, by omega, by omega, by omega, by omega, by omega, by omega, ?_⟩
      have e2 : stR (stR (stR (shfR M ((i : Int) + 1)) (380 + ((i : Int) + 1)) (shfR M ((i : Int) + 1) (380 + ((i : Int) + 1) - 1))) (580 + ((i : Int) + 1)) (stR (shfR M ((i : Int) + 1)) (380 + ((i : Int) + 1)) (shfR M ((i : Int) + 1) (380 + ((i : Int) + 1) - 1)) (580 + ((i : Int) + 1) - 1))) (780 + ((i : Int) + 1)) (stR (stR (shfR M ((i : Int) + 1)) (380 + ((i : Int) + 1)) (shfR M ((i : Int) + 1) (380 + ((i : Int) + 1) - 1))) (580 + ((i : Int) + 1)) (stR (shfR M ((i : Int) + 1)) (380 + ((i : Int) + 1)) (shfR M ((i : Int) + 1) (380 + ((i : Int) + 1) - 1)) (580 + ((i : Int) + 1) - 1)) (780 + ((i : Int) + 1) - 1)) = shfR M (i : Int) := by
        have g1 : stR (shfR M ((i : Int) + 1)) (380 + ((i : Int) + 1)) (shfR M ((i : Int) + 1) (380 + ((i : Int) + 1) - 1)) (580 + ((i : Int) + 1) - 1) = M (580 + (i : Int)) := by
          unfold stR; rw [if_neg (by omega), d3]
        rw [g1]
        have g2 : ∀ a : Int, stR (stR (shfR M ((i : Int) + 1)) (380 + ((i : Int) + 1)) a) (580 + ((i : Int) + 1)) (M (580 + (i : Int))) (780 + ((i : Int) + 1) - 1) = M (780 + (i : Int)) := by
          intro a; unfold stR; rw [if_neg (by omega), if_neg (by omega), d1]
        rw [g2, d2]
        funext j
        unfold stR shfR
        grind
      rw [e2, show (i : Int) + 1 + -1 = (i : Int) by omega]
      exact ih
    have hc : ((i + 1 : Nat) : Int) = (i : Int) + 1 := by omega
    rw [hc]
    unfold L_M_comes_8
    simp only [rs_237]
    rw [d1, d2]
    refine ⟨fun q => by omega, fun _ => ⟨by omega, fun _ => hJ, fun q2 => ⟨by omega, fun q3 => by omega, fun q3 => ⟨by omega, fun q4 => by omega, fun _ => hJ⟩⟩⟩⟩
theorem m_leaves {G p : Int} {I : Mm} {M : Rw} {Q : Mm → Prop} (hM : I 237 = M) (hW : WF G M) (hp : 0 ≤ p ∧ p < M 0) (hG : G ≤ 2147483000) (hQ : Q (rset I (goeR M p))) : V_M_leaves p I Q := by
  have b0 := hW.1.1
  obtain ⟨s, rfl⟩ := nat_of hp.1
  unfold V_M_leaves
  simp only [wr_rs]
  rw [hM]
  refine ⟨by omega, ?_⟩
  have hs : stR M 0 (M 0 - 1) = (fun j => if j = 0 then M 0 - 1 else if 380 + (s : Int) ≤ j ∧ j < 380 + (s : Int) then M (j + 1) else if 580 + (s : Int) ≤ j ∧ j < 580 + (s : Int) then M (j + 1) else if 780 + (s : Int) ≤ j ∧ j < 780 + (s : Int) then M (j + 1) else M j : Rw) := by
    funext j
    unfold stR
    grind
  rw [hs]
  refine lpu (P := fun f i => L_M_leaves_12 (s : Int) Q f (i : Int) (rset I (fun j => if j = 0 then M 0 - 1 else if 380 + (s : Int) ≤ j ∧ j < 380 + (i : Int) then M (j + 1) else if 580 + (s : Int) ≤ j ∧ j < 580 + (i : Int) then M (j + 1) else if 780 + (s : Int) ≤ j ∧ j < 780 + (i : Int) then M (j + 1) else M j))) s (M 0 - 1).toNat (by omega) (fun f => ?_) (fun i f hi1 hi2 ih => ?_)
  · have ed : (fun j => if j = 0 then M 0 - 1 else if 380 + (s : Int) ≤ j ∧ j < 380 + (((M 0 - 1).toNat : Nat) : Int) then M (j + 1) else if 580 + (s : Int) ≤ j ∧ j < 580 + (((M 0 - 1).toNat : Nat) : Int) then M (j + 1) else if 780 + (s : Int) ≤ j ∧ j < 780 + (((M 0 - 1).toNat : Nat) : Int) then M (j + 1) else M j : Rw) = delR M (s : Int) := by
      funext j
      unfold delR
      rw [show (((M 0 - 1).toNat : Nat) : Int) = M 0 - 1 by omega]
    rw [ed]
    unfold L_M_leaves_12
    simp only [rs_237]
    refine ⟨fun _ => m_shrinks (rs_237 _ _) (fun j _ => rfl) (wf_del hW hp) hG (by rw [rs_rs]; exact hQ), fun q => by rw [del_0] at q; omega⟩
  · unfold L_M_leaves_12
    simp only [wr_rs, rs_237, rs_rs]
    refine ⟨fun q => by simp only [if_true] at q; omega, fun _ => ⟨by omega, by omega, by omega, by omega, by omega, by omega, by omega, ?_⟩⟩
    refine (show ∀ A B : Rw, A = B → L_M_leaves_12 (s : Int) Q f ((i + 1 : Nat) : Int) (rset I A) → L_M_leaves_12 (s : Int) Q f ((i : Int) + 1) (rset I B) from fun A B h g => by rw [← h]; exact g) _ _ ?_ ih
    funext j
    simp only [stR]
    grind
