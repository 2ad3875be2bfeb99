/-! the reference takes -/
theorem st_ne {M : Rw} {i v j : Int} (h : j ≠ i) : stR M i v j = M j := by unfold stR; rw [if_neg h]
theorem st_s {M : Rw} {i v : Int} : stR M i v i = v := by unfold stR; rw [if_pos rfl]
theorem gro_mo {M : Rw} {i d : Int} (hi : 3 ≤ i ∧ i < 380 ∧ i ≠ 9 ∧ i ≠ 11) (h0 : 0 ≤ M 0) : groR (moR M i d) = moR (groR M) i d := by
  have e0 : moR M i d 0 = M 0 := mo_ne (by omega)
  have e1 : moR M i d 1 = M 1 := mo_ne (by omega)
  have ew : wanR (moR M i d) = wanR M := wan_cong e0 (mo_ne (by omega)) (fun j hj => mo_ne (by omega)) h0
  unfold groR
  rw [e0, e1, ew]
  split
  · funext j
    unfold moR layR
    grind
  · rfl
theorem shr_mo {M : Rw} {i d : Int} (hi : 3 ≤ i ∧ i < 380 ∧ i ≠ 9 ∧ i ≠ 12) (h0 : 0 ≤ M 0) : shrR (moR M i d) = moR (shrR M) i d := by
  have e0 : moR M i d 0 = M 0 := mo_ne (by omega)
  have e1 : moR M i d 1 = M 1 := mo_ne (by omega)
  have ew : wanR (moR M i d) = wanR M := wan_cong e0 (mo_ne (by omega)) (fun j hj => mo_ne (by omega)) h0
  unfold shrR
  rw [e0, e1, ew]
  split
  · funext j
    unfold moR layR
    grind
  · rfl
theorem ins_cong {M M' : Rw} {p num nam due j : Int} (h0 : M' 0 = M 0) (hp : 0 ≤ p) (hj : M' j = M j) (hE : ∀ x : Int, 380 ≤ x → M' x = M x) : insR M' p num nam due j = insR M p num nam due j := by
  unfold insR
  rw [h0, hj]
  by_cases q : 380 < j
  · rw [hE (j - 1) (by omega)]
  · repeat' split
    all_goals first | rfl | (exfalso; omega)
theorem ins_mo {M : Rw} {i d p num nam due : Int} (hi : 3 ≤ i ∧ i < 380) (hp : 0 ≤ p) : insR (moR M i d) p num nam due = moR (insR M p num nam due) i d := by
  have e0 : moR M i d 0 = M 0 := mo_ne (by omega)
  funext j
  by_cases q : j = i
  · subst q
    have e : insR M p num nam due j = M j := ins_lo (by omega) hi.2
    rw [ins_lo (by omega) hi.2]
    simp [moR, e]
  · rw [mo_ne q]
    exact ins_cong e0 hp (mo_ne q) (fun x hx => mo_ne (by omega))
theorem com_mo {M : Rw} {i d num nam due : Int} (hi : 3 ≤ i ∧ i < 380 ∧ i ≠ 9 ∧ i ≠ 11) (h0 : 0 ≤ M 0) : comR (moR M i d) num nam due = moR (comR M num nam due) i d := by
  have e0 : moR M i d 0 = M 0 := mo_ne (by omega)
  unfold comR
  rw [pos_cong e0 (fun j hj => mo_ne (by omega))]
  have hp : 0 ≤ posR M num due := (cntB_rng _ _).1
  rw [ins_mo ⟨hi.1, hi.2.1⟩ hp, gro_mo hi (by rw [ins_0]; omega)]
theorem goe_mo {M : Rw} {i d p : Int} (hi : 3 ≤ i ∧ i < 380 ∧ i ≠ 9 ∧ i ≠ 12) (h0 : 1 ≤ M 0 ∧ M 0 ≤ 200) (hp : 0 ≤ p) : goeR (moR M i d) p = moR (goeR M p) i d := by
  have e0 : moR M i d 0 = M 0 := mo_ne (by omega)
  unfold goeR
  rw [← shr_mo hi (by rw [del_0]; omega)]
  congr 1
  funext j
  unfold delR
  rw [e0]
  unfold moR
  grind
theorem m_comesNew {G nam due : Int} {I : Mm} {M : Rw} {Q : Int → Mm → Prop} (hM : I 237 = M) (hW : WF G M) (h0 : M 0 < 200) (hnam : 0 ≤ nam ∧ nam < M 4) (hdue : M 3 ≤ due ∧ due ≤ 999999999) (hG : G ≤ 2147400000) (hQ : Q (M 6) (rset I (newR M nam due))) : V_M_comesNew nam due I Q := by
  have b6 := hW.1.2.2.2.2.2.2.1
  have w1 := hW.2.1.1
  have e0 : moR M 6 1 0 = M 0 := mo_ne (by omega)
  have hw : ∀ k : Int, 0 ≤ k → k < M 0 → M (380 + k) ≠ M 6 := fun k a b => by have := w1 k a b; omega
  have W1 := wf_ins (num := M 6) (nam := nam) (due := due) (wf_mo hW (i := 6) (d := 1) (by omega) (by omega)) (by rw [e0]; exact h0) (by simp [moR]; omega) (fun k a b => by rw [e0] at b; rw [mo_ne (by omega)]; exact hw k a b) (by rw [mo_ne (by omega)]; exact hnam) (by rw [mo_ne (by omega)]; exact hdue)
  have hE1 : ∀ j : Int, j ≠ 6 → insR (moR M 6 1) (posR (moR M 6 1) (M 6) due) (M 6) nam due j = insR M (posR M (M 6) due) (M 6) nam due j := by
    intro j hj
    have hp : 0 ≤ posR M (M 6) due := (cntB_rng _ _).1
    rw [pos_cong e0 (fun j hj => mo_ne (by omega)), ins_mo ⟨by omega, by omega⟩ hp, mo_ne hj]
  unfold V_M_comesNew
  rw [hM]
  refine m_comes hM (wf_mono hW (show G ≤ G + 1 by omega)) h0 hE1 W1 hw (by omega) ?_
  simp only [wr_rs, rs_237, rs_rs]
  have e6 : comR M (M 6) nam due 6 = M 6 := com_lo (by omega) (by omega)
  rw [e6, show stR (comR M (M 6) nam due) 6 (M 6 + 1) 6 = M 6 + 1 by simp [stR]]
  refine ⟨by omega, by omega, ?_⟩
  have e : stR (comR M (M 6) nam due) 6 (M 6 + 1) = newR M nam due := by
    unfold newR
    rw [com_mo (by omega) hW.1.1.1]
    unfold moR stR
    rw [e6]
  rw [e, show M 6 + 1 - 1 = M 6 by omega]
  exact hQ
theorem m_brings {G r : Int} {I : Mm} {M : Rw} {Q : Mm → Prop} (hM : I 237 = M) (hW : WF G M) (hr : 0 ≤ r ∧ r < M 5) (hG : G ≤ 2147400000) (hQ : Q (rset I (brgR M r))) : V_M_brings r I Q := by
  have w := hW.2.2.1 r hr.1 hr.2
  have b0 := hW.1.1
  have b3 := hW.1.2.2.2.1
  have b4 := hW.1.2.2.2.2.1
  have b5 := hW.1.2.2.2.2.2.1
  have b8 := hW.1.2.2.2.2.2.2.2.2
  unfold V_M_brings
  unfold brgR at hQ
  rw [hM]
  refine ⟨by omega, ?_⟩
  intro y hy
  refine ⟨by omega, ?_⟩
  intro z hz
  subst hy hz
  have hJ : ¬ (M 0 < 200 ∧ M 3 + M (144 + 3 * r + 2) ≤ 999999999) → J_M_brings_55 r Q (M (144 + 3 * r + 1)) I := by
    intro q
    rw [if_neg q] at hQ
    have c14 := b8 14 (by omega) (by omega)
    have c32 := b8 (32 + M (144 + 3 * r + 1)) (by omega) (by omega)
    unfold J_M_brings_55
    simp only [wr_rs, rs_237, rs_rs]
    rw [hM]
    have e1 : stR M 14 (M 14 + 1) (32 + M (144 + 3 * r + 1)) = M (32 + M (144 + 3 * r + 1)) := by unfold stR; rw [if_neg (by omega)]
    refine ⟨by omega, by omega, by omega, by rw [e1]; omega, ?_⟩
    rw [st_mo, st_mo]
    exact hQ
  refine ⟨fun q => hJ (by omega), fun q => ⟨by omega, fun q2 => ?_, fun q2 => hJ (by omega)⟩⟩
  rw [if_pos (by omega)] at hQ
  exact m_comesNew hM hW (by omega) w.2.1 (by omega) hG hQ
theorem w36_237 (I : Mm) (i v : Int) : wrM I 236 i v 237 = I 237 := wr_oth _ (by decide)
theorem rs_236 (I : Mm) (M : Rw) : rset I M 236 = I 236 := rs_ne _ _ (by decide)
theorem m_takeRules {G nam lk : Int} {I : Mm} {M : Rw} {Q : Int → Mm → Prop} (hM : I 237 = M) (hW : WF G M) (hG : G ≤ 2147300000) (hQ : Q lk (rset I (brsR M nam (M 5).toNat))) : ∃ f, L_M_takes_263 lk nam Q f 0 I := by
  have b5 := hW.1.2.2.2.2.2.1
  have hI : I = rset I (brsR M nam 0) := by unfold brsR; rw [← hM]; exact (rs_id I).symm
  rw [hI]
  refine lp (P := fun f i => L_M_takes_263 lk nam Q f (i : Int) (rset I (brsR M nam i))) (M 5).toNat (fun f => ?_) (fun i f hi ih => ?_)
  · have e5 := (brs_lo (nam := nam) hW (M 5).toNat (by omega)).2 5 (by omega) (by omega) (by omega)
    unfold L_M_takes_263
    rw [rs_237, e5]
    exact ⟨fun _ => hQ, fun q => by omega⟩
  · obtain ⟨W1, L1⟩ := brs_lo (nam := nam) hW i (by omega)
    have e5 := L1 5 (by omega) (by omega) (by omega)
    have es : brsR M nam (i + 1) = if brsR M nam i (144 + 3 * (i : Int)) = nam then brgR (brsR M nam i) (i : Int) else brsR M nam i := rfl
    rw [es] at ih
    clear es L1
    generalize brsR M nam i = M1 at *
    unfold L_M_takes_263
    rw [rs_237, e5]
    refine ⟨fun q => by omega, fun _ => ⟨by omega, fun q => ⟨by omega, ?_⟩, fun q => ?_⟩⟩
    · rw [if_neg q] at ih; exact ih
    · rw [if_pos q] at ih
      refine m_brings (rs_237 _ _) W1 (by omega) (by omega) ⟨by omega, ?_⟩
      rw [rs_rs]
      exact ih
theorem log_mo {M : Rw} {i x a b d e : Int} (hi : 16 ≤ i ∧ i < 48) : logR (moR M i x) a b d e = moR (logR M a b d e) i x := by
  funext j
  by_cases q : j = i
  · subst q
    rw [log_ne (by omega) (by omega)]
    simp only [moR, if_true]
    rw [log_ne (by omega) (by omega)]
  · rw [mo_ne q]
    unfold logR
    rw [show moR M i x 7 = M 7 from mo_ne (by omega)]
    by_cases q2 : 184 ≤ j
    · rw [show moR M i x (j - 4) = M (j - 4) from mo_ne (by omega), show moR M i x j = M j from mo_ne q]
    · rw [if_neg (fun h : 184 ≤ j ∧ j < 380 => q2 h.1), if_neg (fun h : 184 ≤ j ∧ j < 380 => q2 h.1), show moR M i x j = M j from mo_ne q]
theorem log_now {M : Rw} {x a b d e : Int} : logR (nowR M x) a b d e = nowR (logR M a b d e) x := by
  funext j
  by_cases q : j = 3
  · subst q
    rw [log_ne (by omega) (by omega)]
    simp only [nowR, if_true]
  · have h1 : ∀ (N : Rw) (j : Int), j ≠ 3 → nowR N x j = N j := fun N j h => by unfold nowR; rw [if_neg h]
    rw [h1 _ _ q]
    unfold logR
    rw [h1 _ 7 (by omega)]
    by_cases q2 : 184 ≤ j
    · rw [h1 _ (j - 4) (by omega), h1 _ j q]
    · rw [if_neg (fun h : 184 ≤ j ∧ j < 380 => q2 h.1), if_neg (fun h : 184 ≤ j ∧ j < 380 => q2 h.1), h1 _ j q]
theorem m_takeLog {lk : Int} {K : Mm} {A : Rw} {Q : Int → Mm → Prop} {K44 : Mm → Prop} (hA : K 237 = A) (hQ : K44 (rset K (fun j => if 183 < j ∧ j < 380 then A (j - 4) else A j))) : ∃ f, L_M_takes_138 lk Q K44 f 199 K := by
  have hs : K = rset K (fun j => if 180 + (((3 + 196 : Nat) : Nat) : Int) < j ∧ j < 380 then A (j - 4) else A j) := by
    have : (fun j => if 180 + (((3 + 196 : Nat) : Nat) : Int) < j ∧ j < 380 then A (j - 4) else A j : Rw) = A := by
      funext j
      rw [if_neg (by omega)]
    rw [this, ← hA]
    exact (rs_id K).symm
  have h := lpd (P := fun f i => L_M_takes_138 lk Q K44 f (i : Int) (rset K (fun j => if 180 + (i : Int) < j ∧ j < 380 then A (j - 4) else A j))) 3 196 (fun f => ?_) (fun i f hi1 hi2 ih => ?_)
  · rw [← hs] at h
    exact h
  · unfold L_M_takes_138
    exact ⟨fun _ => hQ, fun q => by omega⟩
  · unfold L_M_takes_138
    simp only [wr_rs, rs_237, rs_rs]
    refine ⟨fun q => by omega, fun _ => ⟨by omega, by omega, by omega, ?_⟩⟩
    refine (show ∀ (A B : Rw) (x y : Int), A = B → x = y → L_M_takes_138 lk Q K44 f x (rset K A) → L_M_takes_138 lk Q K44 f y (rset K B) from fun A B x y h h2 g => by rw [← h, ← h2]; exact g) _ _ _ _ ?_ (by omega) ih
    funext j
    unfold stR
    by_cases q : j = 180 + ((i + 1 : Nat) : Int)
    · rw [if_pos q, if_pos (by omega), if_neg (by omega)]
      congr 1
      omega
    · rw [if_neg q]
      show _ = if 180 + ((i + 1 : Nat) : Int) < j ∧ j < 380 then A (j - 4) else A j
      by_cases q2 : 180 + (i : Int) < j ∧ j < 380
      · rw [if_pos q2, if_pos (by omega)]
      · rw [if_neg q2, if_neg (by omega)]
theorem st_log {A : Rw} {a b d e v : Int} (h7 : v = min (A 7 + 1) 50) : stR (stR (stR (stR (stR (fun j => if 183 < j ∧ j < 380 then A (j - 4) else A j) 180 a) 181 b) 182 d) 183 e) 7 v = logR A a b d e := by
  funext j
  unfold stR logR
  rw [h7]
  by_cases q7 : j = 7
  · rw [if_pos q7, if_pos q7]
  · rw [if_neg q7, if_neg q7]
    by_cases q3 : j = 183
    · rw [if_pos q3, if_neg (by omega), if_neg (by omega), if_neg (by omega), if_pos q3]
    · rw [if_neg q3]
      by_cases q2 : j = 182
      · rw [if_pos q2, if_neg (by omega), if_neg (by omega), if_pos q2]
      · rw [if_neg q2]
        by_cases q1 : j = 181
        · rw [if_pos q1, if_neg (by omega), if_pos q1]
        · rw [if_neg q1]
          by_cases q0 : j = 180
          · rw [if_pos q0, if_pos q0]
          · rw [if_neg q0, if_neg q0, if_neg q1, if_neg q2, if_neg q3]
            show (if 183 < j ∧ j < 380 then A (j - 4) else A j) = _
            by_cases q : 184 ≤ j ∧ j < 380
            · rw [if_pos (by omega), if_pos q]
            · rw [if_neg (by omega), if_neg q]
theorem m_takes2 {G : Int} {I : Mm} {M : Rw} {Q : Int → Mm → Prop} (hM : I 237 = M) (hW : WF G M) (h0 : 0 < M 0) (hG : G ≤ 2147200000) (hQ : ∀ I' : Mm, I' 237 = tkeR M → (∀ a : Int, a ≠ 236 → a ≠ 237 → I' a = I a) → (∀ j : Int, j ≠ 6 → j ≠ 7 → I' 236 j = I 236 j) → I' 236 6 = M 380 → I' 236 7 = M 580 → Q (lkR (M 3) (M 780) (M 1) (M 2)) I') : V_M_takes I Q := by
  have f := wf_first hW h0
  have l := lk_wf hW h0
  have b0 := hW.1.1
  have b1 := hW.1.2.1
  have b2 := hW.1.2.2.1
  have b3 := hW.1.2.2.2.1
  have b4 := hW.1.2.2.2.2.1
  have b5 := hW.1.2.2.2.2.2.1
  have b7 := hW.1.2.2.2.2.2.2.2.1
  have b8 := hW.1.2.2.2.2.2.2.2.2
  obtain ⟨l1, l2, l3, -, -⟩ := lk_rng (a := M 3) (b := M 780) (rows := M 1) (width := M 2) (by omega) (by omega) b1 (by omega)
  have l4 := Int.ediv_le_ediv (show 0 < M 2 by omega) f.2.2.1
  have W1 := wf_tk1 hW h0
  have W2 := wf_tk2 hW h0
  have e5 := tk2_5 hW h0
  have c8 := b8 8 (by omega) (by omega)
  have c10 := b8 10 (by omega) (by omega)
  have c13 := b8 13 (by omega) (by omega)
  have c16 := b8 (16 + M 580) (by omega) (by omega)
  unfold tkeR at hQ
  have et : nowR (logR (cntR M) (M 380) (M 580) (M 780) (lkR (M 3) (M 780) (M 1) (M 2))) (M 780) = tk1R M := rfl
  rw [et] at hQ
  unfold V_M_takes V_M_looksNow V_M_looksTo
  rw [hM]
  simp only [w36_237, hM]
  have hc : M 1 < lkR (M 3) (M 780) (M 1) (M 2) ↔ M 1 ≤ M 780 / M 2 - M 3 / M 2 := by unfold lkR; split <;> omega
  have hJ : ∀ t3 : Int, (t3 = 1 ∧ M 1 < lkR (M 3) (M 780) (M 1) (M 2) ∨ t3 = 0 ∧ ¬ M 1 < lkR (M 3) (M 780) (M 1) (M 2)) → J_M_takes_80 Q (lkR (M 3) (M 780) (M 1) (M 2)) 10 (M 10) t3 (wrM (wrM I 236 6 (M 380)) 236 7 (M 580)) := by
    intro t3 ht3
    have htc : stR (stR (stR M 10 (M 10 + t3)) 8 (M 8 + lkR (M 3) (M 780) (M 1) (M 2))) 13 (M 13 + 1) = cntR M := by
      unfold cntR
      rcases ht3 with ⟨rfl, q⟩ | ⟨rfl, q⟩
      · rw [if_pos q]
        funext j
        unfold stR moR
        grind
      · rw [if_neg q]
        funext j
        unfold stR moR
        grind
    generalize lkR (M 3) (M 780) (M 1) (M 2) = lk at *
    have hK37 : (wrM (wrM I 236 6 (M 380)) 236 7 (M 580)) 237 = M := by rw [w36_237, w36_237, hM]
    have hK7 : (wrM (wrM I 236 6 (M 380)) 236 7 (M 580)) 236 7 = M 580 := wr_s _ _ _ _
    have hK6 : (wrM (wrM I 236 6 (M 380)) 236 7 (M 580)) 236 6 = M 380 := by rw [wr_n (by omega), wr_s]
    have hKa : ∀ a : Int, a ≠ 236 → (wrM (wrM I 236 6 (M 380)) 236 7 (M 580)) a = I a := fun a h => by rw [wr_oth _ h, wr_oth _ h]
    have hKj : ∀ j : Int, j ≠ 6 → j ≠ 7 → (wrM (wrM I 236 6 (M 380)) 236 7 (M 580)) 236 j = I 236 j := fun j h h2 => by rw [wr_n (by omega), wr_n (by omega)]
    generalize wrM (wrM I 236 6 (M 380)) 236 7 (M 580) = K at *
    unfold J_M_takes_80 J_M_takes_250
    simp only [wr_rs, rs_237, rs_rs, rs_236, hK37, hK7, hK6]
    have e1 : stR M 10 (M 10 + t3) 780 = M 780 := by simp [stR]
    have e2 : stR (stR M 10 (M 10 + t3)) 3 (M 780) 8 = M 8 := by simp [stR]
    have e3 : stR (stR (stR M 10 (M 10 + t3)) 3 (M 780)) 8 (M 8 + lk) 13 = M 13 := by simp [stR]
    simp only [e1, e2, e3]
    have e4 : stR (stR (stR (stR M 10 (M 10 + t3)) 3 (M 780)) 8 (M 8 + lk)) 13 (M 13 + 1) = nowR (cntR M) (M 780) := by
      rw [← htc]
      funext j
      unfold stR nowR
      grind
    rw [e4]
    have e6 : nowR (cntR M) (M 780) (16 + M 580) = M (16 + M 580) := by
      unfold nowR; rw [if_neg (by omega), cnt_ne (by omega)]
    rw [st_mo, e6]
    refine ⟨by omega, by omega, by omega, by omega, by omega, by omega, by omega, ?_⟩
    have eK : K = rset K M := by rw [← hK37]; exact (rs_id K).symm
    have hA7 : moR (nowR (cntR M) (M 780)) (16 + M 580) 1 7 = M 7 := by
      rw [mo_ne (by omega)]; unfold nowR; rw [if_neg (by omega), cnt_ne (by omega)]
    have hA3 : moR (nowR (cntR M) (M 780)) (16 + M 580) 1 3 = M 780 := by
      rw [mo_ne (by omega)]; simp [nowR]
    have hAA : logR (moR (nowR (cntR M) (M 780)) (16 + M 580) 1) (M 380) (M 580) (M 780) lk = moR (tk1R M) (16 + M 580) 1 := by
      rw [log_mo (by omega), log_now, et]
    generalize moR (nowR (cntR M) (M 780)) (16 + M 580) 1 = A at *
    have hend : ∃ f, L_M_takes_263 lk (M 580) Q f 0 (rset K (goeR (moR (tk1R M) (16 + M 580) 1) 0)) := by
      have m0 : tk1R M 0 = M 0 := tk1_ne (by omega) (by omega)
      rw [goe_mo (by omega) (by rw [m0]; omega) (by omega)]
      refine m_takeRules (rs_237 _ _) W2 (by omega) ?_
      rw [e5, rs_rs]
      exact hQ _ (rs_237 _ _) (fun a h h2 => by rw [rs_ne _ _ h2]; exact hKa a h) (fun j h h2 => by rw [rs_236]; exact hKj j h h2) (by rw [rs_236]; exact hK6) (by rw [rs_236]; exact hK7)
    have hW3 : WF (G + 131) (moR (tk1R M) (16 + M 580) 1) := by
      have q4 : tk1R M 4 = M 4 := tk1_ne (by omega) (by omega)
      exact wf_mono (wf_nm (i := 16 + M 580) W1 (by omega)) (by omega)
    have m00 : moR (tk1R M) (16 + M 580) 1 0 = M 0 := by rw [mo_ne (by omega)]; exact tk1_ne (by omega) (by omega)
    refine m_takeLog (rs_237 _ _) ?_
    simp only [rs_237, rs_rs, rs_236, hK6, hK7]
    have g3 : stR (stR (fun j => if 183 < j ∧ j < 380 then A (j - 4) else A j) 180 (M 380)) 181 (M 580) 3 = M 780 := by
      rw [st_ne (by omega), st_ne (by omega)]
      exact (if_neg (by omega)).trans hA3
    have g7 : ∀ a b d e : Int, stR (stR (stR (stR (fun j => if 183 < j ∧ j < 380 then A (j - 4) else A j) 180 a) 181 b) 182 d) 183 e 7 = M 7 := by
      intro a b d e
      rw [st_ne (by omega), st_ne (by omega), st_ne (by omega), st_ne (by omega)]
      exact (if_neg (by omega)).trans hA7
    rw [g3, g7]
    refine ⟨fun q => ⟨by omega, ?_⟩, fun q => ⟨by omega, by omega, ?_⟩⟩
    · rw [st_log (A := A) (v := 50) (by omega), hAA]
      refine m_leaves (rs_237 _ _) hW3 (by rw [m00]; omega) (by omega) ?_
      rw [rs_rs]
      exact hend
    · rw [st_log (A := A) (v := M 7 + 1) (by omega), hAA]
      refine m_leaves (rs_237 _ _) hW3 (by rw [m00]; omega) (by omega) ?_
      rw [rs_rs]
      exact hend
  refine ⟨by omega, by omega, by omega, fun q => ⟨by omega, by omega, by omega, by omega, fun q2 => ?_, fun q2 => by omega⟩, fun q => ⟨by omega, by omega, by omega, by omega, fun q2 => by omega, fun q2 => ?_⟩⟩
  · have e : lkR (M 3) (M 780) (M 1) (M 2) = 2 * M 1 := by unfold lkR; rw [if_pos q]
    rw [← e]
    exact hJ 1 (by omega)
  · have e : lkR (M 3) (M 780) (M 1) (M 2) = M 780 / M 2 - M 3 / M 2 + 1 := by unfold lkR; rw [if_neg (by omega)]
    rw [← e]
    exact hJ 0 (by omega)
theorem m_takes {G : Int} {I : Mm} {M : Rw} {Q : Int → Mm → Prop} (hM : I 237 = M) (hW : WF G M) (h0 : 0 < M 0) (hG : G ≤ 2147200000) (hQ : ∀ I' : Mm, I' 237 = tkeR M → (∀ a : Int, a ≠ 236 → a ≠ 237 → I' a = I a) → (∀ j : Int, j ≠ 6 → j ≠ 7 → I' 236 j = I 236 j) → Q (lkR (M 3) (M 780) (M 1) (M 2)) I') : V_M_takes I Q :=
  m_takes2 hM hW h0 hG (fun I' a b c _ _ => hQ I' a b c)
