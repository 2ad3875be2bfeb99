/-! tell: the reference's statements; both sides -/
theorem z01 {z : Int} {Q : Int → Mm → Prop} {I : Mm} (hz : z = 0 ∨ z = 1) (hQ : Q z I) : (z = 0 → Q 0 I) ∧ (¬ z = 0 → Q 1 I) := by
  rcases hz with rfl | rfl
  · exact ⟨fun _ => hQ, fun w => absurd rfl w⟩
  · exact ⟨fun w => absurd w (by decide), fun _ => hQ⟩
theorem mo_z {I0 I : Mm} {l : Int} {T : Int → Int} {G p z : Int} {r : Int × Int × Rw} (h : MOut I0 I l T G p r z) : z = 0 ∨ z = 1 := by
  by_cases e : r.1 = 0
  · exact .inr (h.1 e).1
  · exact .inl (h.2 e).1
theorem m_readsAt {I0 I : Mm} {l : Int} {T : Int → Int} {G b p : Int} {M : Rw} {Q : Int → Mm → Prop} (h : MSt I0 I l T G p M) (h3 : M 3 = 0) (hG : G ≤ 2140000000) (hb : 0 ≤ b ∧ b ≤ l) (hQ : ∀ (z : Int) (I' : Mm), MOut I0 I' l T (G + 10200) p (atS (byt T l) b p M) z → Q z I') : V_M_readsAt b I Q := by
  have hl := h.2.2.1.2.1
  have hp := h.2.2.2.1.2
  have hW := h.2.1
  have n1 := nu_le (T := T) hp hl.2
  have n2 := na_le (T := T) (show 0 ≤ nuP (byt T l) p ∧ nuP (byt T l) p ≤ l by omega) hl.2
  unfold atS at hQ
  unfold V_M_readsAt
  refine m_num h (by omega) (by omega) (fun e1 v1 I1 g1 n19 n20 => ⟨fun _ => ?_, fun z => absurd z (by decide)⟩) (fun e1 I1 g1 => ⟨fun z => absurd rfl z, fun _ => ?_⟩)
  · rw [if_neg (fun z => z e1)] at hQ
    refine m_name g1 (fun e2 I2 g2 n21 => ⟨fun z => absurd z (by decide), fun _ => ?_⟩) (fun e2 I2 g2 => ⟨fun _ => ?_, fun z => absurd rfl z⟩)
    · have ok := na_ok hW (show 0 ≤ nuP (byt T l) p ∧ nuP (byt T l) p ≤ l by omega) hl.2 e2
      have e0 : naM (byt T l) M (nuP (byt T l) p) 0 = M 0 := ok.2.2.2.1 0 (by omega) (by omega)
      have e3 : naM (byt T l) M (nuP (byt T l) p) 3 = M 3 := ok.2.2.2.1 3 (by omega) (by omega)
      rw [if_neg (fun z => z e2)] at hQ
      rw [n21, n19]
      refine m_brings2 g2 hb (by omega) (by omega) (by omega) ok.2.2.1 (by rw [e3]; exact h3) (by omega) (fun w I3 g3 => ⟨fun z => absurd z (by decide), fun _ => ?_⟩) (fun w I3 g3 => ⟨fun _ => ?_, fun z => absurd rfl z⟩)
      · rw [e0] at w
        rw [if_pos w.1] at hQ
        have eo : oftR (naM (byt T l) M (nuP (byt T l) p)) (naV (byt T l) M (nuP (byt T l) p)) 0 (nuV (byt T l) p) (1 : Int).toNat = oftR (naM (byt T l) M (nuP (byt T l) p)) (naV (byt T l) M (nuP (byt T l) p)) 1 (nuV (byt T l) p) 1 := by
          show newR _ _ (_ + ((0 : Nat) : Int) * 0) = newR _ _ (_ + ((0 : Nat) : Int) * 1)
          rw [show ((0 : Nat) : Int) * 0 = 0 by decide, show ((0 : Nat) : Int) * 1 = 0 by decide]
          rfl
        rw [eo] at g3
        refine hQ _ _ ⟨fun _ => ⟨rfl, g3, ?_, by dsimp only; omega⟩, fun z => absurd rfl z⟩
        show oftR _ _ 1 _ 1 3 = 0
        rw [(oft_lo 1).2.2 3 (by omega) (by omega), e3]
        exact h3
      · rw [e0] at w
        rw [if_neg (fun z => w ⟨z, by omega⟩)] at hQ
        exact hQ _ _ (mo_bad g3 (by omega))
    · rw [if_pos e2] at hQ
      exact hQ _ _ (mo_bad g2 e2)
  · rw [if_pos e1] at hQ
    exact hQ _ _ (mo_bad g1 e1)
theorem m_readsEvery {I0 I : Mm} {l : Int} {T : Int → Int} {G b p : Int} {M : Rw} {Q : Int → Mm → Prop} (h : MSt I0 I l T G p M) (h3 : M 3 = 0) (hG : G ≤ 2140000000) (hb : 0 ≤ b ∧ b ≤ l) (hQ : ∀ (z : Int) (I' : Mm), MOut I0 I' l T (G + 10200) p (evS (byt T l) b p M) z → Q z I') : V_M_readsEvery b I Q := by
  have hl := h.2.2.1.2.1
  have hp := h.2.2.2.1.2
  have hW := h.2.1
  unfold evS at hQ
  unfold V_M_readsEvery
  refine m_num h (by omega) (by omega) (fun e1 v1 I1 g1 n19 n20 => ⟨fun _ => ?_, fun z => absurd z (by decide)⟩) (fun e1 I1 g1 => ⟨fun z => absurd rfl z, fun _ => ?_⟩)
  · have n1 := nu_le (T := T) hp hl.2
    have s1 := (sk_is (T := T) (show 0 ≤ nuP (byt T l) p ∧ nuP (byt T l) p ≤ l by omega) hl.2).1
    rw [if_neg (fun z => z e1)] at hQ
    refine m_must (by omega) g1 (fun w1 I2 g2 => ⟨fun z => absurd z (by decide), fun _ => ?_⟩) (fun w1 I2 g2 => ⟨fun _ => ?_, fun z => absurd rfl z⟩)
    · have wl := isW_le (by omega) (show 0 ≤ skR (byt T l) (nuP (byt T l) p) ∧ skR (byt T l) (nuP (byt T l) p) ≤ l by omega) w1
      have sn := slen_nn 4
      rw [if_neg (fun z => z (wok_1.2 w1))] at hQ
      have lo : p ≤ skR (byt T l) (nuP (byt T l) p) + slenI 4 := by omega
      generalize skR (byt T l) (nuP (byt T l) p) + slenI 4 = p2 at *
      refine m_num g2 (by omega) (by omega) (fun e2 v2 I3 g3 m19 m20 => ⟨fun _ => ?_, fun z => absurd z (by decide)⟩) (fun e2 I3 g3 => ⟨fun z => absurd rfl z, fun _ => ?_⟩)
      · have n2 := nu_le (T := T) (show 0 ≤ p2 ∧ p2 ≤ l by omega) hl.2
        have s2 := (sk_is (T := T) (show 0 ≤ nuP (byt T l) p2 ∧ nuP (byt T l) p2 ≤ l by omega) hl.2).1
        rw [if_neg (fun z => z e2)] at hQ
        refine m_must (by omega) g3 (fun w2 I4 g4 => ⟨fun z => absurd z (by decide), fun _ => ?_⟩) (fun w2 I4 g4 => ⟨fun _ => ?_, fun z => absurd rfl z⟩)
        · have wl2 := isW_le (by omega) (show 0 ≤ skR (byt T l) (nuP (byt T l) p2) ∧ skR (byt T l) (nuP (byt T l) p2) ≤ l by omega) w2
          have sn2 := slen_nn 5
          rw [if_neg (fun z => z (wok_1.2 w2))] at hQ
          have lo2 : p2 ≤ skR (byt T l) (nuP (byt T l) p2) + slenI 5 := by omega
          generalize skR (byt T l) (nuP (byt T l) p2) + slenI 5 = p4 at *
          refine m_num g4 (by omega) (by omega) (fun e3 v3 I5 g5 k19 k20 => ⟨fun _ => ?_, fun z => absurd z (by decide)⟩) (fun e3 I5 g5 => ⟨fun z => absurd rfl z, fun _ => ?_⟩)
          · have n3 := nu_le (T := T) (show 0 ≤ p4 ∧ p4 ≤ l by omega) hl.2
            have n4 := na_le (T := T) (show 0 ≤ nuP (byt T l) p4 ∧ nuP (byt T l) p4 ≤ l by omega) hl.2
            rw [if_neg (fun z => z e3)] at hQ
            refine m_name g5 (fun e4 I6 g6 n21 => ⟨fun z => absurd z (by decide), fun _ => ?_⟩) (fun e4 I6 g6 => ⟨fun _ => ?_, fun z => absurd rfl z⟩)
            · have ok := na_ok hW (show 0 ≤ nuP (byt T l) p4 ∧ nuP (byt T l) p4 ≤ l by omega) hl.2 e4
              have e0 : naM (byt T l) M (nuP (byt T l) p4) 0 = M 0 := ok.2.2.2.1 0 (by omega) (by omega)
              have e03 : naM (byt T l) M (nuP (byt T l) p4) 3 = M 3 := ok.2.2.2.1 3 (by omega) (by omega)
              rw [if_neg (fun z => z e4)] at hQ
              rw [n21, n19, m19, k19]
              clear e1 e2 e3 e4 n19 m19 k19 n21
              generalize nuV (byt T l) p4 = cnt at *
              generalize nuV (byt T l) p2 = hr at *
              generalize nuV (byt T l) p = gp at *
              generalize naM (byt T l) M (nuP (byt T l) p4) = M2 at *
              generalize naV (byt T l) M (nuP (byt T l) p4) = nm at *
              refine m_brings2 g6 hb v3 v2 (by omega) ok.2.2.1 (by rw [e03]; exact h3) (by omega) (fun w I7 g7 => ⟨fun z => absurd z (by decide), fun _ => ?_⟩) (fun w I7 g7 => ⟨fun _ => ?_, fun z => absurd rfl z⟩)
              · rw [e0] at w
                rw [if_pos w] at hQ
                have h37 : oftR M2 nm gp hr cnt.toNat 3 = 0 := by
                  rw [(oft_lo _).2.2 3 (by omega) (by omega), e03]
                  exact h3
                refine hQ _ I7 ⟨fun _ => ⟨rfl, g7, h37, ?_⟩, fun z => absurd rfl z⟩
                show p ≤ naP (byt T l) (nuP (byt T l) p4)
                omega
              · rw [e0] at w
                rw [if_neg w] at hQ
                exact hQ _ _ (mo_bad g7 (by omega))
            · rw [if_pos e4] at hQ
              exact hQ _ _ (mo_bad g6 e4)
          · rw [if_pos e3] at hQ
            exact hQ _ _ (mo_bad g5 e3)
        · rw [if_pos (fun z => w2 (wok_1.1 z))] at hQ
          exact hQ _ _ (mo_bad g4 (by omega))
      · rw [if_pos e2] at hQ
        exact hQ _ _ (mo_bad g3 e2)
    · rw [if_pos (fun z => w1 (wok_1.1 z))] at hQ
      exact hQ _ _ (mo_bad g2 (by omega))
  · rw [if_pos e1] at hQ
    exact hQ _ _ (mo_bad g1 e1)
theorem m_readsAfter {I0 I : Mm} {l : Int} {T : Int → Int} {G b p : Int} {M : Rw} {Q : Int → Mm → Prop} (h : MSt I0 I l T G p M) (h3 : M 3 = 0) (hb : 0 ≤ b ∧ b ≤ l) (hQ : ∀ (z : Int) (I' : Mm), MOut I0 I' l T (G + 10200) p (afS (byt T l) b p M) z → Q z I') : V_M_readsAfter b I Q := by
  have hl := h.2.2.1.2.1
  have hp := h.2.2.2.1.2
  have hW := h.2.1
  unfold afS at hQ
  unfold V_M_readsAfter
  refine m_name h (fun e1 I1 g1 n21 => ⟨fun _ => ?_, fun z => absurd z (by decide)⟩) (fun e1 I1 g1 => ⟨fun z => absurd rfl z, fun _ => ?_⟩)
  · have ok := na_ok hW hp hl.2 e1
    have n1 := na_le (T := T) hp hl.2
    have s1 := (sk_is (T := T) (show 0 ≤ naP (byt T l) p ∧ naP (byt T l) p ≤ l by omega) hl.2).1
    have e5 : naM (byt T l) M p 5 = M 5 := ok.2.2.2.1 5 (by omega) (by omega)
    have e3 : naM (byt T l) M p 3 = M 3 := ok.2.2.2.1 3 (by omega) (by omega)
    rw [if_neg (fun z => z e1)] at hQ
    refine m_must (by omega) g1 (fun w1 I2 g2 => ⟨fun z => absurd z (by decide), fun _ => ?_⟩) (fun w1 I2 g2 => ⟨fun _ => ?_, fun z => absurd rfl z⟩)
    · have wl := isW_le (by omega) (show 0 ≤ skR (byt T l) (naP (byt T l) p) ∧ skR (byt T l) (naP (byt T l) p) ≤ l by omega) w1
      have sn := slen_nn 7
      rw [if_neg (fun z => z (wok_1.2 w1))] at hQ
      have lo : p ≤ skR (byt T l) (naP (byt T l) p) + slenI 7 := by omega
      generalize skR (byt T l) (naP (byt T l) p) + slenI 7 = p2 at *
      refine m_num g2 (by omega) (by omega) (fun e2 v2 I3 g3 m19 m20 => ⟨fun _ => ?_, fun z => absurd z (by decide)⟩) (fun e2 I3 g3 => ⟨fun z => absurd rfl z, fun _ => ?_⟩)
      · have n2 := nu_le (T := T) (show 0 ≤ p2 ∧ p2 ≤ l by omega) hl.2
        have n3 := na_le (T := T) (show 0 ≤ nuP (byt T l) p2 ∧ nuP (byt T l) p2 ≤ l by omega) hl.2
        rw [if_neg (fun z => z e2)] at hQ
        refine m_name g3 (fun e4 I4 g4 k21 => ⟨fun _ => ?_, fun z => absurd z (by decide)⟩) (fun e4 I4 g4 => ⟨fun z => absurd rfl z, fun _ => ?_⟩)
        · have ok2 := na_ok ok.2.1 (show 0 ≤ nuP (byt T l) p2 ∧ nuP (byt T l) p2 ≤ l by omega) hl.2 e4
          have f5 : naM (byt T l) (naM (byt T l) M p) (nuP (byt T l) p2) 5 = M 5 := by rw [ok2.2.2.2.1 5 (by omega) (by omega)]; exact e5
          have f3 : naM (byt T l) (naM (byt T l) M p) (nuP (byt T l) p2) 3 = M 3 := by rw [ok2.2.2.2.1 3 (by omega) (by omega)]; exact e3
          have b5 := hW.1.2.2.2.2.2.1
          rw [if_neg (fun z => z e4)] at hQ
          rw [g4.1, f5, n21, k21, m19]
          have o1 := ok.2.2.1
          have o2 := ok2.2.2.1
          have o4 := ok2.2.2.2.2
          refine ⟨fun w => m_adds g4.1 (by omega) ?_, fun w => ?_⟩
          · rw [if_pos (by omega)] at hQ
            refine hQ _ _ ⟨fun _ => ⟨rfl, m_row g4 (wf_mono (wf_add g4.2.1 (by omega) (by omega) o2 v2) (by omega)), ?_, by dsimp only; omega⟩, fun z => absurd rfl z⟩
            show addR _ _ _ _ 3 = 0
            unfold addR
            rw [if_neg (by omega), if_neg (by omega), if_neg (by omega), if_neg (by omega), f3]
            exact h3
          · rw [if_neg (by omega)] at hQ
            exact m_fails g4.2.2.2.2 (by omega) (by omega) (fun I5 g5 => ⟨.inl rfl, hQ _ _ (mo_bad g5 (by omega))⟩)
        · rw [if_pos e4] at hQ
          exact hQ _ _ (mo_bad g4 e4)
      · rw [if_pos e2] at hQ
        exact hQ _ _ (mo_bad g3 e2)
    · rw [if_pos (fun z => w1 (wok_1.1 z))] at hQ
      exact hQ _ _ (mo_bad g2 (by omega))
  · rw [if_pos e1] at hQ
    exact hQ _ _ (mo_bad g1 e1)
theorem m_resz {G x1 x2 : Int} {I : Mm} {M : Rw} {Q : Mm → Prop} (hM : I 237 = M) (hW : WF G M) (hG : G ≤ 2147400000) (h1 : M 1 = x1 ∧ M 2 = x2 → Q I) (hQ : ¬ (M 1 = x1 ∧ M 2 = x2) → Q (rset I (layR M x1 x2))) : V_M_resizes x1 x2 I Q := by
  by_cases q : M 1 = x1 ∧ M 2 = x2
  · unfold V_M_resizes
    rw [hM]
    exact ⟨fun w => absurd q.1 w, fun _ => ⟨fun w => absurd q.2 w, fun _ => h1 q⟩⟩
  · exact m_resizes hM hW hG q (hQ q)
theorem m_readsRows {I0 I : Mm} {l : Int} {T : Int → Int} {G p : Int} {M : Rw} {Q : Int → Mm → Prop} (h : MSt I0 I l T G p M) (h3 : M 3 = 0) (hG : G ≤ 2140000000) (hQ : ∀ (z : Int) (I' : Mm), MOut I0 I' l T (G + 10200) p (roS (byt T l) p M) z → Q z I') : V_M_readsRows I Q := by
  have hl := h.2.2.1.2.1
  have hp := h.2.2.2.1.2
  have hW := h.2.1
  have b2 := hW.1.2.2.1
  have n1 := nu_le (T := T) hp hl.2
  have s1 := (sk_is (T := T) hp hl.2).1
  unfold roS at hQ
  unfold V_M_readsRows
  refine m_num h (by omega) (by omega) (fun e1 v1 I1 g1 n19 n20 => ⟨fun _ => ?_, fun z => absurd z (by decide)⟩) (fun e1 I1 g1 => ⟨fun z => absurd rfl z, fun _ => ?_⟩)
  · rw [if_neg (fun z => z e1)] at hQ
    rw [n19]
    refine m_areRows (fun w => ⟨fun _ => ?_, fun z => absurd z (by decide)⟩) (fun w => ⟨fun z => absurd rfl z, fun _ => ?_⟩)
    · rw [if_pos w] at hQ
      rw [n19, g1.1]
      refine m_resz g1.1 hW (by omega) (fun q => ?_) (fun q => ?_)
      · rw [if_pos q.1.symm] at hQ
        exact hQ _ _ ⟨fun _ => ⟨rfl, m_mono g1 (by omega), h3, n1.1⟩, fun z => absurd rfl z⟩
      · rw [if_neg (fun z => q ⟨z.symm, rfl⟩)] at hQ
        refine hQ _ _ ⟨fun _ => ⟨rfl, m_row g1 (wf_mono (wf_lay hW w b2) (by omega)), ?_, n1.1⟩, fun z => absurd rfl z⟩
        show layR M (nuV (byt T l) p) (M 2) 3 = 0
        unfold layR
        rw [if_neg (by omega), if_neg (by omega), if_neg (by omega)]
        exact h3
    · rw [if_neg w] at hQ
      rw [n20]
      exact m_fails g1.2.2.2.2 (by omega) (by omega) (fun I5 g5 => ⟨.inl rfl, hQ _ _ (mo_bad g5 (by omega))⟩)
  · rw [if_pos e1] at hQ
    exact hQ _ _ (mo_bad g1 e1)
theorem m_readsWide {I0 I : Mm} {l : Int} {T : Int → Int} {G p : Int} {M : Rw} {Q : Int → Mm → Prop} (h : MSt I0 I l T G p M) (h3 : M 3 = 0) (hG : G ≤ 2140000000) (hQ : ∀ (z : Int) (I' : Mm), MOut I0 I' l T (G + 10200) p (wiS (byt T l) p M) z → Q z I') : V_M_readsWide I Q := by
  have hl := h.2.2.1.2.1
  have hp := h.2.2.2.1.2
  have hW := h.2.1
  have b1 := hW.1.2.1
  have n1 := nu_le (T := T) hp hl.2
  unfold wiS at hQ
  unfold V_M_readsWide
  refine m_num h (by omega) (by omega) (fun e1 v1 I1 g1 n19 n20 => ⟨fun _ => ?_, fun z => absurd z (by decide)⟩) (fun e1 I1 g1 => ⟨fun z => absurd rfl z, fun _ => ?_⟩)
  · rw [if_neg (fun z => z e1)] at hQ
    rw [n19, g1.1]
    refine m_resz g1.1 hW (by omega) (fun q => ?_) (fun q => ?_)
    · rw [if_pos q.2.symm] at hQ
      exact hQ _ _ ⟨fun _ => ⟨rfl, m_mono g1 (by omega), h3, n1.1⟩, fun z => absurd rfl z⟩
    · rw [if_neg (fun z => q ⟨rfl, z.symm⟩)] at hQ
      refine hQ _ _ ⟨fun _ => ⟨rfl, m_row g1 (wf_mono (wf_lay hW b1 v1) (by omega)), ?_, n1.1⟩, fun z => absurd rfl z⟩
      show layR M (M 1) (nuV (byt T l) p) 3 = 0
      unfold layR
      rw [if_neg (by omega), if_neg (by omega), if_neg (by omega)]
      exact h3
  · rw [if_pos e1] at hQ
    exact hQ _ _ (mo_bad g1 e1)
theorem mo_le {I0 I : Mm} {l : Int} {T : Int → Int} {G p p' z : Int} {r : Int × Int × Rw} (h : MOut I0 I l T G p r z) (hp : p' ≤ p) : MOut I0 I l T G p' r z := ⟨fun w => by have := h.1 w; exact ⟨this.1, this.2.1, this.2.2.1, by omega⟩, h.2⟩
theorem m_readsStatement {I0 I : Mm} {l : Int} {T : Int → Int} {G p : Int} {M : Rw} {Q : Int → Mm → Prop} (h : MSt I0 I l T G p M) (h3 : M 3 = 0) (hG : G ≤ 2140000000) (hQ : ∀ (z : Int) (I' : Mm), MOut I0 I' l T (G + 10200) p (stS (byt T l) p M) z → Q z I') : V_M_readsStatement I Q := by
  have hl := h.2.2.1.2.1
  have hp := h.2.2.2.1.2
  unfold stS at hQ
  unfold V_M_readsStatement
  refine m_next h (fun I1 g1 => ?_)
  have s1 := (sk_is (T := T) hp hl.2).1
  have ss := sk_sk (T := T) hp hl.2
  generalize skR (byt T l) p = q at *
  rw [g1.2.2.2.1.1]
  have sn0 := slen_nn 0
  have sn1 := slen_nn 1
  have sn2 := slen_nn 2
  have sn3 := slen_nn 3
  have sn6 := slen_nn 6
  refine m_word (w := 0) (by omega) g1 (fun w I2 g2 => ⟨fun z => absurd z (by decide), fun _ => ?_⟩) (fun w I2 g2 => ⟨fun _ => ?_, fun z => absurd rfl z⟩)
  · rw [ss] at w g2
    rw [if_pos (wok_1.2 w)] at hQ
    exact m_readsRows g2 h3 hG (fun z I' g' => ⟨mo_z g', hQ _ _ (mo_le g' (by omega))⟩)
  rw [ss] at w g2
  rw [if_neg (fun z => w (wok_1.1 z))] at hQ
  clear w
  refine m_word (w := 1) (by omega) g2 (fun w I3 g3 => ⟨fun z => absurd z (by decide), fun _ => ?_⟩) (fun w I3 g3 => ⟨fun _ => ?_, fun z => absurd rfl z⟩)
  · rw [ss] at w g3
    rw [if_pos (wok_1.2 w)] at hQ
    exact m_readsWide g3 h3 hG (fun z I' g' => ⟨mo_z g', hQ _ _ (mo_le g' (by omega))⟩)
  rw [ss] at w g3
  rw [if_neg (fun z => w (wok_1.1 z))] at hQ
  clear w
  refine m_word (w := 2) (by omega) g3 (fun w I4 g4 => ⟨fun z => absurd z (by decide), fun _ => ?_⟩) (fun w I4 g4 => ⟨fun _ => ?_, fun z => absurd rfl z⟩)
  · rw [ss] at w g4
    rw [if_pos (wok_1.2 w)] at hQ
    exact m_readsAt g4 h3 hG (by omega) (fun z I' g' => ⟨mo_z g', hQ _ _ (mo_le g' (by omega))⟩)
  rw [ss] at w g4
  rw [if_neg (fun z => w (wok_1.1 z))] at hQ
  clear w
  refine m_word (w := 3) (by omega) g4 (fun w I5 g5 => ⟨fun z => absurd z (by decide), fun _ => ?_⟩) (fun w I5 g5 => ⟨fun _ => ?_, fun z => absurd rfl z⟩)
  · rw [ss] at w g5
    rw [if_pos (wok_1.2 w)] at hQ
    exact m_readsEvery g5 h3 hG (by omega) (fun z I' g' => ⟨mo_z g', hQ _ _ (mo_le g' (by omega))⟩)
  rw [ss] at w g5
  rw [if_neg (fun z => w (wok_1.1 z))] at hQ
  clear w
  refine m_word (w := 6) (by omega) g5 (fun w I6 g6 => ⟨fun z => absurd z (by decide), fun _ => ?_⟩) (fun w I6 g6 => ⟨fun _ => ?_, fun z => absurd rfl z⟩)
  · rw [ss] at w g6
    rw [if_pos (wok_1.2 w)] at hQ
    exact m_readsAfter g6 h3 (by omega) (fun z I' g' => ⟨mo_z g', hQ _ _ (mo_le g' (by omega))⟩)
  rw [ss] at w g6
  rw [if_neg (fun z => w (wok_1.1 z))] at hQ
  exact m_fails g6.2.2.2.2 (by omega) (by omega) (fun I7 g7 => ⟨.inl rfl, hQ _ _ (mo_bad g7 (by omega))⟩)
theorem m_all {I0 : Mm} {l : Int} {T : Int → Int} {Q : Int → Mm → Prop} {K : Mm → Prop} (hK : ∀ (I : Mm) (G p : Int) (M : Rw), MSt I0 I l T G p M → skR (byt T l) p = p → (byt T l p = -1 → ∀ I' : Mm, MSt I0 I' l T G p M → Q 1 I') → (byt T l p ≠ -1 → ∀ I' : Mm, MBd I0 I' (8 * p + 1) → Q 0 I') → K I) (n : Nat) : ∀ (G p : Int) (I : Mm) (M : Rw), MSt I0 I l T G p M → M 3 = 0 → l - p + 1 ≤ (n : Int) → G + 10200 * (n : Int) ≤ 2140000000 → (∀ I' : Mm, (allS (byt T l) n p M).1 = 0 → MSt I0 I' l T (G + 10200 * (n : Int)) (allS (byt T l) n p M).2.1 (allS (byt T l) n p M).2.2 → Q 1 I') → (∀ I' : Mm, (allS (byt T l) n p M).1 ≠ 0 → MBd I0 I' (allS (byt T l) n p M).1 → Q 0 I') → L_M_readsAll_7 Q K (n + 1) 1 I := by
  induction n with
  | zero =>
    intro G p I M h h3 hn hG hQ hQ0
    have hp := h.2.2.2.1.2
    omega
  | succ n ih =>
    intro G p I M h h3 hn hG hQ hQ0
    have hl := h.2.2.1.2.1
    have hp := h.2.2.2.1.2
    unfold L_M_readsAll_7
    refine ⟨fun w => absurd w (by decide), fun _ => m_readsStatement h h3 (by omega) (fun z I1 g1 => ?_)⟩
    have ea : allS (byt T l) (n + 1) p M = if (stS (byt T l) p M).1 ≠ 0 then (stS (byt T l) p M) else if (byt T l) (skR (byt T l) (stS (byt T l) p M).2.1) = 59 then allS (byt T l) n (skR (byt T l) (stS (byt T l) p M).2.1 + 1) (stS (byt T l) p M).2.2 else if (byt T l) (skR (byt T l) (stS (byt T l) p M).2.1) = -1 then (0, skR (byt T l) (stS (byt T l) p M).2.1, (stS (byt T l) p M).2.2) else (8 * skR (byt T l) (stS (byt T l) p M).2.1 + 1, p, M) := rfl
    rw [ea] at hQ hQ0
    generalize stS (byt T l) p M = r at *
    by_cases e : r.1 = 0
    · obtain ⟨ez, g2, r3, rp⟩ := g1.1 e
      rw [if_neg (fun z => z e)] at hQ hQ0
      rw [ez]
      refine ⟨fun _ => m_next g2 (fun I2 g3 => ?_), fun w => absurd w (by decide)⟩
      have hp2 := g2.2.2.2.1.2
      have s1 := (sk_is (T := T) hp2 hl.2).1
      have ss := sk_sk (T := T) hp2 hl.2
      generalize skR (byt T l) r.2.1 = q at *
      rw [g3.2.2.2.1.1]
      refine ⟨fun w => ⟨by omega, ?_⟩, fun w => ⟨by omega, ?_⟩⟩
      · rw [if_neg w] at hQ hQ0
        have g4 := m_at g3 (p' := q + 0) (by omega)
        have ke : L_M_readsAll_7 Q K (n + 1) 0 (wrM I2 236 17 (q + 0)) := by
          unfold L_M_readsAll_7
          refine ⟨fun _ => hK _ _ _ _ g4 (by rw [Int.add_zero]; exact ss) (fun v I' g' => ?_) (fun v I' b => ?_), fun z => absurd rfl z⟩
          · rw [Int.add_zero] at v g'
            rw [if_pos v] at hQ
            exact hQ _ rfl (m_mono g' (by omega))
          · rw [Int.add_zero] at v b
            rw [if_neg v] at hQ0
            exact hQ0 I' (by dsimp only; omega) b
        exact ke
      · rw [if_pos w] at hQ hQ0
        have hq : q < l := (byt_in (T := T) (l := l) (k := q) (by omega)).2
        exact ih (G + 10200) (q + 1) _ _ (m_at g3 (by omega)) r3 (by omega) (by omega) (fun I' a b => hQ I' a (m_mono b (by omega))) hQ0
    · obtain ⟨ez, g2⟩ := g1.2 e
      rw [if_pos e] at hQ0
      rw [ez]
      exact ⟨fun w => absurd rfl w, fun _ => hQ0 _ e g2⟩
def bgR (M : Rw) : Rw := fun j => if 0 ≤ j ∧ j < 980 then begR j else M j
theorem bg_in {M : Rw} {j : Int} (a : 0 ≤ j) (b : j < 980) : bgR M j = begR j := if_pos ⟨a, b⟩
theorem m_begins {I : Mm} {M : Rw} {Q : Mm → Prop} (hM : I 237 = M) (hQ : Q (rset I (bgR M))) : V_M_begins 237 I Q := by
  unfold V_M_begins
  have hI : I = rset I (fun j => if 0 ≤ j ∧ j < ((0 : Nat) : Int) then 0 else M j) := by
    have : (fun j => if 0 ≤ j ∧ j < ((0 : Nat) : Int) then 0 else M j) = M := by
      funext j
      rw [if_neg (by omega)]
    rw [this, ← hM, rs_id]
  rw [hI]
  refine lp (P := fun f i => L_M_begins_2 237 Q f (i : Int) (rset I (fun j => if 0 ≤ j ∧ j < (i : Int) then 0 else M j))) 980 (fun f => ?_) (fun i f hi ih => ?_)
  · unfold L_M_begins_2
    refine ⟨fun _ => ?_, fun q => absurd q (by decide)⟩
    have e : wrM (wrM (rset I (fun j => if 0 ≤ j ∧ j < ((980 : Nat) : Int) then 0 else M j)) 237 1 4) 237 2 10 = rset I (bgR M) := by
      rw [wr_rs, wr_rs, rs_237, rs_237, rs_rs, rs_rs]
      congr 1
      funext j
      unfold stR bgR begR
      by_cases q1 : j = 1
      · subst q1
        rw [if_neg (by decide), if_pos rfl, if_pos (by decide), if_pos rfl]
      · by_cases q2 : j = 2
        · subst q2
          rw [if_pos rfl, if_pos (by decide), if_neg (by decide), if_pos rfl]
        · rw [if_neg q2, if_neg q1, if_neg q1, if_neg q2]
          rfl
    rw [e]
    exact hQ
  · unfold L_M_begins_2
    refine ⟨fun q => by omega, fun _ => ⟨by omega, by omega, ?_⟩⟩
    have e : wrM (rset I (fun j => if 0 ≤ j ∧ j < (i : Int) then 0 else M j)) 237 (i : Int) 0 = rset I (fun j => if 0 ≤ j ∧ j < ((i + 1 : Nat) : Int) then 0 else M j) := by
      rw [wr_rs, rs_237, rs_rs]
      congr 1
      funext j
      unfold stR
      dsimp only
      by_cases q : j = (i : Int)
      · rw [if_pos q, if_pos (show 0 ≤ j ∧ j < ((i + 1 : Nat) : Int) by omega)]
      · rw [if_neg q]
        by_cases q2 : 0 ≤ j ∧ j < (i : Int)
        · rw [if_pos q2, if_pos (show 0 ≤ j ∧ j < ((i + 1 : Nat) : Int) by omega)]
        · rw [if_neg q2, if_neg (show ¬ (0 ≤ j ∧ j < ((i + 1 : Nat) : Int)) by omega)]
    rw [e]
    exact ih
/-- the reference's tell -/
theorem r_tell {J : Mm} {M : Rw} {l : Int} {T : Int → Int} {Q : Int → Mm → Prop} (hM : J 237 = M) (hT : TpM J l T) (h1 : (allS (byt T l) 401 0 (bgR M)).1 = 0 → WF 4090200 (allS (byt T l) 401 0 (bgR M)).2.2 → ∀ I' : Mm, I' 237 = (allS (byt T l) 401 0 (bgR M)).2.2 → (∀ a : Int, a ≠ 236 → a ≠ 237 → a ≠ 238 → I' a = J a) → I' 236 3 = 0 → I' 236 16 = 0 → Q ((allS (byt T l) 401 0 (bgR M)).2.2 0) I') (h0 : (allS (byt T l) 401 0 (bgR M)).1 ≠ 0 → (allS (byt T l) 401 0 (bgR M)).1 ≤ 4000 ∧ 0 ≤ (allS (byt T l) 401 0 (bgR M)).1 ∧ ∀ I' : Mm, (∀ j : Int, 0 ≤ j → j < 980 → I' 237 j = M j) → (∀ a : Int, a ≠ 236 → a ≠ 237 → a ≠ 238 → I' a = J a) → I' 236 3 = J 236 3 → I' 236 16 = 0 → Q (-2 - (allS (byt T l) 401 0 (bgR M)).1) I') : V_M_tell J Q := by
  unfold V_M_tell
  refine m_keepsAside hM (fun I1 k1 F1 => m_begins (M := M) (by rw [F1 237 (by decide)]; exact hM) ?_)
  unfold V_M_readsAll
  have hl := hT.2.1
  have W0 : WF 0 (bgR M) := wf_cong (wf_beg (Int.le_refl 0)) (fun j a b => bg_in a b)
  have T1 : TpM I1 l T := ⟨by rw [F1 236 (by decide)]; exact hT.1, hl, by rw [F1 246 (by decide)]; exact hT.2.2⟩
  have S0 : MSt I1 (wrM (rset I1 (bgR M)) 236 17 0) l T 0 0 (bgR M) := ⟨by rw [wr_oth _ (by decide), rs_237], W0, ⟨by rw [wr_n (by omega), rs_236]; exact T1.1, hl, by rw [wr_oth _ (by decide), rs_ne _ _ (by decide)]; exact T1.2.2⟩, ⟨wr_s _ _ _ _, by omega⟩, mfr_w (mfr_r ⟨fun _ _ _ => rfl, fun _ _ => rfl⟩) (by omega)⟩
  have hn := fun a : Int => F1 a
  refine ⟨402, m_all (fun I G p M2 hS hsk y1 y0 => ?_) 401 0 0 _ _ S0 (by rw [bg_in (by omega) (by omega)]; rfl) (by omega) (by decide) (fun I' e hS => ?_) (fun I' e hB => ?_)⟩
  · have hp := hS.2.2.2.1.2
    refine m_next hS (fun I2 g2 => ?_)
    rw [hsk] at g2 ⊢
    refine ⟨fun w => y1 w I2 g2, fun w => ?_⟩
    rw [g2.2.2.2.1.1]
    exact m_fails g2.2.2.2.2 (by omega) (by omega) (fun I3 g3 => ⟨fun _ => y0 w I3 g3, fun z => absurd rfl z⟩)
  · refine ⟨fun _ => ?_, fun w => absurd w (by decide)⟩
    have e37 : wrM (wrM I' 236 16 0) 236 3 0 237 = (allS (byt T l) 401 0 (bgR M)).2.2 := by rw [wr_oth _ (by decide), wr_oth _ (by decide)]; exact hS.1
    rw [e37]
    refine h1 e (wf_mono hS.2.1 (by decide)) _ e37 (fun a p q r => ?_) (wr_s _ _ _ _) (by rw [wr_n (by omega), wr_s])
    rw [wr_oth _ p, wr_oth _ p, hS.2.2.2.2.1 a p q, F1 a r]
  · refine ⟨fun w => absurd rfl w, fun _ => ?_⟩
    obtain ⟨g1, g2, g3⟩ := h0 e
    obtain ⟨b1, b2, b3⟩ := hB
    refine m_isAgain (N := M) (fun j p q => by rw [wr_oth _ (by decide), b2 238 (by decide) (by decide)]; exact k1 j p q) (fun I2 k2 F2 => ?_)
    have e18 : I2 236 18 = (allS (byt T l) 401 0 (bgR M)).1 := by rw [F2 236 (by decide), wr_n (by omega)]; exact b1
    rw [e18]
    refine ⟨by omega, g3 I2 k2 (fun a p q r => ?_) ?_ ?_⟩
    · rw [F2 a q, wr_oth _ p, b2 a p q, F1 a r]
    · rw [F2 236 (by decide), wr_n (by omega), b3 3 (by omega), F1 236 (by decide)]
    · rw [F2 236 (by decide), wr_s]
theorem o_tell {G : Int} {I : Mm} {Q : Mm → Prop} (hI : Inv G I) (hG : G ≤ 2143000000) (hG0 : 2000000 ≤ G) (hQ : ∀ I' : Mm, Inv (G + 3000000) I' → Q I') : V_X_tell I (fun z I1 => V_M_tell I1 (fun z' I2 => (z = z' → Q I2) ∧ (¬ z = z' → False))) := by
  obtain ⟨M, u, H, k, S, l, T, hC, hR, hA⟩ := hI
  have hW := hA.1
  have hM := hR.1
  have hl := hC.2.2.2.2.1
  have TC : TpC I l T := hC.2.2.2
  have W0 : WF 0 (bgR M) := wf_cong (wf_beg (Int.le_refl 0)) (fun j a b => bg_in a b)
  unfold V_X_tell V_Re_readAll
  refine s_caReset (c := 17) (fun I1 R1 F1 => ?_)
  have R1' : RepC I1 17 (bgR M) := rep_cong R1 (by decide) (by decide) (fun _ _ _ => rfl) (fun j a b => bg_in a b)
  have S0 : CSt I (wrM (wrM I1 35 2 0) 35 3 0) l T 0 0 0 (bgR M) := by
    refine ⟨rep_fr R1' W0 (fun a x y => by rw [wr_oth _ (by omega), wr_oth _ (by omega)]), W0, ⟨?_, hl, ?_⟩, ⟨wr_s _ _ _ _, by omega⟩, ⟨by rw [wr_n (by omega), wr_s], by omega⟩, fun a x y => by rw [wr_oth _ y, wr_oth _ y, F1 a (by omega)]⟩
    · rw [wr_oth _ (by decide), wr_oth _ (by decide), F1 33 (by omega)]; exact TC.1
    · rw [wr_oth _ (by decide), wr_oth _ (by decide), F1 34 (by omega)]; exact TC.2.2
  refine ⟨401, c_all 401 0 0 0 _ _ S0 (by rw [bg_in (by omega) (by omega)]; rfl) (by omega) (by omega) (by omega) (by decide) (fun I2 g1 g0 => ?_)⟩
  by_cases e : (allS (byt T l) 401 0 (bgR M)).1 = 0
  · have g := g1 e
    have W4 : WF 4090200 (allS (byt T l) 401 0 (bgR M)).2.2 := wf_mono g.2.1 (by decide)
    have FI := g.2.2.2.2.2
    refine ⟨fun _ => s_caCopy (c := 1) (c1 := 17) (rep_fr g.1 W4 (fun a x y => wr_oth _ (by omega))) W4.1.1 (wf_b W4) (by omega) (fun I3 R3 F3 => ?_), fun w => absurd e w⟩
    unfold V_Hi_forget
    have e0 : wrM I3 39 0 0 (1 + 5) 0 = (allS (byt T l) 401 0 (bgR M)).2.2 0 := by rw [wr_oth _ (by decide)]; exact R3.2.1.1
    dsimp only
    rw [e0]
    have Fo : ∀ a : Int, ¬ (1 ≤ a ∧ a < 33) → a ≠ 33 → a ≠ 35 → a ≠ 39 → wrM I3 39 0 0 a = I a := fun a x y z v => by rw [wr_oth _ v, F3 a (by omega), wr_oth _ y, FI a (by omega) z]
    have TM : TpM (wrM I3 39 0 0) l T := ⟨by rw [Fo 236 (by omega) (by decide) (by decide) (by decide)]; exact hR.2.2.2.2.1, hl, by rw [Fo 246 (by omega) (by decide) (by decide) (by decide)]; exact hR.2.2.2.2.2⟩
    refine r_tell (by rw [Fo 237 (by omega) (by decide) (by decide) (by decide)]; exact hM) TM (fun _ _ I4 k4 F4 e3 e16 => fin rfl (hQ _ ?_)) (fun w => absurd e w)
    refine ⟨_, 0, H, k, S, 0, T, ⟨rep_fr R3 W4 (fun a x y => ?_), ⟨?_, by omega, ?_, fun i x y => by omega⟩, ⟨?_, fun s x y => ⟨(hC.2.2.1.2 s x y).1, fun w => rep_fr ((hC.2.2.1.2 s x y).2 w) (hA.2.2 s x y w) (fun a p q => ?_)⟩⟩, ?_, by omega, fun j x y => by omega⟩, ⟨k4, e3, fun i j x y => by omega, ?_, e16, fun j x y => by omega⟩, wf_mono W4 (by omega), fun i x y => by omega, fun s x y w => wf_mono (hA.2.2 s x y w) (by omega)⟩
    · rw [F4 a (by omega) (by omega) (by omega), wr_oth _ (by omega)]
    · rw [F4 39 (by decide) (by decide) (by decide), wr_s]
    · rw [F4 39 (by decide) (by decide) (by decide), wr_n (by omega), F3 39 (by omega), wr_oth _ (by decide), FI 39 (by omega) (by decide)]
      exact hC.2.1.2.2.1
    · rw [F4 0 (by decide) (by decide) (by decide), Fo 0 (by omega) (by decide) (by decide) (by decide)]
      exact hC.2.2.1.1
    · rw [F4 a (by omega) (by omega) (by omega), Fo a (by omega) (by omega) (by omega) (by omega)]
    · rw [F4 33 (by decide) (by decide) (by decide), wr_oth _ (by decide), F3 33 (by omega), wr_s]
    · rw [F4 240 (by decide) (by decide) (by decide), F4 241 (by decide) (by decide) (by decide), Fo 240 (by omega) (by decide) (by decide) (by decide), Fo 241 (by omega) (by decide) (by decide) (by decide)]
      exact hR.2.2.2.1
  · obtain ⟨p', M', g⟩ := g0 e
    have FI := g.2.2.2.2.2
    have he := g.2.2.2.1.2
    refine ⟨fun w => absurd w e, fun _ => ⟨by omega, ?_⟩⟩
    have Fo : ∀ a : Int, ¬ (17 ≤ a ∧ a < 33) → a ≠ 33 → a ≠ 35 → wrM I2 33 0 0 a = I a := fun a x y z => by rw [wr_oth _ y, FI a x z]
    have C2 : CS (wrM I2 33 0 0) M u H k S 0 T := tape_c hC hA (fun a ha x y => Fo a (by omega) x (by omega)) (wr_s _ _ _ _) (by omega) (fun j x y => by omega)
    have TM : TpM (wrM I2 33 0 0) l T := ⟨by rw [Fo 236 (by omega) (by decide) (by decide)]; exact hR.2.2.2.2.1, hl, by rw [Fo 246 (by omega) (by decide) (by decide)]; exact hR.2.2.2.2.2⟩
    refine r_tell (by rw [Fo 237 (by omega) (by decide) (by decide)]; exact hM) TM (fun w => absurd w e) (fun _ => ⟨he.2, he.1, fun I4 k4 F4 e3 e16 => fin rfl (hQ _ ?_)⟩)
    have A2 := aw_mono hA (show G ≤ G + 3000000 by omega)
    refine inv_mix (M := M) (M' := I4 237) (H' := H) (cs_fr C2 A2 (fun a ha => F4 a (by omega) (by omega) (by omega))) ⟨rfl, ?_, ?_, ?_, e16, fun j x y => by omega⟩ A2 k4 (fun _ _ _ _ _ _ => rfl)
    · rw [e3, Fo 236 (by omega) (by decide) (by decide)]; exact hR.2.1
    · rw [F4 239 (by decide) (by decide) (by decide), Fo 239 (by omega) (by decide) (by decide)]; exact hR.2.2.1
    · rw [F4 240 (by decide) (by decide) (by decide), F4 241 (by decide) (by decide) (by decide), Fo 240 (by omega) (by decide) (by decide), Fo 241 (by omega) (by decide) (by decide)]
      exact hR.2.2.2.1
