/-! the class's reader: the longer statements, all -/
theorem cb_tail6 {I0 I : Mm} {l : Int} {T : Int → Int} {G e p b gap hour count : Int} {M : Rw} {Q : Mm → Prop} (h : CSt I0 I l T G e p M) (he : e ≠ 0) (hb : 0 ≤ b ∧ b ≤ l) (h3 : 1 ≤ count ∧ count ≤ 50) (h2 : 0 ≤ hour ∧ hour ≤ 999999999) (h1 : 1 ≤ gap ∧ gap ≤ 999999) (hQ : ∀ (I' : Mm) (p' : Int), CSt I0 I' l T G e p' M → Q I') : V_Re_readName I (fun z29 I30 => V_Re_fits b gap hour count I30 (fun z31 I32 => (z31 = 0 → Q I32) ∧
    (¬ z31 = 0 → V_Ca_comesOften 17 z29 gap hour count I32 (fun z33 I34 => Q I34)))) :=
  c_name h (fun z => absurd z he) (fun _ I2 p2 g2 => by
    rw [if_neg he] at g2
    exact c_fits g2 hb h3 h2 h1 (fun z => absurd z he) (fun z => absurd z he) (fun _ I3 g3 => ⟨fun _ => hQ I3 _ g3, fun z => absurd rfl z⟩))
theorem cb_tail5 {I0 I : Mm} {l : Int} {T : Int → Int} {G e p b gap hour : Int} {M : Rw} {Q : Mm → Prop} (h : CSt I0 I l T G e p M) (he : e ≠ 0) (hb : 0 ≤ b ∧ b ≤ l) (h2 : 0 ≤ hour ∧ hour ≤ 999999999) (h1 : 1 ≤ gap ∧ gap ≤ 999999) (hQ : ∀ (I' : Mm) (p' : Int), CSt I0 I' l T G e p' M → Q I') : V_Re_readNumber 1 50 I (fun z27 I28 => V_Re_readName I28 (fun z29 I30 => V_Re_fits b gap hour z27 I30 (fun z31 I32 => (z31 = 0 → Q I32) ∧
    (¬ z31 = 0 → V_Ca_comesOften 17 z29 gap hour z27 I32 (fun z33 I34 => Q I34))))) :=
  c_num h (by omega) (by omega) (fun z => absurd z he) (fun _ I2 g2 => by
    rw [if_neg he] at g2
    exact cb_tail6 g2 he hb (by omega) h2 h1 hQ)
theorem cb_tail3 {I0 I : Mm} {l : Int} {T : Int → Int} {G e p b gap : Int} {M : Rw} {Q : Mm → Prop} (h : CSt I0 I l T G e p M) (he : e ≠ 0) (hb : 0 ≤ b ∧ b ≤ l) (h1 : 1 ≤ gap ∧ gap ≤ 999999) (hQ : ∀ (I' : Mm) (p' : Int), CSt I0 I' l T G e p' M → Q I') : V_Re_readNumber 0 999999999 I (fun z24 I25 => V_Re_expect 5 I25 (fun I26 => V_Re_readNumber 1 50 I26 (fun z27 I28 => V_Re_readName I28 (fun z29 I30 => V_Re_fits b gap z24 z27 I30 (fun z31 I32 => (z31 = 0 → Q I32) ∧
    (¬ z31 = 0 → V_Ca_comesOften 17 z29 gap z24 z27 I32 (fun z33 I34 => Q I34))))))) :=
  c_num h (by omega) (by omega) (fun z => absurd z he) (fun _ I2 g2 => by
    rw [if_neg he] at g2
    exact c_expect (by omega) g2 (fun z => absurd z he) (fun z => absurd z he) (fun _ I3 p3 g3 => cb_tail5 g3 he hb (by omega) h1 hQ))
theorem c_readEvery {I0 I : Mm} {l : Int} {T : Int → Int} {G b p : Int} {M : Rw} {Q : Mm → Prop} (h : CSt I0 I l T G 0 p M) (h3 : M 3 = 0) (hG : G ≤ 2140000000) (hb : 0 ≤ b ∧ b ≤ l) (hQ : ∀ I' : Mm, COut I0 I' l T (G + 10200) p (evS (byt T l) b p M) → Q I') : V_Re_readEvery b I Q := by
  have hl := h.2.2.1.2.1
  have hp := h.2.2.2.2.1.2
  have hW := h.2.1
  unfold evS at hQ
  unfold V_Re_readEvery
  refine c_num h (by omega) (by omega) (fun _ e1 v1 I1 g1 => ?_) (fun e1 I1 g1 => ?_)
  · have n1 := nu_le (T := T) hp hl.2
    have s1 := (sk_is (T := T) (show 0 ≤ nuP (byt T l) p ∧ nuP (byt T l) p ≤ l by omega) hl.2).1
    rw [if_neg (fun z => z e1)] at hQ
    refine c_expect (by omega) g1 (fun _ w1 I2 g2 => ?_) (fun _ w1 I2 g2 => ?_) (fun z => absurd rfl z)
    · have wl := isW_le (by omega) (show 0 ≤ skR (byt T l) (nuP (byt T l) p) ∧ skR (byt T l) (nuP (byt T l) p) ≤ l by omega) w1
      have sn := slen_nn 4
      rw [if_neg (fun z => z (wok_1.2 w1))] at hQ
      have lo : p ≤ skR (byt T l) (nuP (byt T l) p) + slenI 4 := by omega
      generalize skR (byt T l) (nuP (byt T l) p) + slenI 4 = p2 at *
      refine c_num g2 (by omega) (by omega) (fun _ e2 v2 I3 g3 => ?_) (fun e2 I3 g3 => ?_)
      · have n2 := nu_le (T := T) (show 0 ≤ p2 ∧ p2 ≤ l by omega) hl.2
        have s2 := (sk_is (T := T) (show 0 ≤ nuP (byt T l) p2 ∧ nuP (byt T l) p2 ≤ l by omega) hl.2).1
        rw [if_neg (fun z => z e2)] at hQ
        refine c_expect (by omega) g3 (fun _ w2 I4 g4 => ?_) (fun _ w2 I4 g4 => ?_) (fun z => absurd rfl z)
        · have wl2 := isW_le (by omega) (show 0 ≤ skR (byt T l) (nuP (byt T l) p2) ∧ skR (byt T l) (nuP (byt T l) p2) ≤ l by omega) w2
          have sn2 := slen_nn 5
          rw [if_neg (fun z => z (wok_1.2 w2))] at hQ
          have lo2 : p2 ≤ skR (byt T l) (nuP (byt T l) p2) + slenI 5 := by omega
          generalize skR (byt T l) (nuP (byt T l) p2) + slenI 5 = p4 at *
          refine c_num g4 (by omega) (by omega) (fun _ e3 v3 I5 g5 => ?_) (fun e3 I5 g5 => ?_)
          · have n3 := nu_le (T := T) (show 0 ≤ p4 ∧ p4 ≤ l by omega) hl.2
            have n4 := na_le (T := T) (show 0 ≤ nuP (byt T l) p4 ∧ nuP (byt T l) p4 ≤ l by omega) hl.2
            rw [if_neg (fun z => z e3)] at hQ
            refine c_name g5 (fun _ e4 I6 g6 => ?_) (fun e4 I6 p6 g6 => ?_)
            · have ok := na_ok hW (show 0 ≤ nuP (byt T l) p4 ∧ nuP (byt T l) p4 ≤ l by omega) hl.2 e4
              have e0 : naM (byt T l) M (nuP (byt T l) p4) 0 = M 0 := ok.2.2.2.1 0 (by omega) (by omega)
              have e03 : naM (byt T l) M (nuP (byt T l) p4) 3 = M 3 := ok.2.2.2.1 3 (by omega) (by omega)
              rw [if_neg (fun z => z e4)] at hQ
              refine c_fits g6 hb v3 (by omega) v1 (fun _ w => ⟨fun z => absurd z (by decide), fun _ => ?_⟩) (fun _ w I7 g7 => ⟨fun _ => ?_, fun z => absurd rfl z⟩) (fun z => absurd rfl z)
              · rw [e0] at w
                rw [if_pos w] at hQ
                have b0 := hW.1.1
                clear e1 e2 e3 e4
                generalize nuV (byt T l) p4 = cnt at *
                generalize nuV (byt T l) p2 = hr at *
                generalize nuV (byt T l) p = gp at *
                generalize naM (byt T l) M (nuP (byt T l) p4) = M2 at *
                generalize naV (byt T l) M (nuP (byt T l) p4) = nm at *
                have W7 : WF (G + 10200) (oftR M2 nm gp hr cnt.toNat) := wf_mono (wf_oft (count := cnt) g6.2.1 ok.2.2.1 (by omega) (by omega) (by rw [e0]; omega) w.2 cnt.toNat (by omega)) (by omega)
                have h37 : oftR M2 nm gp hr cnt.toNat 3 = 0 := by
                  rw [(oft_lo _).2.2 3 (by omega) (by omega), e03]
                  exact h3
                refine s_often g6.1 g6.2.1 ok.2.2.1 (by omega) (by omega) (by omega) (by rw [e0]; omega) w.2 (by omega) (fun I7 R7 F7 => hQ I7 ⟨fun _ => ⟨c_cal g6 R7 F7 W7, h37, ?_⟩, fun z => absurd rfl z⟩)
                show p ≤ naP (byt T l) (nuP (byt T l) p4)
                omega
              · rw [e0] at w
                rw [if_neg w] at hQ
                exact hQ _ (out_bad g7 (by omega) (by omega))
            · rw [if_pos rfl] at e4 g6
              rw [if_pos e4] at hQ
              exact c_fits g6 hb v3 (by omega) v1 (fun z => absurd z e4) (fun z => absurd z e4) (fun _ I7 g7 => ⟨fun _ => hQ _ (out_bad g7 (by omega) e4), fun z => absurd rfl z⟩)
          · rw [if_pos rfl] at e3 g5
            rw [if_pos e3] at hQ
            exact cb_tail6 g5 e3 hb (by omega) v2 v1 (fun I' p' g' => hQ _ (out_bad g' (by omega) e3))
        · rw [if_pos (fun z => w2 (wok_1.1 z))] at hQ
          exact cb_tail5 g4 (by omega) hb v2 v1 (fun I' p' g' => hQ _ (out_bad g' (by omega) (by omega)))
      · rw [if_pos rfl] at e2 g3
        rw [if_pos e2] at hQ
        exact c_expect (by omega) g3 (fun z => absurd z e2) (fun z => absurd z e2) (fun _ I4 p4 g4 => cb_tail5 g4 e2 hb (by omega) v1 (fun I' p' g' => hQ _ (out_bad g' (by omega) e2)))
    · rw [if_pos (fun z => w1 (wok_1.1 z))] at hQ
      exact cb_tail3 g2 (by omega) hb v1 (fun I' p' g' => hQ _ (out_bad g' (by omega) (by omega)))
  · rw [if_pos rfl] at e1 g1
    rw [if_pos e1] at hQ
    exact c_expect (by omega) g1 (fun z => absurd z e1) (fun z => absurd z e1) (fun _ I2 p2 g2 => cb_tail3 g2 e1 hb (by omega) (fun I' p' g' => hQ _ (out_bad g' (by omega) e1)))
theorem cb_rule {I0 I : Mm} {l : Int} {T : Int → Int} {G e p b x y z : Int} {M : Rw} {Q : Mm → Prop} (h : CSt I0 I l T G e p M) (he : e ≠ 0) (hb : 0 ≤ b ∧ b ≤ l) (hQ : ∀ (I' : Mm) (p' : Int), CSt I0 I' l T G e p' M → Q I') : (I (17 + 9) 0 < 12 → J_Re_readAfter_46 b Q x y z I) ∧ (12 ≤ I (17 + 9) 0 → V_Re_fail b 4 I (fun I31 => J_Re_readAfter_46 b Q x y z I31)) := by
  have hl := h.2.2.1.2.1
  have j : ∀ (I' : Mm), CSt I0 I' l T G e p M → J_Re_readAfter_46 b Q x y z I' := fun I' g => by
    unfold J_Re_readAfter_46
    rw [g.2.2.2.1.1]
    exact ⟨fun _ => hQ _ _ g, fun q => absurd q he⟩
  exact ⟨fun _ => j I h, fun _ => c_fail h (by omega) (by omega) (fun I2 g2 => by rw [if_neg he] at g2; exact j I2 g2)⟩
theorem c_readAfter {I0 I : Mm} {l : Int} {T : Int → Int} {G b p : Int} {M : Rw} {Q : Mm → Prop} (h : CSt I0 I l T G 0 p M) (h3 : M 3 = 0) (hb : 0 ≤ b ∧ b ≤ l) (hQ : ∀ I' : Mm, COut I0 I' l T (G + 10200) p (afS (byt T l) b p M) → Q I') : V_Re_readAfter b I Q := by
  have hl := h.2.2.1.2.1
  have hp := h.2.2.2.2.1.2
  have hW := h.2.1
  unfold afS at hQ
  unfold V_Re_readAfter
  refine c_name h (fun _ e1 I1 g1 => ?_) (fun e1 I1 p1 g1 => ?_)
  · have ok := na_ok hW hp hl.2 e1
    have n1 := na_le (T := T) hp hl.2
    have s1 := (sk_is (T := T) (show 0 ≤ naP (byt T l) p ∧ naP (byt T l) p ≤ l by omega) hl.2).1
    have e5 : naM (byt T l) M p 5 = M 5 := ok.2.2.2.1 5 (by omega) (by omega)
    have e3 : naM (byt T l) M p 3 = M 3 := ok.2.2.2.1 3 (by omega) (by omega)
    rw [if_neg (fun z => z e1)] at hQ
    refine c_expect (by omega) g1 (fun _ w1 I2 g2 => ?_) (fun _ w1 I2 g2 => ?_) (fun z => absurd rfl z)
    · have wl := isW_le (by omega) (show 0 ≤ skR (byt T l) (naP (byt T l) p) ∧ skR (byt T l) (naP (byt T l) p) ≤ l by omega) w1
      have sn := slen_nn 7
      rw [if_neg (fun z => z (wok_1.2 w1))] at hQ
      have lo : p ≤ skR (byt T l) (naP (byt T l) p) + slenI 7 := by omega
      generalize skR (byt T l) (naP (byt T l) p) + slenI 7 = p2 at *
      refine c_num g2 (by omega) (by omega) (fun _ e2 v2 I3 g3 => ?_) (fun e2 I3 g3 => ?_)
      · have n2 := nu_le (T := T) (show 0 ≤ p2 ∧ p2 ≤ l by omega) hl.2
        have n3 := na_le (T := T) (show 0 ≤ nuP (byt T l) p2 ∧ nuP (byt T l) p2 ≤ l by omega) hl.2
        rw [if_neg (fun z => z e2)] at hQ
        refine c_name g3 (fun _ e4 I4 g4 => ?_) (fun e4 I4 p4 g4 => ?_)
        · have ok2 := na_ok ok.2.1 (show 0 ≤ nuP (byt T l) p2 ∧ nuP (byt T l) p2 ≤ l by omega) hl.2 e4
          have f5 : naM (byt T l) (naM (byt T l) M p) (nuP (byt T l) p2) 5 = M 5 := by rw [ok2.2.2.2.1 5 (by omega) (by omega)]; exact e5
          have f3 : naM (byt T l) (naM (byt T l) M p) (nuP (byt T l) p2) 3 = M 3 := by rw [ok2.2.2.2.1 3 (by omega) (by omega)]; exact e3
          have b5 := hW.1.2.2.2.2.2.1
          have n5 : I4 (17 + 9) 0 = M 5 := by rw [← f5]; exact g4.1.2.2.1.1
          rw [if_neg (fun z => z e4)] at hQ
          rw [n5]
          refine ⟨fun w => ?_, fun w => ?_⟩
          · rw [if_pos w] at hQ
            unfold J_Re_readAfter_46
            rw [g4.2.2.2.1.1]
            refine ⟨fun z => absurd rfl z, fun _ => s_ruAdd g4.1.2.2.1 (by omega) (fun I5 T5 F5 => ?_)⟩
            obtain ⟨R5, FF5⟩ := rep_ru g4.1 (wf_b g4.2.1) T5 F5 (fun j hj => by unfold addR; rw [if_neg (by omega), if_neg (by omega), if_neg (by omega), if_neg (by omega)])
            have o1 := ok.2.2.1
            have o2 := ok2.2.2.1
            have o4 := ok2.2.2.2.2
            refine hQ _ ⟨fun _ => ⟨c_cal g4 R5 FF5 (wf_mono (wf_add g4.2.1 (by omega) (by omega) o2 v2) (by omega)), ?_, by dsimp only; omega⟩, fun z => absurd rfl z⟩
            show addR _ _ _ _ 3 = 0
            unfold addR
            rw [if_neg (by omega), if_neg (by omega), if_neg (by omega), if_neg (by omega), f3]
            exact h3
          · rw [if_neg (by omega)] at hQ
            refine c_fail g4 (by omega) (by omega) (fun I5 g5 => ?_)
            rw [if_pos rfl] at g5
            unfold J_Re_readAfter_46
            rw [g5.2.2.2.1.1]
            exact ⟨fun _ => hQ _ (out_bad g5 (by omega) (by omega)), fun z => by omega⟩
        · rw [if_pos rfl] at e4 g4
          rw [if_pos e4] at hQ
          exact cb_rule g4 e4 hb (fun I' p' g' => hQ _ (out_bad g' (by omega) e4))
      · rw [if_pos rfl] at e2 g3
        rw [if_pos e2] at hQ
        refine c_name g3 (fun z => absurd z e2) (fun _ I4 p4 g4 => ?_)
        rw [if_neg e2] at g4
        exact cb_rule g4 e2 hb (fun I' p' g' => hQ _ (out_bad g' (by omega) e2))
    · rw [if_pos (fun z => w1 (wok_1.1 z))] at hQ
      have ne : 8 * skR (byt T l) (naP (byt T l) p) + 1 ≠ 0 := by omega
      refine c_num g2 (by omega) (by omega) (fun z => absurd z ne) (fun _ I3 g3 => ?_)
      rw [if_neg ne] at g3
      refine c_name g3 (fun z => absurd z ne) (fun _ I4 p4 g4 => ?_)
      rw [if_neg ne] at g4
      exact cb_rule g4 ne hb (fun I' p' g' => hQ _ (out_bad g' (by omega) ne))
  · rw [if_pos rfl] at e1 g1
    rw [if_pos e1] at hQ
    refine c_expect (by omega) g1 (fun z => absurd z e1) (fun z => absurd z e1) (fun _ I2 p2 g2 => c_num g2 (by omega) (by omega) (fun z => absurd z e1) (fun _ I3 g3 => ?_))
    rw [if_neg e1] at g3
    refine c_name g3 (fun z => absurd z e1) (fun _ I4 p4 g4 => ?_)
    rw [if_neg e1] at g4
    exact cb_rule g4 e1 hb (fun I' p' g' => hQ _ (out_bad g' (by omega) e1))
theorem c_readRows {I0 I : Mm} {l : Int} {T : Int → Int} {G p : Int} {M : Rw} {Q : Mm → Prop} (h : CSt I0 I l T G 0 p M) (h3 : M 3 = 0) (hG : G ≤ 2140000000) (hQ : ∀ I' : Mm, COut I0 I' l T (G + 10200) p (roS (byt T l) p M) → Q I') : V_Re_readRows I Q := by
  have hl := h.2.2.1.2.1
  have hp := h.2.2.2.2.1.2
  have hW := h.2.1
  have b0 := hW.1.1
  have b2 := hW.1.2.2.1
  have n1 := nu_le (T := T) hp hl.2
  unfold roS at hQ
  unfold V_Re_readRows
  refine c_skip h (fun I1 g1 => ?_)
  have s1 := (sk_is (T := T) hp hl.2).1
  have ss := sk_sk (T := T) hp hl.2
  have t1 : ∀ lo hi : Int, nuE (byt T l) (skR (byt T l) p) lo hi = nuE (byt T l) p lo hi := fun lo hi => by unfold nuE; rw [ss]
  have t2 : nuV (byt T l) (skR (byt T l) p) = nuV (byt T l) p := by unfold nuV; rw [ss]
  have t3 : nuP (byt T l) (skR (byt T l) p) = nuP (byt T l) p := by unfold nuP; rw [ss]
  rw [g1.2.2.2.2.1.1]
  refine c_num g1 (by omega) (by omega) (fun _ e1 v1 I2 g2 => ?_) (fun e1 I2 g2 => ?_)
  · rw [t1] at e1
    rw [t2] at v1 ⊢
    rw [t3] at g2
    rw [if_neg (fun z => z e1)] at hQ
    have n15 : I2 17 5 = M 1 := g2.1.2.2.2.2.2.1
    have n16 : I2 17 6 = M 2 := g2.1.2.2.2.2.2.2.1
    refine x_rows (fun w => ⟨fun _ => ?_, fun z => absurd z (by decide)⟩) (fun w => ⟨fun z => absurd rfl z, fun _ => c_fail g2 (by omega) (by omega) (fun I3 g3 => ?_)⟩)
    · rw [if_pos w] at hQ
      unfold J_Re_readRows_30
      rw [g2.2.2.2.1.1, n15, n16]
      refine ⟨fun z => absurd rfl z, fun _ => ⟨fun z => ?_, fun z => ?_⟩⟩
      · rw [if_pos z] at hQ
        exact hQ _ ⟨fun _ => ⟨c_mono g2 (by omega), h3, n1.1⟩, fun z => absurd rfl z⟩
      · rw [if_neg z] at hQ
        have hm := hW.1.2.2.2.2.2.2.2.2 9 (by omega) (by omega)
        have hm2 := g2.2.1.1.2.2.2.2.2.2.2.2 9 (by omega) (by omega)
        refine s_caLay g2.1 (wf_b hW) (by omega) (fun I3 R3 F3 => hQ _ ⟨fun _ => ⟨c_cal g2 R3 F3 (wf_mono (wf_lay hW w b2) (by omega)), ?_, n1.1⟩, fun z => absurd rfl z⟩)
        show layR M (nuV (byt T l) p) (M 2) 3 = 0
        unfold layR
        rw [if_neg (by omega), if_neg (by omega), if_neg (by omega)]
        exact h3
    · rw [if_neg w] at hQ
      rw [if_pos rfl] at g3
      unfold J_Re_readRows_30
      rw [g3.2.2.2.1.1]
      exact ⟨fun _ => hQ _ (out_bad g3 (by omega) (by omega)), fun z => by omega⟩
  · rw [if_pos rfl, t1] at e1 g2
    rw [if_pos e1] at hQ
    refine x_rows (fun w => ⟨fun _ => ?_, fun z => absurd z (by decide)⟩) (fun w => absurd (.inl rfl) w)
    unfold J_Re_readRows_30
    rw [g2.2.2.2.1.1]
    exact ⟨fun _ => hQ _ (out_bad g2 (by omega) e1), fun z => absurd z e1⟩
theorem c_readWide {I0 I : Mm} {l : Int} {T : Int → Int} {G p : Int} {M : Rw} {Q : Mm → Prop} (h : CSt I0 I l T G 0 p M) (h3 : M 3 = 0) (hG : G ≤ 2140000000) (hQ : ∀ I' : Mm, COut I0 I' l T (G + 10200) p (wiS (byt T l) p M) → Q I') : V_Re_readWide I Q := by
  have hl := h.2.2.1.2.1
  have hp := h.2.2.2.2.1.2
  have hW := h.2.1
  have b0 := hW.1.1
  have b1 := hW.1.2.1
  have n1 := nu_le (T := T) hp hl.2
  unfold wiS at hQ
  unfold V_Re_readWide
  refine c_num h (by omega) (by omega) (fun _ e1 v1 I2 g2 => ?_) (fun e1 I2 g2 => ?_)
  · rw [if_neg (fun z => z e1)] at hQ
    have n15 : I2 17 5 = M 1 := g2.1.2.2.2.2.2.1
    have n16 : I2 17 6 = M 2 := g2.1.2.2.2.2.2.2.1
    rw [g2.2.2.2.1.1, n15, n16]
    refine ⟨fun z => absurd rfl z, fun _ => ⟨fun z => ?_, fun z => ?_⟩⟩
    · rw [if_pos z] at hQ
      exact hQ _ ⟨fun _ => ⟨c_mono g2 (by omega), h3, n1.1⟩, fun z => absurd rfl z⟩
    · rw [if_neg z] at hQ
      have hm := hW.1.2.2.2.2.2.2.2.2 9 (by omega) (by omega)
      refine s_caLay g2.1 (wf_b hW) (by omega) (fun I3 R3 F3 => hQ _ ⟨fun _ => ⟨c_cal g2 R3 F3 (wf_mono (wf_lay hW b1 v1) (by omega)), ?_, n1.1⟩, fun z => absurd rfl z⟩)
      show layR M (M 1) (nuV (byt T l) p) 3 = 0
      unfold layR
      rw [if_neg (by omega), if_neg (by omega), if_neg (by omega)]
      exact h3
  · rw [if_pos rfl] at e1 g2
    rw [if_pos e1] at hQ
    rw [g2.2.2.2.1.1]
    exact ⟨fun _ => hQ _ (out_bad g2 (by omega) e1), fun z => absurd z e1⟩
theorem out_le {I0 I : Mm} {l : Int} {T : Int → Int} {G p p' : Int} {r : Int × Int × Rw} (h : COut I0 I l T G p r) (hp : p' ≤ p) : COut I0 I l T G p' r := ⟨fun z => by have := h.1 z; exact ⟨this.1, this.2.1, by omega⟩, h.2⟩
theorem c_readStatement {I0 I : Mm} {l : Int} {T : Int → Int} {G p : Int} {M : Rw} {Q : Mm → Prop} (h : CSt I0 I l T G 0 p M) (h3 : M 3 = 0) (hG : G ≤ 2140000000) (hQ : ∀ I' : Mm, COut I0 I' l T (G + 10200) p (stS (byt T l) p M) → Q I') : V_Re_readStatement I Q := by
  have hl := h.2.2.1.2.1
  have hp := h.2.2.2.2.1.2
  unfold stS at hQ
  unfold V_Re_readStatement
  refine c_skip h (fun I1 g1 => ?_)
  have s1 := (sk_is (T := T) hp hl.2).1
  rw [g1.2.2.2.2.1.1]
  generalize skR (byt T l) p = q at *
  refine c_passes g1 (sx_ok2 (w := 0) (by omega)).1 (sx_ok2 (w := 0) (by omega)).2 (fun w I2 g2 => ⟨fun z => absurd z (by decide), fun _ => ?_⟩) (fun w => ⟨fun _ => ?_, fun z => absurd rfl z⟩)
  · rw [if_pos (wok_1.2 w)] at hQ
    have := slen_nn 0
    exact c_readRows g2 h3 hG (fun I' g' => hQ _ (out_le g' (by omega)))
  rw [if_neg (fun z => w (wok_1.1 z))] at hQ
  clear w
  refine c_passes g1 (sx_ok2 (w := 1) (by omega)).1 (sx_ok2 (w := 1) (by omega)).2 (fun w I2 g2 => ⟨fun z => absurd z (by decide), fun _ => ?_⟩) (fun w => ⟨fun _ => ?_, fun z => absurd rfl z⟩)
  · rw [if_pos (wok_1.2 w)] at hQ
    have := slen_nn 1
    exact c_readWide g2 h3 hG (fun I' g' => hQ _ (out_le g' (by omega)))
  rw [if_neg (fun z => w (wok_1.1 z))] at hQ
  clear w
  refine c_passes g1 (sx_ok2 (w := 2) (by omega)).1 (sx_ok2 (w := 2) (by omega)).2 (fun w I2 g2 => ⟨fun z => absurd z (by decide), fun _ => ?_⟩) (fun w => ⟨fun _ => ?_, fun z => absurd rfl z⟩)
  · rw [if_pos (wok_1.2 w)] at hQ
    have := slen_nn 2
    exact c_readAt g2 h3 hG (by omega) (fun I' g' => hQ _ (out_le g' (by omega)))
  rw [if_neg (fun z => w (wok_1.1 z))] at hQ
  clear w
  refine c_passes g1 (sx_ok2 (w := 3) (by omega)).1 (sx_ok2 (w := 3) (by omega)).2 (fun w I2 g2 => ⟨fun z => absurd z (by decide), fun _ => ?_⟩) (fun w => ⟨fun _ => ?_, fun z => absurd rfl z⟩)
  · rw [if_pos (wok_1.2 w)] at hQ
    have := slen_nn 3
    exact c_readEvery g2 h3 hG (by omega) (fun I' g' => hQ _ (out_le g' (by omega)))
  rw [if_neg (fun z => w (wok_1.1 z))] at hQ
  clear w
  refine c_passes g1 (sx_ok2 (w := 6) (by omega)).1 (sx_ok2 (w := 6) (by omega)).2 (fun w I2 g2 => ⟨fun z => absurd z (by decide), fun _ => ?_⟩) (fun w => ⟨fun _ => ?_, fun z => absurd rfl z⟩)
  · rw [if_pos (wok_1.2 w)] at hQ
    have := slen_nn 6
    exact c_readAfter g2 h3 (by omega) (fun I' g' => hQ _ (out_le g' (by omega)))
  rw [if_neg (fun z => w (wok_1.1 z))] at hQ
  refine c_fail g1 (by omega) (by omega) (fun I2 g2 => ?_)
  rw [if_pos rfl] at g2
  exact hQ _ (out_bad g2 (by omega) (by omega))
/-- all statements -/
noncomputable def allS (B : Rw) : Nat → Int → Rw → Int × Int × Rw
  | 0, p, M => (1, p, M)
  | n + 1, p, M =>
    if (stS B p M).1 ≠ 0 then (stS B p M)
    else if B (skR B (stS B p M).2.1) = 59 then allS B n (skR B (stS B p M).2.1 + 1) (stS B p M).2.2
    else if B (skR B (stS B p M).2.1) = -1 then (0, skR B (stS B p M).2.1, (stS B p M).2.2)
    else (8 * skR B (stS B p M).2.1 + 1, p, M)
theorem c_all {I0 : Mm} {l : Int} {T : Int → Int} {Q : Int → Mm → Prop} (n : Nat) : ∀ (x1 G p : Int) (I : Mm) (M : Rw), CSt I0 I l T G 0 p M → M 3 = 0 → 0 ≤ x1 → x1 ≤ p → l - p + 1 ≤ (n : Int) → G + 10200 * (n : Int) ≤ 2140000000 → (∀ I' : Mm, ((allS (byt T l) n p M).1 = 0 → CSt I0 I' l T (G + 10200 * (n : Int)) 0 (allS (byt T l) n p M).2.1 (allS (byt T l) n p M).2.2) → ((allS (byt T l) n p M).1 ≠ 0 → ∃ (p' : Int) (M' : Rw), CSt I0 I' l T (G + 10200 * (n : Int)) (allS (byt T l) n p M).1 p' M') → Q (allS (byt T l) n p M).1 I') → L_Re_readAll_19 Q n x1 I := by
  induction n with
  | zero =>
    intro x1 G p I M h h3 hx0 hx hn hG hQ
    have hp := h.2.2.2.2.1.2
    omega
  | succ n ih =>
    intro x1 G p I M h h3 hx0 hx hn hG hQ
    have hl := h.2.2.1.2.1
    have hp := h.2.2.2.2.1.2
    unfold L_Re_readAll_19
    refine ⟨fun w => by omega, fun _ => c_readStatement h h3 (by omega) (fun I1 g1 => ?_)⟩
    have ea : allS (byt T l) (n + 1) p M = if (stS (byt T l) p M).1 ≠ 0 then (stS (byt T l) p M) else if (byt T l) (skR (byt T l) (stS (byt T l) p M).2.1) = 59 then allS (byt T l) n (skR (byt T l) (stS (byt T l) p M).2.1 + 1) (stS (byt T l) p M).2.2 else if (byt T l) (skR (byt T l) (stS (byt T l) p M).2.1) = -1 then (0, skR (byt T l) (stS (byt T l) p M).2.1, (stS (byt T l) p M).2.2) else (8 * skR (byt T l) (stS (byt T l) p M).2.1 + 1, p, M) := rfl
    rw [ea] at hQ
    generalize stS (byt T l) p M = r at *
    by_cases e : r.1 = 0
    · obtain ⟨g2, r3, rp⟩ := g1.1 e
      rw [if_neg (fun z => z e)] at hQ
      refine c_skip g2 (fun I2 g3 => ?_)
      have hp2 := g2.2.2.2.2.1.2
      have s1 := (sk_is (T := T) hp2 hl.2).1
      generalize skR (byt T l) r.2.1 = q at *
      rw [g3.2.2.2.1.1, g3.2.2.2.2.1.1, g3.2.2.1.1]
      refine ⟨fun z => absurd rfl z, fun _ => ⟨fun w => s_taAt g3.2.2.1 ⟨fun w2 => ?_, fun w2 => ?_⟩, fun w => ?_⟩⟩
      · rw [if_pos w2] at hQ
        rw [g3.2.2.2.2.1.1]
        refine ⟨by omega, by omega, ih (x1 + 1) (G + 10200) (q + 1) _ _ (c_at g3 (by omega)) r3 (by omega) (by omega) (by omega) (by omega) (fun I' a b => hQ I' (fun z => c_mono (a z) (by omega)) (fun z => ?_))⟩
        obtain ⟨p', M', g'⟩ := b z
        exact ⟨p', M', c_mono g' (by omega)⟩
      · have hne : byt T l q ≠ -1 := fun z => by
          have := by_rng (T q)
          unfold byt at z
          rw [if_pos (by omega)] at z
          omega
        rw [if_neg w2, if_neg hne] at hQ
        rw [g3.2.2.2.2.1.1]
        refine c_fail g3 (by omega) (by omega) (fun I3 g4 => ?_)
        rw [if_pos rfl] at g4
        rw [g4.2.2.2.1.1]
        exact hQ _ (fun z => by dsimp only at z; omega) (fun _ => ⟨_, _, c_mono g4 (by omega)⟩)
      · have hb : byt T l q = -1 := byt_out w
        rw [hb, if_neg (by decide), if_pos rfl] at hQ
        exact hQ _ (fun _ => c_mono g3 (by omega)) (fun z => absurd rfl z)
    · obtain ⟨p', M', g2⟩ := g1.2 e
      rw [if_pos e] at hQ
      refine c_skip g2 (fun I2 g3 => ?_)
      rw [g3.2.2.2.1.1]
      exact ⟨fun _ => hQ _ (fun z => absurd z e) (fun _ => ⟨_, _, c_mono g3 (by omega)⟩), fun z => absurd z e⟩
