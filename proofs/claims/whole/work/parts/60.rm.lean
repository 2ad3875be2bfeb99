/-! tell: the reference's reader -/
def MFr (I0 I : Mm) : Prop := (∀ a : Int, a ≠ 236 → a ≠ 237 → I a = I0 a) ∧ ∀ j : Int, ¬ (17 ≤ j ∧ j ≤ 21) → I 236 j = I0 236 j
def MSt (I0 I : Mm) (l : Int) (T : Int → Int) (G p : Int) (M : Rw) : Prop := I 237 = M ∧ WF G M ∧ TpM I l T ∧ (I 236 17 = p ∧ 0 ≤ p ∧ p ≤ l) ∧ MFr I0 I
def MBd (I0 I : Mm) (e : Int) : Prop := I 236 18 = e ∧ MFr I0 I
theorem mfr_w {I0 I : Mm} {j v : Int} (h : MFr I0 I) (hj : 17 ≤ j ∧ j ≤ 21) : MFr I0 (wrM I 236 j v) := ⟨fun a x y => by rw [wr_oth _ x]; exact h.1 a x y, fun k x => by rw [wr_n (by omega)]; exact h.2 k x⟩
theorem mfr_r {I0 I : Mm} {M : Rw} (h : MFr I0 I) : MFr I0 (rset I M) := ⟨fun a x y => by rw [rs_ne _ _ y]; exact h.1 a x y, fun k x => by rw [rs_236]; exact h.2 k x⟩
theorem m_at {I0 I : Mm} {l : Int} {T : Int → Int} {G p p' : Int} {M : Rw} (h : MSt I0 I l T G p M) (hp : 0 ≤ p' ∧ p' ≤ l) : MSt I0 (wrM I 236 17 p') l T G p' M := by
  obtain ⟨h1, h2, ⟨t1, t2, t3⟩, h4, h5⟩ := h
  exact ⟨by rw [wr_oth _ (by decide)]; exact h1, h2, ⟨by rw [wr_n (by omega)]; exact t1, t2, by rw [wr_oth _ (by decide)]; exact t3⟩, ⟨wr_s _ _ _ _, hp⟩, mfr_w h5 (by omega)⟩
theorem m_nr {I0 I : Mm} {l : Int} {T : Int → Int} {G p j v : Int} {M : Rw} (h : MSt I0 I l T G p M) (hj : 18 ≤ j ∧ j ≤ 21) : MSt I0 (wrM I 236 j v) l T G p M := by
  obtain ⟨h1, h2, ⟨t1, t2, t3⟩, h4, h5⟩ := h
  exact ⟨by rw [wr_oth _ (by decide)]; exact h1, h2, ⟨by rw [wr_n (by omega)]; exact t1, t2, by rw [wr_oth _ (by decide)]; exact t3⟩, ⟨by rw [wr_n (by omega)]; exact h4.1, h4.2⟩, mfr_w h5 (by omega)⟩
theorem m_row {I0 I : Mm} {l : Int} {T : Int → Int} {G G' p : Int} {M M' : Rw} (h : MSt I0 I l T G p M) (hW : WF G' M') : MSt I0 (rset I M') l T G' p M' := by
  obtain ⟨h1, h2, h3, h4, h5⟩ := h
  exact ⟨rs_237 _ _, hW, tpm_rs h3, by rw [rs_236]; exact h4, mfr_r h5⟩
theorem m_fails {I0 I : Mm} {k x : Int} {Q : Int → Mm → Prop} (h : MFr I0 I) (hx : 0 ≤ x ∧ x ≤ 406) (hk : 1 ≤ k ∧ k ≤ 4) (hQ : ∀ I' : Mm, MBd I0 I' (8 * x + k) → Q 0 I') : V_M_fails k x I Q := by
  unfold V_M_fails
  exact ⟨by omega, hQ _ ⟨wr_s _ _ _ _, mfr_w h (by omega)⟩⟩
theorem m_next {I0 I : Mm} {l : Int} {T : Int → Int} {G p : Int} {M : Rw} {Q : Int → Mm → Prop} (h : MSt I0 I l T G p M) (hQ : ∀ I' : Mm, MSt I0 I' l T G (skR (byt T l) p) M → Q (byt T l (skR (byt T l) p)) I') : V_M_nextByte I Q := by
  have hl := h.2.2.1.2.1
  have hp := h.2.2.2.1.2
  obtain ⟨r1, r2, r3⟩ := run_is (T := T) (c := isB) (by decide) hp hl.2
  have r3' := of_decide_eq_false r3
  unfold V_M_nextByte
  refine lpr (P := fun f i I1 => L_M_nextByte_0 Q f I1) (S := fun i I1 => MSt I0 I1 l T G (p + (i : Int)) M) (runD isB (byt T l) p) (by rw [show p + ((0 : Nat) : Int) = p by omega]; exact h) ?_ ?_
  · intro n I1 hS
    unfold L_M_nextByte_0
    rw [hS.2.2.2.1.1]
    refine m_byteAt hS.2.2.1 (by omega) ⟨fun _ => ?_, fun q => absurd q r3'⟩
    rw [hS.2.2.2.1.1]
    exact m_byteAt hS.2.2.1 (by omega) (hQ _ hS)
  · intro i n I1 hi hS ih
    have hb := of_decide_eq_true (r2 (i : Int) (by omega) (by omega))
    unfold L_M_nextByte_0
    rw [hS.2.2.2.1.1]
    refine m_byteAt hS.2.2.1 (by omega) ⟨fun q => absurd hb q, fun _ => ?_⟩
    rw [hS.2.2.2.1.1]
    refine ⟨by omega, ih _ ?_⟩
    have := m_at hS (p' := p + (i : Int) + 1) (by omega)
    rw [show p + ((i + 1 : Nat) : Int) = p + (i : Int) + 1 by omega]
    exact this
theorem m_word {I0 I : Mm} {l : Int} {T : Int → Int} {G p : Int} {M : Rw} {w : Nat} {Q : Int → Mm → Prop} (hw : w < 8) (h : MSt I0 I l T G p M) (h1 : isW (byt T l) (skR (byt T l) p) w → ∀ I' : Mm, MSt I0 I' l T G (skR (byt T l) p + slenI w) M → Q 1 I') (h0 : ¬ isW (byt T l) (skR (byt T l) p) w → ∀ I' : Mm, MSt I0 I' l T G (skR (byt T l) p) M → Q 0 I') : V_M_takesWord w I Q := by
  have hl := h.2.2.1.2.1
  have hp := h.2.2.2.1.2
  have s1 := (sk_is (T := T) hp hl.2).1
  have hn := slen_nn w
  have hx := sx_ok2 hw
  unfold V_M_takesWord
  refine m_next h (fun I1 g1 => ?_)
  generalize skR (byt T l) p = q at *
  have j : J_M_takesWord_19 w Q q I1 := by
    unfold J_M_takesWord_19
    refine lp_first (P := fun f i => L_M_takesWord_22 w q Q _ f (i : Int) I1) (fun k => decide (¬ byt T l (q + k) = sch w k)) (slenI w).toNat (fun hall f => ?_) (fun i f hi hi2 hb => ?_) (fun i f hi hb ih => ?_)
    · have hall' : ∀ k : Int, 0 ≤ k → k < slenI w → byt T l (q + k) = sch w k := fun k a b => Classical.not_not.1 (of_decide_eq_false (hall k a (by omega)))
      have e : (((slenI w).toNat : Nat) : Int) = slenI w := by omega
      unfold L_M_takesWord_22
      rw [e]
      refine ⟨fun _ => ⟨fun z => absurd rfl z, fun _ => ⟨by omega, m_byteAt g1.2.2.1 (by omega) (m_in (fun c d => ⟨fun _ => h0 (fun z => ?_) I1 g1, fun z => absurd z (by decide)⟩) (fun c => ⟨fun z => absurd rfl z, fun _ => ?_⟩))⟩⟩, fun z => absurd z (Int.lt_irrefl _)⟩
      · exact (of_decide_eq_false z.2) ⟨c, d⟩
      · have hW : isW (byt T l) q w := ⟨hall', decide_eq_false c⟩
        have := isW_le hw (by omega) hW
        rw [g1.2.2.2.1.1]
        exact ⟨by omega, h1 hW _ (m_at g1 (by omega))⟩
    · have hb' := of_decide_eq_true hb
      unfold L_M_takesWord_22
      refine ⟨fun z => by omega, fun z => ⟨by omega, m_byteAt g1.2.2.1 (by omega) ⟨by omega, fun _ => ⟨fun _ => h0 (fun y => hb' (y.1 (i : Int) (by omega) z)) I1 g1, fun y => by omega⟩, fun y => absurd y hb'⟩⟩⟩
    · have hb' := Classical.not_not.1 (of_decide_eq_false hb)
      unfold L_M_takesWord_22
      exact ⟨fun z => by omega, fun z => ⟨by omega, m_byteAt g1.2.2.1 (by omega) ⟨by omega, fun y => absurd hb' y, fun _ => ⟨by omega, ih⟩⟩⟩⟩
  refine ⟨fun _ => by rw [g1.2.2.2.1.1]; exact j, fun z => ?_⟩
  rw [g1.2.2.1.1]
  have e : l = q := by
    have := by_rng (T q)
    unfold byt at z
    split at z
    · omega
    · omega
  rw [e]
  exact j
theorem m_must {I0 I : Mm} {l : Int} {T : Int → Int} {G p : Int} {M : Rw} {w : Nat} {Q : Int → Mm → Prop} (hw : w < 8) (h : MSt I0 I l T G p M) (h1 : isW (byt T l) (skR (byt T l) p) w → ∀ I' : Mm, MSt I0 I' l T G (skR (byt T l) p + slenI w) M → Q 1 I') (h0 : ¬ isW (byt T l) (skR (byt T l) p) w → ∀ I' : Mm, MBd I0 I' (8 * skR (byt T l) p + 1) → Q 0 I') : V_M_mustWord w I Q := by
  have hl := h.2.2.1.2.1
  have hp := h.2.2.2.1.2
  have s1 := (sk_is (T := T) hp hl.2).1
  unfold V_M_mustWord
  refine m_word hw h (fun a I1 g1 => ⟨fun _ => h1 a I1 g1, fun z => absurd z (by decide)⟩) (fun a I1 g1 => ⟨fun z => absurd rfl z, fun _ => ?_⟩)
  rw [g1.2.2.2.1.1]
  exact m_fails g1.2.2.2.2 (by omega) (by omega) (fun I2 g2 => ⟨fun _ => h0 a I2 g2, fun z => absurd rfl z⟩)
theorem m_numLoop {I0 I1 : Mm} {l : Int} {T : Int → Int} {G q lo hi : Int} {M : Rw} {Q : Int → Mm → Prop} {K : Int → Mm → Prop} (h1 : MSt I0 I1 l T G q M) (h20 : I1 236 20 = q) (fin : ∀ I2 : Mm, MSt I0 I2 l T G (q + (runD isD (byt T l) q : Nat)) M → I2 236 20 = q → K (vM (byt T l) q (runD isD (byt T l) q)) I2) : ∃ f : Nat, L_M_readsNumber_37 lo hi Q K f 0 I1 := by
  have hl := h1.2.2.1.2.1
  have hq := h1.2.2.2.1.2
  obtain ⟨r1, r2, r3⟩ := run_is (T := T) (c := isD) (by decide) hq hl.2
  have r3' := of_decide_eq_false r3
  have g : ∃ f, L_M_readsNumber_37 lo hi Q K f (vM (byt T l) q 0) I1 := by
    refine lps (σ := Mm) (P := fun f i I2 => L_M_readsNumber_37 lo hi Q K f (vM (byt T l) q i) I2) (S := fun i I2 => MSt I0 I2 l T G (q + (i : Int)) M ∧ I2 236 20 = q) (s := I1) (runD isD (byt T l) q) ⟨by rw [show q + ((0 : Nat) : Int) = q by omega]; exact h1, h20⟩ ?_ ?_
    · rintro n I2 ⟨hS, h2⟩
      unfold L_M_readsNumber_37
      rw [hS.2.2.2.1.1]
      exact m_byteAt hS.2.2.1 (by omega) (m_in (fun a b => absurd ⟨a, b⟩ r3') (fun _ => ⟨fun _ => fin I2 hS h2, fun w => absurd rfl w⟩))
    · rintro i n I2 hi2 ⟨hS, h2⟩ ih
      have hb2 := of_decide_eq_true (r2 (i : Int) (by omega) (by omega))
      have hv2 := v_is (B := byt T l) (q := q) i (fun k a b => r2 k a (by omega))
      have ih2 : L_M_readsNumber_37 lo hi Q K n (vM (byt T l) q (i + 1)) (wrM I2 236 17 (q + (i : Int) + 1)) := ih _ ⟨by rw [show q + ((i + 1 : Nat) : Int) = q + (i : Int) + 1 by omega]; exact m_at hS (by omega), by rw [wr_n (by omega)]; exact h2⟩
      unfold L_M_readsNumber_37
      rw [hS.2.2.2.1.1]
      refine m_byteAt hS.2.2.1 (by omega) (m_in (fun _ _ => ⟨fun w => absurd w (by decide), fun _ => ⟨by omega, fun w => ?_, fun w => ?_⟩⟩) (fun w => absurd hb2 w))
      · rw [hS.2.2.2.1.1]
        have e : vM (byt T l) q (i + 1) = vM (byt T l) q i := by show (if vM (byt T l) q i < 10000000000 then _ else _) = _; rw [if_neg (by omega)]
        rw [e] at ih2
        exact ⟨by omega, ih2⟩
      · rw [hS.2.2.2.1.1]
        refine m_byteAt hS.2.2.1 (by omega) ?_
        rw [hS.2.2.2.1.1]
        have e : vM (byt T l) q (i + 1) = 10 * vM (byt T l) q i + byt T l (q + (i : Int)) - 48 := by show (if vM (byt T l) q i < 10000000000 then _ else _) = _; rw [if_pos w]
        rw [e] at ih2
        exact ⟨by omega, ih2⟩
  exact g
theorem m_num {I0 I : Mm} {l : Int} {T : Int → Int} {G p lo hi : Int} {M : Rw} {Q : Int → Mm → Prop} (h : MSt I0 I l T G p M) (hlo : 0 ≤ lo) (hhi : hi ≤ 999999999) (hg : nuE (byt T l) p lo hi = 0 → (lo ≤ nuV (byt T l) p ∧ nuV (byt T l) p ≤ hi) → ∀ I' : Mm, MSt I0 I' l T G (nuP (byt T l) p) M → I' 236 19 = nuV (byt T l) p → I' 236 20 = skR (byt T l) p → Q 1 I') (hb : nuE (byt T l) p lo hi ≠ 0 → ∀ I' : Mm, MBd I0 I' (nuE (byt T l) p lo hi) → Q 0 I') : V_M_readsNumber lo hi I Q := by
  have hl := h.2.2.1.2.1
  have hp := h.2.2.2.1.2
  unfold V_M_readsNumber
  refine m_next h (fun I1 g1 => ?_)
  have hq := (sk_is (T := T) hp hl.2).1
  unfold nuE nuV nuP at hg
  unfold nuE at hb
  generalize skR (byt T l) p = q at *
  unfold dgD at hg hb
  obtain ⟨r1, r2, r3⟩ := run_is (T := T) (c := isD) (by decide) (show 0 ≤ q ∧ q ≤ l by omega) hl.2
  have hv := v_is (B := byt T l) (q := q) (runD isD (byt T l) q) r2
  refine m_in (fun a b => ⟨fun _ => ?_, fun w => absurd w (by decide)⟩) (fun w => ⟨fun z => absurd rfl z, fun _ => ?_⟩)
  · have hd : runD isD (byt T l) q ≠ 0 := fun z => by
      rw [z] at r3
      have := of_decide_eq_false r3
      rw [show q + ((0 : Nat) : Int) = q by omega] at this
      exact this ⟨a, b⟩
    rw [if_neg hd] at hg hb
    rw [g1.2.2.2.1.1]
    refine m_numLoop (m_nr g1 (by omega)) (wr_s _ _ _ _) (fun I2 g2 h20 => ?_)
    generalize runD isD (byt T l) q = d at *
    have key : ∀ t : Int, (vM (byt T l) q d ≤ 2000000000 → t = vM (byt T l) q d) → J_M_readsNumber_116 lo hi Q (vM (byt T l) q d) t I2 := fun t ht => by
      unfold J_M_readsNumber_116
      refine ⟨by omega, m_in (fun x y => ⟨fun _ => ?_, fun z => absurd z (by decide)⟩) (fun x => ⟨fun z => absurd rfl z, fun _ => ?_⟩)⟩
      · have e1 : ¬ (vC (byt T l) q d < lo ∨ hi < vC (byt T l) q d) := by omega
        rw [if_neg e1] at hg
        exact hg rfl (by omega) _ (m_nr g2 (by omega)) (by rw [wr_s]; have := ht (by omega); omega) (by rw [wr_n (by omega)]; exact h20)
      · have e1 : vC (byt T l) q d < lo ∨ hi < vC (byt T l) q d := by omega
        rw [if_pos e1] at hb
        rw [wr_n (by omega), h20]
        exact m_fails (mfr_w g2.2.2.2.2 (by omega)) (by omega) (by omega) (fun I3 g3 => ⟨fun _ => hb (by omega) I3 g3, fun z => absurd rfl z⟩)
    exact ⟨by omega, fun w => ⟨by omega, key _ (fun _ => rfl)⟩, fun w => key _ (fun z => by omega)⟩
  · have hd : runD isD (byt T l) q = 0 := run_0 (by decide) (by omega) hl.2 (decide_eq_false w)
    rw [if_pos hd] at hb
    rw [g1.2.2.2.1.1]
    exact m_fails g1.2.2.2.2 (by omega) (by omega) (fun I3 g3 => ⟨.inl rfl, hb (by omega) I3 g3⟩)
theorem m_name {I0 I : Mm} {l : Int} {T : Int → Int} {G p : Int} {M : Rw} {Q : Int → Mm → Prop} (h : MSt I0 I l T G p M) (hg : naE (byt T l) M p = 0 → ∀ I' : Mm, MSt I0 I' l T G (naP (byt T l) p) (naM (byt T l) M p) → I' 236 21 = naV (byt T l) M p → Q 1 I') (hb : naE (byt T l) M p ≠ 0 → ∀ I' : Mm, MBd I0 I' (naE (byt T l) M p) → Q 0 I') : V_M_readsName I Q := by
  have hl := h.2.2.1.2.1
  have hp := h.2.2.2.1.2
  have hW := h.2.1
  have b4 := hW.1.2.2.2.2.1
  have hok := fun w => na_ok (T := T) hW hp hl.2 w
  unfold V_M_readsName
  refine m_next h (fun I1 g1 => ?_)
  have hq := (sk_is (T := T) hp hl.2).1
  unfold naE at hg hb hok
  unfold naP naM naV at hg
  unfold naM naV at hok
  generalize skR (byt T l) p = q at *
  have lt := lt_ltr (T := T) (show 0 ≤ q ∧ q ≤ l by omega) hl.2
  obtain ⟨r1, r2, r3⟩ := run_is (T := T) (c := isAz) (by decide) (show 0 ≤ q ∧ q ≤ l by omega) hl.2
  have ed : runD isAz (byt T l) q = ltD (byt T l) q := rfl
  rw [ed] at r1 r2 r3
  have r3' := of_decide_eq_false r3
  refine m_in (fun a b => ⟨fun _ => ?_, fun w => absurd w (by decide)⟩) (fun w => ⟨fun z => absurd rfl z, fun _ => ?_⟩)
  · rw [g1.2.2.2.1.1]
    have hd : ltD (byt T l) q ≠ 0 := fun z => by
      rw [z, show q + ((0 : Nat) : Int) = q by omega] at r3'
      exact r3' ⟨a, b⟩
    rw [if_neg hd] at hg hb hok
    by_cases c2 : 6 < ltD (byt T l) q
    · rw [if_pos c2] at hb
      refine lpr (P := fun f i I2 => L_M_readsName_32 q Q _ f I2) (S := fun i I2 => MSt I0 I2 l T G (q + (i : Int)) M) 6 (by rw [show q + ((0 : Nat) : Int) = q by omega]; exact g1) ?_ ?_
      · intro n I2 hS
        have hlet := of_decide_eq_true (r2 6 (by omega) (by omega))
        unfold L_M_readsName_32
        rw [hS.2.2.2.1.1]
        refine m_byteAt hS.2.2.1 (by omega) (m_in (fun _ _ => ⟨fun w => absurd w (by decide), fun _ => ?_⟩) (fun w => absurd hlet w))
        rw [hS.2.2.2.1.1]
        exact ⟨by omega, fun w => by omega, fun _ => m_fails hS.2.2.2.2 (by omega) (by omega) (fun I3 g3 => ⟨.inl rfl, hb (by omega) I3 g3⟩)⟩
      · intro i n I2 hi hS ih
        have hlet := of_decide_eq_true (r2 (i : Int) (by omega) (by omega))
        unfold L_M_readsName_32
        rw [hS.2.2.2.1.1]
        refine m_byteAt hS.2.2.1 (by omega) (m_in (fun _ _ => ⟨fun w => absurd w (by decide), fun _ => ?_⟩) (fun w => absurd hlet w))
        rw [hS.2.2.2.1.1]
        refine ⟨by omega, fun _ => ⟨by omega, ih _ ?_⟩, fun w => by omega⟩
        have := m_at hS (p' := q + (i : Int) + 1) (by omega)
        rw [show q + ((i + 1 : Nat) : Int) = q + (i : Int) + 1 by omega]
        exact this
    · rw [if_neg c2] at hg hb hok
      refine lpr (P := fun f i I2 => L_M_readsName_32 q Q _ f I2) (S := fun i I2 => MSt I0 I2 l T G (q + (i : Int)) M) (ltD (byt T l) q) (by rw [show q + ((0 : Nat) : Int) = q by omega]; exact g1) ?_ ?_
      · intro n I2 hS
        unfold L_M_readsName_32
        rw [hS.2.2.2.1.1]
        refine m_byteAt hS.2.2.1 (by omega) (m_in (fun a b => absurd ⟨a, b⟩ r3') (fun _ => ⟨fun _ => ?_, fun w => absurd rfl w⟩))
        rw [hS.2.2.2.1.1, show q + (ltD (byt T l) q : Nat) - q = ((ltD (byt T l) q : Nat) : Int) by omega]
        refine ⟨by omega, m_nameAt hS.1 hS.2.2.1 hW (by omega) (by omega) lt (fun f1 => ?_) (fun f1 f2 => ?_) (fun f1 f2 => ?_)⟩
        · have hf := fwdR_is M (wrd (byt T l) q (ltD (byt T l) q))
          have e0 : (if fwdR M (wrd (byt T l) q (ltD (byt T l) q)) = -1 ∧ M 4 = 16 then 8 * q + 3 else 0) = 0 := if_neg (fun z => f1 z.1)
          have h5 := hg e0
          rw [if_neg f1, if_neg f1] at h5
          rw [wr_s]
          exact ⟨fun _ => h5 _ (m_nr hS (by omega)) (wr_s _ _ _ _), fun w => by omega⟩
        · rw [if_pos ⟨f1, f2⟩] at hb
          rw [wr_s]
          exact ⟨fun w => absurd w (by decide), fun _ => m_fails (mfr_w hS.2.2.2.2 (by omega)) (by omega) (by omega) (fun I3 g3 => ⟨fun _ => hb (by omega) I3 g3, fun z => absurd rfl z⟩)⟩
        · have e0 : (if fwdR M (wrd (byt T l) q (ltD (byt T l) q)) = -1 ∧ M 4 = 16 then 8 * q + 3 else 0) = 0 := if_neg (fun z => by omega)
          have h5 := hg e0
          have h6 := (hok e0).2.1
          rw [if_pos f1] at h6
          rw [if_pos f1, if_pos f1] at h5
          rw [wr_s]
          exact ⟨fun _ => h5 _ (m_nr (m_row hS h6) (by omega)) (wr_s _ _ _ _), fun w => by omega⟩
      · intro i n I2 hi hS ih
        have hlet := of_decide_eq_true (r2 (i : Int) (by omega) (by omega))
        unfold L_M_readsName_32
        rw [hS.2.2.2.1.1]
        refine m_byteAt hS.2.2.1 (by omega) (m_in (fun _ _ => ⟨fun w => absurd w (by decide), fun _ => ?_⟩) (fun w => absurd hlet w))
        rw [hS.2.2.2.1.1]
        refine ⟨by omega, fun _ => ⟨by omega, ih _ ?_⟩, fun w => by omega⟩
        have := m_at hS (p' := q + (i : Int) + 1) (by omega)
        rw [show q + ((i + 1 : Nat) : Int) = q + (i : Int) + 1 by omega]
        exact this
  · rw [g1.2.2.2.1.1]
    have hd : ltD (byt T l) q = 0 := run_0 (by decide) (by omega) hl.2 (decide_eq_false w)
    rw [if_pos hd] at hb
    exact m_fails g1.2.2.2.2 (by omega) (by omega) (fun I3 g3 => ⟨.inl rfl, hb (by omega) I3 g3⟩)
theorem m_brings2 {I0 I : Mm} {l : Int} {T : Int → Int} {G p b nm gap hour count : Int} {M : Rw} {Q : Int → Mm → Prop} (h : MSt I0 I l T G p M) (hb : 0 ≤ b ∧ b ≤ l) (h3 : 1 ≤ count ∧ count ≤ 50) (h2 : 0 ≤ hour ∧ hour ≤ 999999999) (h1 : 0 ≤ gap ∧ gap ≤ 999999) (hnm : 0 ≤ nm ∧ nm < M 4) (h03 : M 3 = 0) (hG : G ≤ 2147200000) (hg : M 0 + count ≤ 200 ∧ hour + (count - 1) * gap ≤ 999999999 → ∀ I' : Mm, MSt I0 I' l T (G + 10200) p (oftR M nm gap hour count.toNat) → Q 1 I') (hb0 : ¬ (M 0 + count ≤ 200 ∧ hour + (count - 1) * gap ≤ 999999999) → ∀ I' : Mm, MBd I0 I' (8 * b + 4) → Q 0 I') : V_M_bringsSome b nm hour gap count I Q := by
  have hl := h.2.2.1.2.1
  have hW := h.2.1
  have b0 := hW.1.1
  have hmul : 0 ≤ gap * (count - 1) ∧ gap * (count - 1) ≤ 999999 * 49 := ⟨Int.mul_nonneg (by omega) (by omega), Int.mul_le_mul (by omega) (by omega) (by omega) (by omega)⟩
  have ec : gap * (count - 1) = (count - 1) * gap := Int.mul_comm _ _
  unfold V_M_bringsSome
  rw [h.1]
  refine ⟨by omega, fun w => m_fails h.2.2.2.2 (by omega) (by omega) (fun I3 g3 => ⟨.inl rfl, hb0 (fun z => by omega) I3 g3⟩), fun w => ⟨by omega, by omega, fun w2 => ?_, fun w2 => m_fails h.2.2.2.2 (by omega) (by omega) (fun I3 g3 => ⟨.inl rfl, hb0 (fun z => by omega) I3 g3⟩)⟩⟩
  rw [ec] at w2
  have hI : I = rset I (oftR M nm gap hour 0) := by unfold oftR; rw [← h.1]; exact (rs_id I).symm
  rw [hI]
  refine lp (P := fun f i => L_M_bringsSome_44 b nm hour gap count Q f (i : Int) (rset I (oftR M nm gap hour i))) count.toNat (fun f => ?_) (fun i f hi ih => ?_)
  · unfold L_M_bringsSome_44
    exact ⟨fun _ => hg ⟨w, w2⟩ _ (m_row h (wf_mono (wf_oft (count := count) hW hnm (by omega) h1.1 w w2 count.toNat (by omega)) (by omega))), fun q => by omega⟩
  · have W1 := wf_oft hW hnm (show M 3 ≤ hour by omega) h1.1 w w2 i (by omega)
    obtain ⟨e0, e6, el⟩ := oft_lo (M := M) (nam := nm) (gap := gap) (hour := hour) i
    have hd := oft_due h1.1 w2 i (by omega)
    unfold L_M_bringsSome_44
    rw [show gap * (i : Int) = (i : Int) * gap from Int.mul_comm _ _]
    refine ⟨fun q => by omega, fun _ => ⟨by omega, m_comesNew (rs_237 _ _) W1 (by rw [e0]; omega) (by rw [el 4 (by omega) (by omega)]; exact hnm) (by rw [el 3 (by omega) (by omega)]; omega) (by omega) ⟨by omega, ?_⟩⟩⟩
    rw [rs_rs]
    exact ih
def MOut (I0 I : Mm) (l : Int) (T : Int → Int) (G p : Int) (r : Int × Int × Rw) (z : Int) : Prop := (r.1 = 0 → z = 1 ∧ MSt I0 I l T G r.2.1 r.2.2 ∧ r.2.2 3 = 0 ∧ p ≤ r.2.1) ∧ (r.1 ≠ 0 → z = 0 ∧ MBd I0 I r.1)
theorem mo_bad {I0 I : Mm} {l : Int} {T : Int → Int} {G p e x : Int} {N : Rw} (h : MBd I0 I e) (he : e ≠ 0) : MOut I0 I l T G p (e, x, N) 0 := ⟨fun z => absurd z he, fun _ => ⟨rfl, h⟩⟩
theorem m_mono {I0 I : Mm} {l : Int} {T : Int → Int} {G G' p : Int} {M : Rw} (h : MSt I0 I l T G p M) (hG : G ≤ G') : MSt I0 I l T G' p M := ⟨h.1, wf_mono h.2.1 hG, h.2.2⟩
