/-! the class's reader: names, words, statements -/
theorem c_nameLoop {I0 I1 : Mm} {l : Int} {T : Int → Int} {G e q : Int} {M : Rw} {Q : Int → Mm → Prop} {K : Int → Mm → Prop} (h1 : CSt I0 I1 l T G e q M) (fin : ∀ I2 : Mm, CSt I0 I2 l T G e (q + (min (ltD (byt T l) q) 6 : Nat)) M → K (wrd (byt T l) q (min (ltD (byt T l) q) 6)) I2) : ∃ f : Nat, L_Re_readName_11 q Q K f 0 I1 := by
  have hl := h1.2.2.1.2.1
  have hq := h1.2.2.2.2.1.2
  have lt := lt_ltr (T := T) hq hl.2
  obtain ⟨r1, r2, r3⟩ := run_is (T := T) (c := isAz) (by decide) hq hl.2
  have r3' := of_decide_eq_false r3
  have ed : runD isAz (byt T l) q = ltD (byt T l) q := rfl
  rw [ed] at r1 r2 r3'
  have g : ∃ f, L_Re_readName_11 q Q K f (wrd (byt T l) q 0) I1 := by
    refine lps (σ := Mm) (P := fun f i I2 => L_Re_readName_11 q Q K f (wrd (byt T l) q i) I2) (S := fun i I2 => CSt I0 I2 l T G e (q + (i : Int)) M) (s := I1) (min (ltD (byt T l) q) 6) (by rw [show q + ((0 : Nat) : Int) = q by omega]; exact h1) ?_ ?_
    · intro n I2 hS
      have h2 := fin I2 hS
      unfold L_Re_readName_11
      rw [hS.2.2.2.2.1.1]
      refine ⟨by omega, fun _ => h2, fun w => s_taAt hS.2.2.1 ?_⟩
      have e1 : min (ltD (byt T l) q) 6 = ltD (byt T l) q := by omega
      rw [e1]
      rw [e1] at h2
      exact x_isL (fun a b => absurd ⟨a, b⟩ r3') (fun _ => ⟨fun _ => h2, fun w => absurd rfl w⟩)
    · intro i n I2 hi2 hS ih
      have hb2 := of_decide_eq_true (r2 (i : Int) (by omega) (by omega))
      have ih2 : L_Re_readName_11 q Q K n (wrd (byt T l) q (i + 1)) (wrM I2 35 2 (q + (i : Int) + 1)) := ih _ (by rw [show q + ((i + 1 : Nat) : Int) = q + (i : Int) + 1 by omega]; exact c_at hS (by omega))
      unfold L_Re_readName_11
      rw [hS.2.2.2.2.1.1]
      refine ⟨by omega, fun w => by omega, fun _ => s_taAt hS.2.2.1 (x_isL (fun _ _ => ⟨fun w => absurd w (by decide), fun _ => ?_⟩) (fun w => absurd hb2 w))⟩
      rw [hS.2.2.2.2.1.1]
      refine s_taAt hS.2.2.1 (x_withLetter (ltr_le (i + 1) lt (by omega)) (by omega) ?_)
      rw [hS.2.2.2.2.1.1]
      exact ⟨by omega, ih2⟩
  exact g
theorem c_name {I0 I : Mm} {l : Int} {T : Int → Int} {G e p : Int} {M : Rw} {Q : Int → Mm → Prop} (h : CSt I0 I l T G e p M) (hg : e = 0 → naE (byt T l) M p = 0 → ∀ I' : Mm, CSt I0 I' l T G 0 (naP (byt T l) p) (naM (byt T l) M p) → Q (naV (byt T l) M p) I') (hb : (if e = 0 then naE (byt T l) M p else e) ≠ 0 → ∀ (I' : Mm) (p' : Int), CSt I0 I' l T G (if e = 0 then naE (byt T l) M p else e) p' M → Q 0 I') : V_Re_readName I Q := by
  have hl := h.2.2.1.2.1
  have hp := h.2.2.2.2.1.2
  have hW := h.2.1
  have hok := fun w => na_ok (T := T) hW hp hl.2 w
  unfold V_Re_readName
  refine c_skip h (fun I1 h1 => ?_)
  have hq := (sk_is (T := T) hp hl.2).1
  rw [h1.2.2.2.2.1.1]
  unfold naE at hg hb hok
  unfold naP naM naV at hg
  unfold naM naV at hok
  generalize skR (byt T l) p = q at *
  have lt := lt_ltr (T := T) (show 0 ≤ q ∧ q ≤ l by omega) hl.2
  obtain ⟨r1, r2, r3⟩ := run_is (T := T) (c := isAz) (by decide) (show 0 ≤ q ∧ q ≤ l by omega) hl.2
  have ed : runD isAz (byt T l) q = ltD (byt T l) q := rfl
  rw [ed] at r1 r2 r3
  -- no name any more
  have bad : ∀ (w : Int) (I2 : Mm) (e2 p2 : Int), e2 ≠ 0 → CSt I0 I2 l T G e2 p2 M → Q 0 I2 → J_Re_readName_111 Q q w I2 := fun w I2 e2 p2 ne h2 hq2 => by
    unfold J_Re_readName_111
    rw [h2.2.2.2.1.1]
    exact ⟨fun z => absurd z ne, fun _ => hq2⟩
  refine c_nameLoop h1 (fun I2 h2 => ?_)
  rw [h2.2.2.2.2.1.1]
  refine ⟨fun w => s_taAt h2.2.2.1 ?_, fun w => ?_⟩
  · by_cases c2 : 6 < ltD (byt T l) q
    · have em : min (ltD (byt T l) q) 6 = 6 := by omega
      have hlet := of_decide_eq_true (r2 6 (by omega) (by omega))
      rw [em] at h2 ⊢
      have hb2 := hb
      rw [if_neg (show ¬ ltD (byt T l) q = 0 by omega), if_pos c2] at hb2
      refine x_isL (fun _ _ => ⟨fun w => absurd w (by decide), fun _ => ?_⟩) (fun w => absurd hlet w)
      rw [h2.2.2.2.2.1.1]
      refine c_fail h2 (by omega) (by omega) (fun I3 h3 => ?_)
      have ne : (if e = 0 then 8 * (q + ((6 : Nat) : Int)) + 2 else e) ≠ 0 := by split <;> omega
      exact bad _ I3 _ _ ne h3 (hb2 ne I3 _ h3)
    · have em : min (ltD (byt T l) q) 6 = ltD (byt T l) q := by omega
      have hno := of_decide_eq_false r3
      rw [em] at h2 w ⊢
      have c1 : ¬ ltD (byt T l) q = 0 := by omega
      rw [if_neg c1, if_neg c2] at hg hb hok
      refine x_isL (fun a b => absurd ⟨a, b⟩ hno) (fun _ => ⟨fun _ => ?_, fun w => absurd rfl w⟩)
      by_cases he : e = 0
      · rw [if_pos he] at hb
        rw [he] at h2
        unfold J_Re_readName_111
        rw [h2.2.2.2.1.1]
        refine ⟨fun _ => s_addName (c := 17) h2.1 hW (by omega) lt (fun f1 => ⟨fun _ => ?_, fun w => ?_⟩) (fun f1 f2 => ⟨fun w => absurd rfl w, fun _ => ?_⟩) (fun f1 f2 I3 R3 F3 => ⟨fun _ => ?_, fun w => ?_⟩), fun w => absurd rfl w⟩
        · have := hg he (by rw [if_neg (fun z => f1 z.1)]) I2
          rw [if_neg f1, if_neg f1] at this
          exact this h2
        · exact absurd w f1
        · rw [if_pos ⟨f1, f2⟩] at hb
          refine c_fail h2 (by omega) (by omega) (fun I3 h3 => ?_)
          rw [if_pos rfl] at h3
          exact hb (by omega) I3 _ h3
        · have e0 : (if fwdR M (wrd (byt T l) q (ltD (byt T l) q)) = -1 ∧ M 4 = 16 then 8 * q + 3 else 0) = 0 := if_neg (fun z => by omega)
          have := hg he e0 I3
          rw [if_pos f1, if_pos f1] at this
          have h5 := (hok e0).2.1
          rw [if_pos f1] at h5
          exact this (c_cal h2 R3 F3 h5)
        · have := hW.1.2.2.2.2.1
          omega
      · rw [if_neg he] at hb
        exact bad _ I2 e _ he h2 (hb he I2 _ h2)
  · have c1 : ltD (byt T l) q = 0 := by omega
    rw [if_pos c1] at hb
    refine c_fail h2 (by omega) (by omega) (fun I3 h3 => ?_)
    have ne : (if e = 0 then 8 * q + 1 else e) ≠ 0 := by split <;> omega
    exact bad _ I3 _ _ ne h3 (hb ne I3 _ h3)
theorem sx_ok : ∀ w : Nat, w < 8 → slenI w ≤ 100 ∧ ∀ k : Nat, k < (slenI w).toNat → 0 ≤ sch w (k : Int) := by decide
theorem sx_ok2 {w : Nat} (hw : w < 8) : slenI w ≤ 100 ∧ ∀ k : Int, 0 ≤ k → k < slenI w → 0 ≤ sch w k := by
  refine ⟨(sx_ok w hw).1, fun k a b => ?_⟩
  have := (sx_ok w hw).2 k.toNat (by omega)
  rw [show ((k.toNat : Nat) : Int) = k by omega] at this
  exact this
theorem isW_le {T : Int → Int} {l q : Int} {w : Nat} (hw : w < 8) (hq : 0 ≤ q ∧ q ≤ l) (h : isW (byt T l) q w) : q + slenI w ≤ l := by
  have hn := slen_nn w
  by_cases z : slenI w = 0
  · omega
  · have e1 := h.1 (slenI w - 1) (by omega) (by omega)
    have e2 := (sx_ok2 hw).2 (slenI w - 1) (by omega) (by omega)
    have := byt_in (T := T) (l := l) (k := q + (slenI w - 1)) (by omega)
    omega
theorem c_expect {I0 I : Mm} {l : Int} {T : Int → Int} {G e p : Int} {M : Rw} {w : Nat} {Q : Mm → Prop} (hw : w < 8) (h : CSt I0 I l T G e p M) (hg : e = 0 → isW (byt T l) (skR (byt T l) p) w → ∀ I' : Mm, CSt I0 I' l T G 0 (skR (byt T l) p + slenI w) M → Q I') (hb0 : e = 0 → ¬ isW (byt T l) (skR (byt T l) p) w → ∀ I' : Mm, CSt I0 I' l T G (8 * skR (byt T l) p + 1) (skR (byt T l) p) M → Q I') (hb1 : e ≠ 0 → ∀ (I' : Mm) (p' : Int), CSt I0 I' l T G e p' M → Q I') : V_Re_expect w I Q := by
  have hl := h.2.2.1.2.1
  have hp := h.2.2.2.2.1.2
  unfold V_Re_expect
  refine c_skip h (fun I1 h1 => ?_)
  have hq := (sk_is (T := T) hp hl.2).1
  refine c_passes h1 (sx_ok2 hw).1 (sx_ok2 hw).2 (fun hi I2 h2 => ⟨fun _ => ?_, fun z => absurd z (by decide)⟩) (fun hi => ⟨fun z => absurd rfl z, fun _ => ?_⟩)
  · by_cases he : e = 0
    · rw [he] at h2; exact hg he hi I2 h2
    · exact hb1 he I2 _ h2
  · rw [h1.2.2.2.2.1.1]
    refine c_fail h1 (by omega) (by omega) (fun I2 h2 => ?_)
    by_cases he : e = 0
    · rw [if_pos he] at h2; exact hb0 he hi I2 h2
    · rw [if_neg he] at h2; exact hb1 he I2 _ h2
theorem c_fits {I0 I : Mm} {l : Int} {T : Int → Int} {G e p b gap hour count : Int} {M : Rw} {Q : Int → Mm → Prop} (h : CSt I0 I l T G e p M) (hb : 0 ≤ b ∧ b ≤ l) (h3 : 1 ≤ count ∧ count ≤ 50) (h2 : 0 ≤ hour ∧ hour ≤ 999999999) (h1 : 1 ≤ gap ∧ gap ≤ 999999) (hg : e = 0 → M 0 + count ≤ 200 ∧ hour + (count - 1) * gap ≤ 999999999 → Q 1 I) (hb0 : e = 0 → ¬ (M 0 + count ≤ 200 ∧ hour + (count - 1) * gap ≤ 999999999) → ∀ I' : Mm, CSt I0 I' l T G (8 * b + 4) p M → Q 0 I') (hb1 : e ≠ 0 → ∀ I' : Mm, CSt I0 I' l T G e p M → Q 0 I') : V_Re_fits b gap hour count I Q := by
  have hl := h.2.2.1.2.1
  unfold V_Re_fits
  refine s_hasRoom h.1 h.2.1.1.1 h3 ⟨h2.1, by omega⟩ h1 (fun x y => ⟨fun _ => ?_, fun z => absurd z (by decide)⟩) (fun x => ⟨fun z => absurd rfl z, fun _ => c_fail h (by omega) (by omega) (fun I2 g2 => ?_)⟩)
  · rw [h.2.2.2.1.1]
    exact ⟨fun z => hb1 z I h, fun z => hg z ⟨x, y⟩⟩
  · rw [g2.2.2.2.1.1]
    by_cases he : e = 0
    · rw [if_pos he] at g2 ⊢
      exact ⟨fun _ => hb0 he x I2 g2, fun z => by omega⟩
    · rw [if_neg he] at g2 ⊢
      exact ⟨fun _ => hb1 he I2 g2, fun z => absurd z he⟩
noncomputable def wok (B : Rw) (q : Int) (w : Nat) : Int := @ite Int (isW B q w) (Classical.propDecidable _) 1 0
theorem wok_1 {B : Rw} {q : Int} {w : Nat} : wok B q w = 1 ↔ isW B q w := by
  unfold wok
  by_cases h : isW B q w
  · rw [if_pos h]; exact ⟨fun _ => h, fun _ => rfl⟩
  · rw [if_neg h]; exact ⟨fun z => absurd z (by decide), fun z => absurd z h⟩
/-- what a statement says: a fault (0: none), where it ends, the row then -/
def atS (B : Rw) (b p : Int) (M : Rw) : Int × Int × Rw :=
  if nuE B p 0 999999999 ≠ 0 then (nuE B p 0 999999999, p, M)
  else if naE B M (nuP B p) ≠ 0 then (naE B M (nuP B p), p, M)
  else if M 0 + 1 ≤ 200 then (0, naP B (nuP B p), oftR (naM B M (nuP B p)) (naV B M (nuP B p)) 1 (nuV B p) 1)
  else (8 * b + 4, p, M)
noncomputable def evS (B : Rw) (b p : Int) (M : Rw) : Int × Int × Rw :=
  if nuE B p 1 999999 ≠ 0 then (nuE B p 1 999999, p, M)
  else if wok B (skR B (nuP B p)) 4 ≠ 1 then (8 * skR B (nuP B p) + 1, p, M)
  else if nuE B (skR B (nuP B p) + slenI 4) 0 999999999 ≠ 0 then (nuE B (skR B (nuP B p) + slenI 4) 0 999999999, p, M)
  else if wok B (skR B (nuP B (skR B (nuP B p) + slenI 4))) 5 ≠ 1 then (8 * skR B (nuP B (skR B (nuP B p) + slenI 4)) + 1, p, M)
  else if nuE B (skR B (nuP B (skR B (nuP B p) + slenI 4)) + slenI 5) 1 50 ≠ 0 then (nuE B (skR B (nuP B (skR B (nuP B p) + slenI 4)) + slenI 5) 1 50, p, M)
  else if naE B M (nuP B (skR B (nuP B (skR B (nuP B p) + slenI 4)) + slenI 5)) ≠ 0 then (naE B M (nuP B (skR B (nuP B (skR B (nuP B p) + slenI 4)) + slenI 5)), p, M)
  else if M 0 + nuV B (skR B (nuP B (skR B (nuP B p) + slenI 4)) + slenI 5) ≤ 200 ∧ nuV B (skR B (nuP B p) + slenI 4) + (nuV B (skR B (nuP B (skR B (nuP B p) + slenI 4)) + slenI 5) - 1) * nuV B p ≤ 999999999 then
    (0, naP B (nuP B (skR B (nuP B (skR B (nuP B p) + slenI 4)) + slenI 5)), oftR (naM B M (nuP B (skR B (nuP B (skR B (nuP B p) + slenI 4)) + slenI 5))) (naV B M (nuP B (skR B (nuP B (skR B (nuP B p) + slenI 4)) + slenI 5))) (nuV B p) (nuV B (skR B (nuP B p) + slenI 4)) (nuV B (skR B (nuP B (skR B (nuP B p) + slenI 4)) + slenI 5)).toNat)
  else (8 * b + 4, p, M)
noncomputable def afS (B : Rw) (b p : Int) (M : Rw) : Int × Int × Rw :=
  if naE B M p ≠ 0 then (naE B M p, p, M)
  else if wok B (skR B (naP B p)) 7 ≠ 1 then (8 * skR B (naP B p) + 1, p, M)
  else if nuE B (skR B (naP B p) + slenI 7) 1 999999 ≠ 0 then (nuE B (skR B (naP B p) + slenI 7) 1 999999, p, M)
  else if naE B (naM B M p) (nuP B (skR B (naP B p) + slenI 7)) ≠ 0 then (naE B (naM B M p) (nuP B (skR B (naP B p) + slenI 7)), p, M)
  else if M 5 < 12 then (0, naP B (nuP B (skR B (naP B p) + slenI 7)), addR (naM B (naM B M p) (nuP B (skR B (naP B p) + slenI 7))) (naV B M p) (naV B (naM B M p) (nuP B (skR B (naP B p) + slenI 7))) (nuV B (skR B (naP B p) + slenI 7)))
  else (8 * b + 4, p, M)
def roS (B : Rw) (p : Int) (M : Rw) : Int × Int × Rw :=
  if nuE B p 2 64 ≠ 0 then (nuE B p 2 64, p, M)
  else if rw6 (nuV B p) then (0, nuP B p, if nuV B p = M 1 then M else layR M (nuV B p) (M 2))
  else (8 * skR B p + 2, p, M)
def wiS (B : Rw) (p : Int) (M : Rw) : Int × Int × Rw :=
  if nuE B p 1 99999999 ≠ 0 then (nuE B p 1 99999999, p, M)
  else (0, nuP B p, if nuV B p = M 2 then M else layR M (M 1) (nuV B p))
noncomputable def stS (B : Rw) (p : Int) (M : Rw) : Int × Int × Rw :=
  if wok B (skR B p) 0 = 1 then roS B (skR B p + slenI 0) M
  else if wok B (skR B p) 1 = 1 then wiS B (skR B p + slenI 1) M
  else if wok B (skR B p) 2 = 1 then atS B (skR B p) (skR B p + slenI 2) M
  else if wok B (skR B p) 3 = 1 then evS B (skR B p) (skR B p + slenI 3) M
  else if wok B (skR B p) 6 = 1 then afS B (skR B p) (skR B p + slenI 6) M
  else (8 * skR B p + 1, p, M)
def COut (I0 I : Mm) (l : Int) (T : Int → Int) (G p : Int) (r : Int × Int × Rw) : Prop := (r.1 = 0 → CSt I0 I l T G 0 r.2.1 r.2.2 ∧ r.2.2 3 = 0 ∧ p ≤ r.2.1) ∧ (r.1 ≠ 0 → ∃ (p' : Int) (M' : Rw), CSt I0 I l T G r.1 p' M')
theorem c_mono {I0 I : Mm} {l : Int} {T : Int → Int} {G G' e p : Int} {M : Rw} (h : CSt I0 I l T G e p M) (hG : G ≤ G') : CSt I0 I l T G' e p M := ⟨h.1, wf_mono h.2.1 hG, h.2.2⟩
theorem out_bad {I0 I : Mm} {l : Int} {T : Int → Int} {G G' p e p' : Int} {M' : Rw} {x : Int} {N : Rw} (h : CSt I0 I l T G e p' M') (hG : G ≤ G') (he : e ≠ 0) : COut I0 I l T G' p (e, x, N) := ⟨fun z => absurd z he, fun _ => ⟨p', M', c_mono h hG⟩⟩
theorem nu_le {T : Int → Int} {l p : Int} (hp : 0 ≤ p ∧ p ≤ l) (hl : l ≤ 400) : p ≤ nuP (byt T l) p ∧ nuP (byt T l) p ≤ l := by
  have h1 := (sk_is (T := T) hp hl).1
  have h2 := (run_is (T := T) (c := isD) (by decide) (show 0 ≤ skR (byt T l) p ∧ skR (byt T l) p ≤ l by omega) hl).1
  unfold nuP dgD
  omega
theorem na_le {T : Int → Int} {l p : Int} (hp : 0 ≤ p ∧ p ≤ l) (hl : l ≤ 400) : p ≤ naP (byt T l) p ∧ naP (byt T l) p ≤ l := by
  have h1 := (sk_is (T := T) hp hl).1
  have h2 := (run_is (T := T) (c := isAz) (by decide) (show 0 ≤ skR (byt T l) p ∧ skR (byt T l) p ≤ l by omega) hl).1
  unfold naP ltD
  omega
theorem c_readAt {I0 I : Mm} {l : Int} {T : Int → Int} {G b p : Int} {M : Rw} {Q : Mm → Prop} (h : CSt I0 I l T G 0 p M) (h3 : M 3 = 0) (hG : G ≤ 2140000000) (hb : 0 ≤ b ∧ b ≤ l) (hQ : ∀ I' : Mm, COut I0 I' l T (G + 10200) p (atS (byt T l) b p M) → Q I') : V_Re_readAt b I Q := by
  have hl := h.2.2.1.2.1
  have hp := h.2.2.2.2.1.2
  have hW := h.2.1
  have n1 := nu_le (T := T) hp hl.2
  have n2 := na_le (T := T) (show 0 ≤ nuP (byt T l) p ∧ nuP (byt T l) p ≤ l by omega) hl.2
  unfold atS at hQ
  unfold V_Re_readAt
  refine c_num h (by omega) (by omega) (fun _ e1 hv I1 h1 => c_name h1 (fun _ e2 I2 h2 => ?_) (fun e2 I2 p2 h2 => ?_)) (fun e1 I1 h1 => c_name h1 (fun z _ _ _ => absurd z e1) (fun e2 I2 p2 h2 => c_fits h2 hb (by omega) (by omega) (by omega) (fun z => absurd z e2) (fun z => absurd z e2) (fun _ I3 h4 => ⟨fun _ => ?_, fun z => absurd rfl z⟩)))
  · have ok := na_ok hW (show 0 ≤ nuP (byt T l) p ∧ nuP (byt T l) p ≤ l by omega) hl.2 e2
    have e0 : naM (byt T l) M (nuP (byt T l) p) 0 = M 0 := ok.2.2.2.1 0 (by omega) (by omega)
    have e3 : naM (byt T l) M (nuP (byt T l) p) 3 = M 3 := ok.2.2.2.1 3 (by omega) (by omega)
    rw [if_neg (fun z => z e1), if_neg (fun z => z e2)] at hQ
    refine c_fits h2 hb (by omega) (by omega) (by omega) (fun _ w => ⟨fun z => absurd z (by decide), fun _ => ?_⟩) (fun _ w I3 h4 => ⟨fun _ => ?_, fun z => absurd rfl z⟩) (fun z => absurd rfl z)
    · rw [e0] at w
      rw [if_pos w.1] at hQ
      have b0 := hW.1.1
      refine s_often h2.1 h2.2.1 ok.2.2.1 (by omega) (by omega) (by omega) (by rw [e0]; omega) (by omega) (by omega) (fun I3 R3 F3 => hQ _ ⟨fun _ => ⟨c_cal h2 R3 F3 (wf_mono (wf_oft (count := 1) h2.2.1 ok.2.2.1 (by omega) (by omega) (by rw [e0]; omega) (by omega) 1 (by omega)) (by omega)), ?_, by dsimp only; omega⟩, fun z => absurd rfl z⟩)
      show oftR _ _ 1 _ 1 3 = 0
      rw [(oft_lo 1).2.2 3 (by omega) (by omega), e3]
      exact h3
    · rw [e0] at w
      rw [if_neg (fun z => w ⟨z, by omega⟩)] at hQ
      exact hQ _ (out_bad h4 (by omega) (by omega))
  · rw [if_pos rfl] at e2 h2
    rw [if_neg (fun z => z e1), if_pos e2] at hQ
    refine c_fits h2 hb (by omega) (by omega) (by omega) (fun z => absurd z e2) (fun z => absurd z e2) (fun _ I3 h4 => ⟨fun _ => hQ _ (out_bad h4 (by omega) e2), fun z => absurd rfl z⟩)
  · rw [if_pos rfl] at e1
    rw [if_pos rfl, if_neg e1] at h4
    rw [if_pos e1] at hQ
    exact hQ _ (out_bad h4 (by omega) e1)
