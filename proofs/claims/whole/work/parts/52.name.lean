/-! name -/
def alN (T : Int → Int) (l : Int) : Prop := (1 ≤ l ∧ l ≤ 6) ∧ ltr (byt T l) 0 l.toNat
theorem s_asWord {l : Int} {T : Int → Int} {I : Mm} {Q : Int → Mm → Prop} (hT : TpC I l T) (h1 : alN T l → Q (wrd (byt T l) 0 l.toNat) I) (h0 : ¬ alN T l → Q 0 I) : V_Ta_asWord I Q := by
  have hl := hT.2.1
  unfold V_Ta_asWord
  rw [hT.1]
  refine ⟨fun a => ?_, fun a => h0 (fun w => by have := w.1; omega)⟩
  by_cases hlt : ltr (byt T l) 0 l.toNat
  · refine lp (P := fun f i => L_Ta_asWord_15 Q f (wrd (byt T l) 0 i) (i : Int) I) l.toNat (fun f => ?_) (fun i f hi ih => ?_)
    · unfold L_Ta_asWord_15
      rw [hT.1]
      refine ⟨fun _ => ?_, fun q => by omega⟩
      by_cases q : 1 ≤ l
      · exact h1 ⟨⟨q, a⟩, hlt⟩
      · have e : l.toNat = 0 := by omega
        rw [e]
        exact h0 (fun w => by have := w.1; omega)
    · have hb := hlt (i : Int) (by omega) (by omega)
      rw [Int.zero_add] at hb
      have e1 : ((i + 1 : Nat) : Int) = (i : Int) + 1 := by omega
      rw [e1] at ih
      unfold L_Ta_asWord_15
      rw [hT.1]
      refine ⟨fun q => by omega, fun _ => s_taAt hT (x_isL (fun _ _ => ⟨fun _ => s_taAt hT ?_, fun q => absurd q (by decide)⟩) (fun q => absurd hb q))⟩
      have y := x_withLetter (B := byt T l) (p := 0) (i := i) (I := I) (Q := fun z27 I28 => r32 ((i : Int) + 1) ∧ L_Ta_asWord_15 Q f z27 ((i : Int) + 1) I28) (ltr_le (i + 1) hlt (by omega)) (by omega) ⟨by omega, ih⟩
      rw [Int.zero_add] at y
      exact y
  · have hno : ¬ alN T l := fun w => hlt w.2
    refine lp_first (P := fun f i => ltr (byt T l) 0 i → L_Ta_asWord_15 Q f (wrd (byt T l) 0 i) (i : Int) I) (fun k => decide (¬ (97 ≤ byt T l k ∧ byt T l k ≤ 122))) l.toNat (fun hall f => ?_) (fun i f hi hi2 hb => ?_) (fun i f hi hb ih => ?_) |> fun ⟨f, hf⟩ => ⟨f, hf (fun k a b => by omega)⟩
    · intro _
      exact absurd (fun k a b => by rw [Int.zero_add]; have := hall k a b; simpa using this) hlt
    · intro _
      have hb' : ¬ (97 ≤ byt T l (i : Int) ∧ byt T l (i : Int) ≤ 122) := of_decide_eq_true hb
      unfold L_Ta_asWord_15
      rw [hT.1]
      exact ⟨fun q => by omega, fun _ => s_taAt hT (x_isL (fun a b => absurd ⟨a, b⟩ hb') (fun _ => ⟨fun w => absurd rfl w, fun _ => h0 hno⟩))⟩
    · intro hlt2
      have hb' : 97 ≤ byt T l (i : Int) ∧ byt T l (i : Int) ≤ 122 := Classical.not_not.1 (of_decide_eq_false hb)
      have hlt3 : ltr (byt T l) 0 (i + 1) := fun k a b => by
        by_cases q : k < (i : Int)
        · exact hlt2 k a q
        · rw [Int.zero_add, show k = (i : Int) by omega]; exact hb'
      have ih2 := ih hlt3
      have e1 : ((i + 1 : Nat) : Int) = (i : Int) + 1 := by omega
      rw [e1] at ih2
      unfold L_Ta_asWord_15
      rw [hT.1]
      refine ⟨fun q => by omega, fun _ => s_taAt hT (x_isL (fun _ _ => ⟨fun _ => s_taAt hT ?_, fun q => absurd q (by decide)⟩) (fun q => absurd hb' q))⟩
      have y := x_withLetter (B := byt T l) (p := 0) (i := i) (I := I) (Q := fun z27 I28 => r32 ((i : Int) + 1) ∧ L_Ta_asWord_15 Q f z27 ((i : Int) + 1) I28) hlt3 (by omega) ⟨by omega, ih2⟩
      rw [Int.zero_add] at y
      exact y
theorem m_nameAlone {l : Int} {T : Int → Int} {I : Mm} {Q : Int → Mm → Prop} (hT : TpM I l T) (h1 : alN T l → Q 1 I) (h0 : ¬ alN T l → Q 0 I) : V_M_isNameAlone I Q := by
  unfold V_M_isNameAlone
  rw [hT.1]
  refine m_in (fun a b => ⟨fun _ => ?_, fun w => absurd w (by decide)⟩) (fun q => ⟨fun w => absurd rfl w, fun _ => h0 (fun w => q w.1)⟩)
  refine lp_first (P := fun f i => L_M_isNameAlone_19 Q f (i : Int) I) (fun k => decide (¬ (97 ≤ byt T l k ∧ byt T l k ≤ 122))) l.toNat (fun hall f => ?_) (fun i f hi hi2 hb => ?_) (fun i f hi hb ih => ?_)
  · unfold L_M_isNameAlone_19
    rw [hT.1]
    exact ⟨fun _ => h1 ⟨⟨a, b⟩, fun k c d => by rw [Int.zero_add]; have := hall k c d; simpa using this⟩, fun q => by omega⟩
  · have hb' : ¬ (97 ≤ byt T l (i : Int) ∧ byt T l (i : Int) ≤ 122) := of_decide_eq_true hb
    unfold L_M_isNameAlone_19
    rw [hT.1]
    refine ⟨fun q => by omega, fun _ => m_byteAt hT (by omega) (m_in (fun c d => absurd ⟨c, d⟩ hb') (fun _ => ⟨fun w => absurd rfl w, fun _ => h0 (fun w => hb' ?_)⟩))⟩
    have := w.2 (i : Int) (by omega) (by omega)
    rw [Int.zero_add] at this
    exact this
  · have hb' : 97 ≤ byt T l (i : Int) ∧ byt T l (i : Int) ≤ 122 := Classical.not_not.1 (of_decide_eq_false hb)
    unfold L_M_isNameAlone_19
    rw [hT.1]
    exact ⟨fun q => by omega, fun _ => m_byteAt hT (by omega) (m_in (fun _ _ => ⟨fun _ => ⟨by omega, ih⟩, fun w => absurd w (by decide)⟩) (fun q => absurd hb' q))⟩
/-- class and reference may hold different rows that say the same -/
theorem inv_mix {G : Int} {I : Mm} {M M' : Rw} {u : Int} {H H' : Int → Rw} {k : Int → Int} {S : Int → Rw} {l : Int} {T : Int → Int} (hC : CS I M u H k S l T) (hR : RS I M' u H' k S l T) (hA : AW G M u H k S l T) (hM : ∀ j : Int, 0 ≤ j → j < 980 → M' j = M j) (hH : ∀ i j : Int, 0 ≤ i → i < u → 0 ≤ j → j < 980 → H' i j = H i j) : Inv G I := by
  obtain ⟨c1, ⟨c2, c3, c4, c5⟩, cr⟩ := hC
  exact ⟨M', u, H', k, S, l, T, ⟨rep_cong c1 hA.1.1.1 (wf_b hA.1) (fun _ _ _ => rfl) hM, ⟨c2, c3, c4, fun i a b => rep_cong (c5 i a b) (hA.2.1 i a b).1.1 (wf_b (hA.2.1 i a b)) (fun _ _ _ => rfl) (fun j p q => hH i j a b p q)⟩, cr⟩, hR, wf_cong hA.1 hM, fun i a b => wf_cong (hA.2.1 i a b) (fun j p q => hH i j a b p q), hA.2.2⟩
theorem psh_cong {u : Int} {H H' : Int → Rw} {M M' : Rw} (hu : 0 ≤ u ∧ u ≤ 10) (hM : ∀ j : Int, 0 ≤ j → j < 980 → M' j = M j) (hH : ∀ i j : Int, 0 ≤ i → i < u → 0 ≤ j → j < 980 → H' i j = H i j) : ∀ i j : Int, 0 ≤ i → i < min (u + 1) 10 → 0 ≤ j → j < 980 → psh u H' M' i j = psh u H M i j := by
  intro i j a b c d
  unfold psh
  by_cases q : u = 10
  · rw [if_pos q, if_pos q]
    by_cases q2 : i = 9
    · rw [if_pos q2, if_pos q2]; exact hM j c d
    · rw [if_neg q2, if_neg q2]; exact hH (i + 1) j (by omega) (by omega) c d
  · rw [if_neg q, if_neg q]
    by_cases q2 : i = u
    · rw [if_pos q2, if_pos q2]; exact hM j c d
    · rw [if_neg q2, if_neg q2]; exact hH i j a (by omega) c d
theorem nad_cong {M M' B : Rw} {p : Int} {m : Nat} (hM : ∀ j : Int, 0 ≤ j → j < 980 → M' j = M j) (j : Int) (a : 0 ≤ j) (b : j < 980) : nadR M' B p m j = nadR M B p m j := by
  unfold nadR
  rw [hM 4 (by omega) (by omega), hM j a b]
theorem fwd_cong {M M' : Rw} {w : Int} (hM : ∀ j : Int, 0 ≤ j → j < 980 → M' j = M j) (h4 : 0 ≤ M 4 ∧ M 4 ≤ 16) : fwdR M' w = fwdR M w := by
  have e4 := hM 4 (by omega) (by omega)
  have ew : ∀ n : Int, 0 ≤ n → n < M 4 → wordR M' n = wordR M n := fun n a b => word_cong _ _ _ (fun k c d => hM k (by omega) (by omega))
  have f1 := fwdR_is M' w
  have f2 := fwdR_is M w
  rw [e4] at f1
  rcases f1 with ⟨a1, a2⟩ | ⟨a1, a2, a3⟩ <;> rcases f2 with ⟨b1, b2⟩ | ⟨b1, b2, b3⟩
  · omega
  · exact absurd b2 (by rw [← ew _ b1.1 b1.2]; exact a2 _ b1.1 b1.2)
  · exact absurd a2 (by rw [ew _ a1.1 a1.2]; exact b2 _ a1.1 a1.2)
  · by_cases q : fwdR M' w < fwdR M w
    · exact absurd a2 (by rw [ew _ a1.1 a1.2]; exact b3 _ a1.1 q)
    · by_cases q2 : fwdR M w < fwdR M' w
      · exact absurd b2 (by rw [← ew _ b1.1 b1.2]; exact a3 _ b1.1 q2)
      · omega
theorem o_name {G : Int} {I : Mm} {Q : Mm → Prop} (hI : Inv G I) (hG : G ≤ 2143000000) (hQ : ∀ I' : Mm, Inv (G + 3000000) I' → Q I') : V_X_name I (fun z I1 => V_M_name I1 (fun z' I2 => (z = z' → Q I2) ∧ (¬ z = z' → False))) := by
  obtain ⟨M, u, H, k, S, l, T, hC, hR, hA⟩ := hI
  have hW := hA.1
  have b4 := hW.1.2.2.2.2.1
  have hu := hC.2.1.2.1
  have hl := hC.2.2.2.2.1
  have TC : TpC I l T := hC.2.2.2
  unfold V_X_name
  generalize hJ : wrM I 33 0 0 = J
  have Jo : ∀ a : Int, a ≠ 33 → J a = I a := fun a ha => by rw [← hJ, wr_oth _ ha]
  have CJ : CS J M u H k S 0 T := tape_c hC hA (fun a _ a1 _ => Jo a a1) (by rw [← hJ, wr_s]) (by omega) (fun j a b => by omega)
  have n4 : J (1 + 1) 0 = M 4 := CJ.1.1.1
  -- the reference, from any memory whose reference cells are these
  have ref0 : ∀ (z : Int), ¬ alN T l → z = -2 → V_M_name J (fun z' I2 => (z = z' → Q I2) ∧ (¬ z = z' → False)) := fun z hal hz => by
    have RJ : RS J M u H k S l T := rs_fr2 hR (fun a ha => Jo a (by omega))
    have TM : TpM J l T := ⟨RJ.2.2.2.2.1, hl, RJ.2.2.2.2.2⟩
    unfold V_M_name
    refine m_nameAlone TM (fun w => absurd w hal) (fun _ => m_keepsAside RJ.1 (fun I1 k1 F1 => ⟨fun _ => ?_, fun w => absurd rfl w⟩))
    unfold J_M_name_36
    refine ⟨fun _ => ⟨fun q => ?_, fun q => ?_⟩, fun q => absurd q (by decide)⟩
    · rw [F1 237 (by decide), RJ.1] at q
      omega
    · refine fin hz (hQ _ ⟨M, u, H, k, S, 0, T, cs_fr CJ hA (fun a ha => ?_), tape_r RJ (fun a ha => ?_) ?_ (wr_s _ _ _ _) (fun j a b => by omega), aw_mono hA (by omega)⟩)
      · rw [wr_oth _ (by omega), F1 a (by omega)]
      · rw [wr_oth _ (by omega), F1 a (by omega)]
      · rw [wr_n (by omega), F1 236 (by decide)]
  refine s_asWord TC (fun hal => ?_) (fun hal => ⟨fun w => absurd rfl w, fun _ => by rw [hJ]; exact ref0 _ hal rfl⟩)
  rw [hJ]
  have hm : 1 ≤ l.toNat ∧ l.toNat ≤ 6 := by have := hal.1; omega
  have el : ((l.toNat : Nat) : Int) = l := by omega
  have hB := hal.2
  generalize hmm : l.toNat = m at hm el hB
  have hwn : ¬ wrd (byt T l) 0 m = 0 := fun w => by
    obtain ⟨n, hn⟩ : ∃ n, m = n + 1 := ⟨m - 1, by omega⟩
    rw [hn] at w hB
    have g1 := wrd_rng n (ltr_le n hB (by omega))
    have g2 := hB (n : Int) (by omega) (by omega)
    rw [wrd_s] at w
    omega
  have hp : 0 ≤ (0 : Int) ∧ (0 : Int) ≤ 400 := by omega
  refine ⟨fun _ => s_nmFind CJ.1.1 b4 ?_, fun w => absurd w hwn⟩
  rw [n4]
  -- the known name, or too many
  have ref1 : ∀ (z : Int), (fwdR M (wrd (byt T l) 0 m) ≠ -1 → z = fwdR M (wrd (byt T l) 0 m)) → (fwdR M (wrd (byt T l) 0 m) = -1 → M 4 = 16 ∧ z = -3) → V_M_name J (fun z' I2 => (z = z' → Q I2) ∧ (¬ z = z' → False)) := fun z z1 z2 => by
    have RJ : RS J M u H k S l T := rs_fr2 hR (fun a ha => Jo a (by omega))
    have TM : TpM J l T := ⟨RJ.2.2.2.2.1, hl, RJ.2.2.2.2.2⟩
    unfold V_M_name
    refine m_nameAlone TM (fun _ => m_keepsAside RJ.1 (fun I1 k1 F1 => ⟨fun w => absurd w (by decide), fun _ => ?_⟩)) (fun w => absurd hal w)
    have hM1 : I1 237 = M := by rw [F1 237 (by decide)]; exact RJ.1
    have TM1 : TpM I1 l T := ⟨by rw [F1 236 (by decide)]; exact TM.1, hl, by rw [F1 246 (by decide)]; exact TM.2.2⟩
    have hend : Q (wrM I1 236 16 0) := by
      refine hQ _ ⟨M, u, H, k, S, 0, T, cs_fr CJ hA (fun a ha => ?_), tape_r RJ (fun a ha => ?_) ?_ (wr_s _ _ _ _) (fun j a b => by omega), aw_mono hA (by omega)⟩
      · rw [wr_oth _ (by omega), F1 a (by omega)]
      · rw [wr_oth _ (by omega), F1 a (by omega)]
      · rw [wr_n (by omega), F1 236 (by decide)]
    rw [TM.1, ← el]
    rcases fwdR_is M (wrd (byt T l) 0 m) with ⟨f1, -⟩ | ⟨f1, -⟩
    · have hz := z2 f1
      refine m_nameAt hM1 TM1 hW hp hm.2 hB (fun w => absurd f1 w) (fun _ _ => ?_) (fun _ w => by omega)
      unfold J_M_name_36
      exact ⟨fun w => absurd rfl w, fun _ => fin hz.2 hend⟩
    · have hz := z1 (by omega)
      refine m_nameAt hM1 TM1 hW hp hm.2 hB (fun _ => ?_) (fun w _ => by omega) (fun w _ => by omega)
      unfold J_M_name_36
      rw [hM1]
      exact ⟨fun _ => ⟨fun w => by omega, fun _ => fin hz hend⟩, fun w => by omega⟩
  refine ⟨fun hf => ⟨fun h4 => ?_, fun h4 => ref1 _ (fun w => absurd hf w) (fun _ => ⟨by omega, rfl⟩)⟩, fun hf => ref1 _ (fun _ => rfl) (fun w => absurd w hf)⟩
  refine x_rem CJ hA (fun I1 C1 F1 => s_addName (c := 1) C1.1 hW hm hB (fun w => absurd hf w) (fun _ w => by omega) (fun _ _ I2 R2 F2 => ?_))
  have A2 := aw_psh hA hu
  have C2 := cs_upd C1 A2 R2 F2
  have hR2 : RS I2 M u H k S l T := rs_fr2 hR (fun a ha => by rw [F2 a (by omega), F1 a (by omega), Jo a (by omega)])
  have TM : TpM I2 l T := ⟨hR2.2.2.2.2.1, hl, hR2.2.2.2.2.2⟩
  unfold V_M_name
  refine m_nameAlone TM (fun _ => m_keepsAside hR2.1 (fun I3 k3 F3 => ⟨fun w => absurd w (by decide), fun _ => ?_⟩)) (fun w => absurd hal w)
  have hM3 : I3 237 = M := by rw [F3 237 (by decide)]; exact hR2.1
  have TM3 : TpM I3 l T := ⟨by rw [F3 236 (by decide)]; exact TM.1, hl, by rw [F3 246 (by decide)]; exact TM.2.2⟩
  rw [TM.1, ← el]
  refine m_nameAt hM3 TM3 hW hp hm.2 hB (fun w => absurd hf w) (fun _ w => by omega) (fun _ _ => ?_)
  unfold J_M_name_36
  rw [hM3]
  refine ⟨fun _ => ⟨fun _ => ?_, fun w => absurd w (Int.lt_irrefl _)⟩, fun w => by omega⟩
  generalize hI4 : wrM (rset I3 (nadR M (byt T l) 0 m)) 236 16 0 = I4
  have F4 : ∀ a : Int, a ≠ 236 → a ≠ 237 → I4 a = I3 a := fun a p q => by rw [← hI4, wr_oth _ p, rs_ne _ _ q]
  refine m_isAgain (N := M) (fun j p q => by rw [F4 238 (by decide) (by decide)]; exact k3 j p q) (fun I5 k5 F5 => ?_)
  obtain ⟨r1, r2, r3, r4, r5, r6⟩ := hR2
  have e236 : ∀ j : Int, j ≠ 16 → I5 236 j = I2 236 j := fun j hj => by rw [F5 236 (by decide), ← hI4, wr_n (by omega), rs_236, F3 236 (by decide)]
  have eo : ∀ a : Int, a ≠ 236 → a ≠ 237 → a ≠ 238 → I5 a = I2 a := fun a p q r => by rw [F5 a q, F4 a p q, F3 a r]
  have R5 : RS I5 (I5 237) u H k S 0 T := by
    refine ⟨rfl, by rw [e236 3 (by decide)]; exact r2, by rw [eo 239 (by decide) (by decide) (by decide)]; exact r3, by rw [eo 240 (by decide) (by decide) (by decide), eo 241 (by decide) (by decide) (by decide)]; exact r4, ?_, fun j a b => by omega⟩
    rw [F5 236 (by decide), ← hI4, wr_s]
  refine m_keepsAct2 R5 hu (fun I6 S6 F6 => ?_)
  have W5 := wf_cong hW k5
  have e4 := k5 4 (by omega) (by omega)
  have f5 := fwd_cong (w := wrd (byt T l) 0 m) k5 b4
  have TM6 : TpM (wrM I6 236 16 (m : Int)) l T := by
    refine ⟨by rw [wr_s]; exact el, hl, ?_⟩
    rw [wr_oth _ (by decide), F6 246 (by decide) (by decide), eo 246 (by decide) (by decide) (by decide)]
    exact r6
  refine m_nameAt (M := I5 237) (by rw [wr_oth _ (by decide)]; exact S6.1) TM6 W5 hp hm.2 hB (fun w => absurd (by rw [f5]; exact hf) w) (fun _ w => by omega) (fun _ _ => fin (by omega) (hQ _ ?_))
  have A7 := aw_upd (aw_mono A2 (show G ≤ G + 3000000 by omega)) (wf_mono (wf_nad hW (by omega) hm hB) (show G ≤ G + 3000000 by omega))
  refine inv_mix (cs_fr C2 A7 (fun a ha => ?_)) (M' := nadR (I5 237) (byt T l) 0 m) (H' := psh u H (I5 237)) ?_ A7 (nad_cong k5) (psh_cong hu k5 (fun _ _ _ _ _ _ => rfl))
  · rw [wr_oth _ (by omega), rs_ne _ _ (by omega), wr_oth _ (by omega), F6 a (by omega) (by omega), eo a (by omega) (by omega) (by omega)]
  · obtain ⟨s1, s2, s3, s4, s5, s6⟩ := S6
    refine ⟨by rw [wr_oth _ (by decide), rs_237], by rw [wr_n (by omega), rs_236, wr_n (by omega)]; exact s2, ?_, ?_, wr_s _ _ _ _, fun j a b => by omega⟩
    · rw [wr_oth _ (by decide), rs_ne _ _ (by decide), wr_oth _ (by decide)]; exact s3
    · rw [wr_oth _ (by decide), rs_ne _ _ (by decide), wr_oth _ (by decide), wr_oth _ (by decide), rs_ne _ _ (by decide), wr_oth _ (by decide)]; exact s4
