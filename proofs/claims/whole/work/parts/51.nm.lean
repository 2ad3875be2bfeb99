/-! bytes of the tape, words of letters, names by their words -/
def byt (T : Int → Int) (l k : Int) : Int := if 0 ≤ k ∧ k < l then bAnd (T k) 255 else -1
theorem by_rng (x : Int) : 0 ≤ bAnd x 255 ∧ bAnd x 255 ≤ 255 := by
  have e : bAnd x 255 = (((i2 x).toBitVec.toNat % 2 ^ 8 : Nat) : Int) := by
    unfold bAnd
    rw [pk_and (i2 x) (m := i2 255) 8 (by decide), nI_t (by omega)]
  rw [e]
  omega
theorem byt_rng (T : Int → Int) (l k : Int) : -1 ≤ byt T l k ∧ byt T l k ≤ 255 := by
  have := by_rng (T k)
  unfold byt
  split <;> omega
theorem byt_out {T : Int → Int} {l k : Int} (h : l ≤ k) : byt T l k = -1 := by
  unfold byt
  rw [if_neg (by omega)]
theorem byt_in {T : Int → Int} {l k : Int} (h : 0 ≤ byt T l k) : 0 ≤ k ∧ k < l := by
  unfold byt at h
  split at h
  · assumption
  · omega
def TpC (I : Mm) (l : Int) (T : Int → Int) : Prop := I 33 0 = l ∧ (0 ≤ l ∧ l ≤ 400) ∧ ∀ j : Int, 0 ≤ j → j < l → I 34 j = T j
def TpM (I : Mm) (l : Int) (T : Int → Int) : Prop := I 236 16 = l ∧ (0 ≤ l ∧ l ≤ 400) ∧ ∀ j : Int, 0 ≤ j → j < l → I 246 j = T j
theorem s_taAt {k l : Int} {T : Int → Int} {I : Mm} {Q : Int → Mm → Prop} (hT : TpC I l T) (hQ : Q (byt T l k) I) : V_Ta_at k I Q := by
  obtain ⟨h1, h2, h3⟩ := hT
  unfold V_Ta_at
  rw [h1]
  refine ⟨fun q => ?_, fun a => ⟨fun b => ⟨by omega, ?_⟩, fun b => ?_⟩⟩
  · unfold byt at hQ; rw [if_neg (by omega)] at hQ; exact hQ
  · unfold byt at hQ; rw [if_pos (by omega)] at hQ; rw [h3 k a b]; exact hQ
  · unfold byt at hQ; rw [if_neg (by omega)] at hQ; exact hQ
theorem m_byteAt {k l : Int} {T : Int → Int} {I : Mm} {Q : Int → Mm → Prop} (hT : TpM I l T) (hk : 0 ≤ k) (hQ : Q (byt T l k) I) : V_M_byteAt k I Q := by
  obtain ⟨h1, h2, h3⟩ := hT
  unfold V_M_byteAt
  rw [h1]
  refine ⟨fun q => ?_, fun b => ⟨by omega, ?_⟩⟩
  · unfold byt at hQ; rw [if_neg (by omega)] at hQ; exact hQ
  · unfold byt at hQ; rw [if_pos (by omega)] at hQ; rw [h3 k hk b]; exact hQ
theorem x_isL {x : Int} {I : Mm} {Q : Int → Mm → Prop} (h1 : 97 ≤ x → x ≤ 122 → Q 1 I) (h0 : ¬ (97 ≤ x ∧ x ≤ 122) → Q 0 I) : V_X_isLetter x I Q :=
  ⟨fun q => h0 (by omega), fun q => ⟨fun r => h0 (by omega), fun r => h1 q r⟩⟩
theorem nI_or (a b : Nat) : nI a ||| nI b = nI (a ||| b) := by
  apply Int32.toBitVec_inj.1
  show BitVec.ofNat 32 a ||| BitVec.ofNat 32 b = BitVec.ofNat 32 (a ||| b)
  apply BitVec.eq_of_getLsbD_eq
  intro i hi
  simp [hi]
theorem wl_is {w d : Int} (hw : 0 ≤ w ∧ w < 33554432) (hd : 1 ≤ d ∧ d ≤ 26) : bOr (bShl w 5) d = w * 32 + d := by
  obtain ⟨n, rfl⟩ := nat_of hw.1
  obtain ⟨b, rfl⟩ := nat_of (show 0 ≤ d by omega)
  unfold bOr bShl
  rw [i2_nat, i2_nat, pk_shlN (i2 5 &&& 31) 5 (by decide) (by omega), i2_toInt, nI_or, Nat.mul_comm, ← Nat.two_pow_add_eq_or_of_lt (by omega), nI_t (by omega)]
  omega
theorem pow32b : ∀ m : Nat, m < 6 → (32 : Int) ^ m ≤ 33554432 := by decide
theorem x_withLetter {B : Rw} {p : Int} {i : Nat} {I : Mm} {Q : Int → Mm → Prop} (h : ltr B p (i + 1)) (hi : i < 6) (hQ : Q (wrd B p (i + 1)) I) : V_X_withLetter (wrd B p i) (B (p + (i : Int))) I Q := by
  have h1 := wrd_rng i (ltr_le i h (by omega))
  have h2 := pow32b i hi
  have h3 := h (i : Int) (by omega) (by omega)
  unfold V_X_withLetter
  rw [wl_is ⟨h1.1, by omega⟩ (by omega), show wrd B p i * 32 + (B (p + (i : Int)) - 97 + 1) = wrd B p (i + 1) by rw [wrd_s]; omega]
  exact hQ
theorem wrd_inj {M B : Rw} {o p : Int} : ∀ m m' : Nat, ltr M o m → ltr B p m' → wrd M o m = wrd B p m' → m = m' ∧ ∀ k : Int, 0 ≤ k → k < (m : Int) → M (o + k) = B (p + k)
  | 0, 0, _, _, _ => ⟨rfl, fun k a b => by omega⟩
  | 0, m' + 1, _, h', e => by
    have h1 := wrd_rng m' (ltr_le m' h' (by omega))
    have h2 := h' (m' : Int) (by omega) (by omega)
    rw [wrd_0, wrd_s] at e
    omega
  | m + 1, 0, h, _, e => by
    have h1 := wrd_rng m (ltr_le m h (by omega))
    have h2 := h (m : Int) (by omega) (by omega)
    rw [wrd_0, wrd_s] at e
    omega
  | m + 1, m' + 1, h, h', e => by
    have h2 := h (m : Int) (by omega) (by omega)
    have h3 := h' (m' : Int) (by omega) (by omega)
    rw [wrd_s, wrd_s] at e
    obtain ⟨e1, e2⟩ := wrd_inj m m' (ltr_le m h (by omega)) (ltr_le m' h' (by omega)) (by omega)
    subst e1
    refine ⟨rfl, fun k a b => ?_⟩
    by_cases q : k < (m : Int)
    · exact e2 k a q
    · have : k = (m : Int) := by omega
      subst this
      omega
theorem wrd_two {M B : Rw} {o p : Int} : ∀ m : Nat, (∀ k : Int, 0 ≤ k → k < (m : Int) → M (o + k) = B (p + k)) → wrd M o m = wrd B p m
  | 0, _ => rfl
  | m + 1, h => by rw [wrd_s, wrd_s, wrd_two m (fun k a b => h k a (by omega)), h (m : Int) (by omega) (by omega)]
/-- a name has a word just if it has its letters -/
theorem word_iff {G n p : Int} {m : Nat} {M B : Rw} (hW : WF G M) (hn : 0 ≤ n ∧ n < M 4) (hB : ltr B p m) : wordR M n = wrd B p m ↔ nlet M (48 + 6 * n) = (m : Int) ∧ ∀ k : Int, 0 ≤ k → k < (m : Int) → M (48 + 6 * n + k) = B (p + k) := by
  obtain ⟨m', q1, q2, q3, q4, q5⟩ := nm_let hW hn
  have e : wordR M n = wrd M (48 + 6 * n) m' := by unfold wordR; rw [q5, Int.toNat_natCast]
  rw [e, q5]
  constructor
  · intro h
    obtain ⟨e1, e2⟩ := wrd_inj m' m q3 hB h
    exact ⟨by rw [e1], by rw [← e1]; exact e2⟩
  · rintro ⟨e1, e2⟩
    have e3 : m' = m := by omega
    subst e3
    exact wrd_two m' e2
theorem m_isNamed {G n p l : Int} {m : Nat} {T : Int → Int} {M : Rw} {I : Mm} {Q : Int → Mm → Prop} (hM : I 237 = M) (hT : TpM I l T) (hW : WF G M) (hn : 0 ≤ n ∧ n < M 4) (hp : 0 ≤ p ∧ p ≤ 400) (hm : m ≤ 6) (hB : ltr (byt T l) p m) (h1 : wordR M n = wrd (byt T l) p m → Q 1 I) (h0 : wordR M n ≠ wrd (byt T l) p m → Q 0 I) : V_M_isNamed n p (m : Int) I Q := by
  have b4 := hW.1.2.2.2.2.1
  have hif := word_iff hW hn hB
  obtain ⟨m', q1, q2, q3, q4, q5⟩ := nm_let hW hn
  unfold V_M_isNamed
  refine m_letters hM ⟨hn.1, by omega⟩ q3 q2 q4 ⟨fun e => ?_, fun e => h0 (fun w => e (by have := (hif.1 w).1; omega))⟩
  refine lp_first (P := fun f i => L_M_isNamed_14 n p (m : Int) Q f (i : Int) I) (fun k => decide (¬ M (48 + 6 * n + k) = byt T l (p + k))) m (fun hall f => ?_) (fun i f hi hi2 hb => ?_) (fun i f hi hb ih => ?_)
  · unfold L_M_isNamed_14
    refine ⟨fun _ => h1 (hif.2 ⟨by omega, fun k a b => ?_⟩), fun q => absurd q (Int.lt_irrefl _)⟩
    have := hall k a b
    simpa using this
  · have hb' : ¬ M (48 + 6 * n + (i : Int)) = byt T l (p + (i : Int)) := by simpa using hb
    unfold L_M_isNamed_14
    refine ⟨fun q => by omega, fun _ => ⟨by omega, by omega, m_byteAt hT (by omega) ⟨fun q => ?_, fun _ => h0 (fun w => hb' ((hif.1 w).2 (i : Int) (by omega) (by omega)))⟩⟩⟩
    rw [hM] at q
    exact absurd q hb'
  · have hb' : M (48 + 6 * n + (i : Int)) = byt T l (p + (i : Int)) := by simpa using hb
    unfold L_M_isNamed_14
    refine ⟨fun q => by omega, fun _ => ⟨by omega, by omega, m_byteAt hT (by omega) ⟨fun _ => ⟨by omega, ih⟩, fun q => ?_⟩⟩⟩
    rw [hM] at q
    exact absurd hb' q
/-- a name more -/
def nadR (M : Rw) (B : Rw) (p : Int) (m : Nat) : Rw := fun j => if j = 4 then M 4 + 1 else if 48 + 6 * M 4 ≤ j ∧ j < 48 + 6 * M 4 + 6 then (if j - (48 + 6 * M 4) < (m : Int) then B (p + (j - (48 + 6 * M 4))) else 0) else M j
theorem nad_4 {M B : Rw} {p : Int} {m : Nat} : nadR M B p m 4 = M 4 + 1 := by simp [nadR]
theorem nad_o {M B : Rw} {p j : Int} {m : Nat} (h : j ≠ 4) (h2 : ¬ (48 + 6 * M 4 ≤ j ∧ j < 48 + 6 * M 4 + 6)) : nadR M B p m j = M j := by unfold nadR; rw [if_neg h, if_neg h2]
theorem nad_k {M B : Rw} {p k : Int} {m : Nat} (h4 : 0 ≤ M 4) (a : 0 ≤ k) (b : k < 6) : nadR M B p m (48 + 6 * M 4 + k) = if k < (m : Int) then B (p + k) else 0 := by
  unfold nadR
  rw [if_neg (by omega), if_pos (by omega), show 48 + 6 * M 4 + k - (48 + 6 * M 4) = k by omega]
theorem wf_nad {G p : Int} {M B : Rw} {m : Nat} (hW : WF G M) (h4 : M 4 < 16) (hm : 1 ≤ m ∧ m ≤ 6) (hB : ltr B p m) : WF G (nadR M B p m) := by
  obtain ⟨⟨b0, b1, b2, b3, b4, b5, b6, b7, b8⟩, ⟨w1, w11, w12⟩, w2, w3⟩ := hW
  have o : ∀ j : Int, j ≠ 4 → (j < 48 ∨ 144 ≤ j) → nadR M B p m j = M j := fun j x y => nad_o x (by omega)
  have e0 := o 0 (by omega) (by omega)
  have e1 := o 1 (by omega) (by omega)
  have e2 := o 2 (by omega) (by omega)
  have e3 := o 3 (by omega) (by omega)
  have e5 := o 5 (by omega) (by omega)
  have e6 := o 6 (by omega) (by omega)
  have e7 := o 7 (by omega) (by omega)
  have e4 : nadR M B p m 4 = M 4 + 1 := nad_4
  refine ⟨⟨by omega, by rw [e1]; exact b1, by omega, by omega, by omega, by omega, by omega, by omega, fun j x y => by rw [o j (by omega) (by omega)]; exact b8 j x y⟩, ⟨fun k a b => ?_, fun i j a b d => ?_, fun i j a b d => ?_⟩, fun r a b => ?_, fun n a b => ?_, fun n a b => ?_⟩
  · have := w1 k a (by omega)
    rw [o (380 + k) (by omega) (by omega), o (580 + k) (by omega) (by omega), o (780 + k) (by omega) (by omega), e3, e4, e6]
    omega
  · rw [o (780 + i) (by omega) (by omega), o (780 + j) (by omega) (by omega), o (380 + i) (by omega) (by omega), o (380 + j) (by omega) (by omega)]
    exact w11 i j a b (by omega)
  · rw [o (380 + i) (by omega) (by omega), o (380 + j) (by omega) (by omega)]
    exact w12 i j a b (by omega)
  · have := w2 r a (by omega)
    rw [o (144 + 3 * r) (by omega) (by omega), o (144 + 3 * r + 1) (by omega) (by omega), o (144 + 3 * r + 2) (by omega) (by omega), e4]
    omega
  · rw [o (16 + n) (by omega) (by omega), o (32 + n) (by omega) (by omega)]
    exact w3.1 n (by omega) b
  · by_cases q : n < M 4
    · obtain ⟨m', m1, m2, m3, m4⟩ := w3.2 n a q
      have oo : ∀ k : Int, 0 ≤ k → k < 6 → nadR M B p m (48 + 6 * n + k) = M (48 + 6 * n + k) := fun k x y => nad_o (by omega) (by omega)
      exact ⟨m', m1, m2, fun k x y => by rw [oo k x (by omega)]; exact m3 k x y, fun k x y => by rw [oo k (by omega) y]; exact m4 k x y⟩
    · have en : n = M 4 := by omega
      subst en
      refine ⟨(m : Int), by omega, by omega, fun k x y => ?_, fun k x y => ?_⟩
      · rw [nad_k b4.1 x (by omega), if_pos y]; exact hB k x y
      · rw [nad_k b4.1 (by omega) y, if_neg (by omega)]
theorem nad_word {G p : Int} {M B : Rw} {m : Nat} (hW : WF G M) (h4 : M 4 < 16) (hm : 1 ≤ m ∧ m ≤ 6) (hB : ltr B p m) : wordR (nadR M B p m) (M 4) = wrd B p m ∧ ∀ n : Int, 0 ≤ n → n < M 4 → wordR (nadR M B p m) n = wordR M n := by
  have b4 := hW.1.2.2.2.2.1
  have W1 := wf_nad hW h4 hm hB
  have k4 := fun k a b => @nad_k M B p k m b4.1 a b
  refine ⟨?_, fun n a b => word_cong _ _ _ (fun k x y => nad_o (by omega) (by omega))⟩
  refine (word_iff W1 ⟨b4.1, by rw [nad_4]; omega⟩ hB).2 ⟨?_, fun k a b => by rw [k4 k a (by omega), if_pos b]⟩
  obtain ⟨m', q1, q2, q3, q4, q5⟩ := nm_let W1 (n := M 4) ⟨b4.1, by rw [nad_4]; omega⟩
  rw [q5]
  by_cases w : m' < m
  · have g1 := q4 (m' : Int) (Int.le_refl _) (by omega)
    rw [k4 _ (by omega) (by omega), if_pos (by omega)] at g1
    have g2 := hB (m' : Int) (by omega) (by omega)
    omega
  · by_cases w2 : m < m'
    · have g1 := q3 (m : Int) (by omega) (by omega)
      rw [k4 _ (by omega) (by omega), if_neg (by omega)] at g1
      omega
    · omega
def nakR (M : Rw) (B : Rw) (p : Int) (m : Nat) (i : Nat) : Rw := fun j => if 48 + 6 * M 4 ≤ j ∧ j < 48 + 6 * M 4 + (i : Int) then (if j - (48 + 6 * M 4) < (m : Int) then B (p + (j - (48 + 6 * M 4))) else 0) else M j
theorem nak_0 (M B : Rw) (p : Int) (m : Nat) : nakR M B p m 0 = M := by
  funext j
  unfold nakR
  rw [if_neg (by omega)]
theorem nak_4 {M B : Rw} {p : Int} {m i : Nat} (h4 : 0 ≤ M 4) : nakR M B p m i 4 = M 4 := by
  unfold nakR
  rw [if_neg (by omega)]
theorem nak_s {M B : Rw} {p v : Int} {m i : Nat} (hv : v = if (i : Int) < (m : Int) then B (p + (i : Int)) else 0) : stR (nakR M B p m i) (48 + 6 * M 4 + (i : Int)) v = nakR M B p m (i + 1) := by
  funext j
  unfold stR nakR
  by_cases q : j = 48 + 6 * M 4 + (i : Int)
  · rw [if_pos q, if_pos (by omega), hv, show j - (48 + 6 * M 4) = (i : Int) by omega]
  · rw [if_neg q]
    by_cases q2 : 48 + 6 * M 4 ≤ j ∧ j < 48 + 6 * M 4 + (i : Int)
    · rw [if_pos q2, if_pos (show 48 + 6 * M 4 ≤ j ∧ j < 48 + 6 * M 4 + ((i + 1 : Nat) : Int) by omega)]
    · rw [if_neg q2, if_neg (show ¬ (48 + 6 * M 4 ≤ j ∧ j < 48 + 6 * M 4 + ((i + 1 : Nat) : Int)) by omega)]
theorem nak_6 {M B : Rw} {p : Int} {m : Nat} : stR (nakR M B p m 6) 4 (M 4 + 1) = nadR M B p m := by
  funext j
  unfold stR nakR nadR
  rfl
theorem tpm_rs {I : Mm} {l : Int} {T : Int → Int} {M : Rw} (h : TpM I l T) : TpM (rset I M) l T := by
  obtain ⟨h1, h2, h3⟩ := h
  exact ⟨by rw [rs_236]; exact h1, h2, by rw [rs_ne _ _ (by decide)]; exact h3⟩
theorem m_nameAt {G p l : Int} {m : Nat} {T : Int → Int} {M : Rw} {I : Mm} {Q : Int → Mm → Prop} (hM : I 237 = M) (hT : TpM I l T) (hW : WF G M) (hp : 0 ≤ p ∧ p ≤ 400) (hm : m ≤ 6) (hB : ltr (byt T l) p m) (h1 : fwdR M (wrd (byt T l) p m) ≠ -1 → Q (fwdR M (wrd (byt T l) p m)) I) (h2 : fwdR M (wrd (byt T l) p m) = -1 → M 4 = 16 → Q (-1) I) (h3 : fwdR M (wrd (byt T l) p m) = -1 → M 4 < 16 → Q (M 4) (rset I (nadR M (byt T l) p m))) : V_M_nameAt p (m : Int) I Q := by
  have b4 := hW.1.2.2.2.2.1
  unfold V_M_nameAt
  refine lp_first (P := fun f i => L_M_nameAt_2 p (m : Int) Q _ f (i : Int) I) (fun n => decide (wordR M n = wrd (byt T l) p m)) (M 4).toNat (fun hall f => ?_) (fun i f hi hi2 hb => ?_) (fun i f hi hb ih => ?_)
  · have hf : fwdR M (wrd (byt T l) p m) = -1 := by
      rcases fwdR_is M (wrd (byt T l) p m) with ⟨h, -⟩ | ⟨h, e, -⟩
      · exact h
      · have := hall _ h.1 (by omega)
        exact absurd e (by simpa using this)
    unfold L_M_nameAt_2
    rw [hM]
    refine ⟨fun _ => ⟨fun q => ?_, fun q => h2 hf q⟩, fun q => by omega⟩
    have h4 : M 4 < 16 := by omega
    refine lpr (P := fun f i I1 => L_M_nameAt_45 p (m : Int) Q _ f (i : Int) I1) (S := fun i I1 => I1 = rset I (nakR M (byt T l) p m i)) 6 ?_ ?_ ?_
    · rw [nak_0, ← hM, rs_id]
    · intro n I1 hS
      subst hS
      have k4 : rset I (nakR M (byt T l) p m 6) 237 4 = M 4 := by rw [rs_237]; exact nak_4 b4.1
      have e : wrM (rset I (nakR M (byt T l) p m 6)) 237 4 (M 4 + 1) = rset I (nadR M (byt T l) p m) := by
        rw [wr_rs, rs_237, rs_rs, nak_6]
      unfold L_M_nameAt_45
      refine ⟨fun _ => ?_, fun q => absurd q (by decide)⟩
      rw [k4, e, rs_237, nad_4, show M 4 + 1 - 1 = M 4 by omega]
      exact ⟨by omega, by omega, h3 hf h4⟩
    · intro i n I1 hi hS ih
      subst hS
      have k4 : rset I (nakR M (byt T l) p m i) 237 4 = M 4 := by rw [rs_237]; exact nak_4 b4.1
      have e : ∀ v : Int, (v = if (i : Int) < (m : Int) then byt T l (p + (i : Int)) else 0) → wrM (rset I (nakR M (byt T l) p m i)) 237 (48 + 6 * M 4 + (i : Int)) v = rset I (nakR M (byt T l) p m (i + 1)) := fun v hv => by
        rw [wr_rs, rs_237, rs_rs, nak_s hv]
      unfold L_M_nameAt_45
      rw [k4]
      refine ⟨fun w => by omega, fun _ => ⟨fun w => ⟨by omega, by omega, ih _ (e 0 (by rw [if_neg (by omega)]))⟩, fun w => ⟨by omega, m_byteAt (tpm_rs hT) (by omega) ⟨by omega, by omega, ih _ (e _ (by rw [if_pos w]))⟩⟩⟩⟩
  · have hb' : wordR M (i : Int) = wrd (byt T l) p m := by simpa using hb
    have hf : fwdR M (wrd (byt T l) p m) = (i : Int) := hi.symm
    unfold L_M_nameAt_2
    rw [hM]
    refine ⟨fun q => by omega, fun _ => m_isNamed hM hT hW ⟨by omega, by omega⟩ hp hm hB (fun _ => ⟨fun q => absurd q (by decide), fun _ => ?_⟩) (fun w => absurd hb' w)⟩
    have := h1 (by omega)
    rw [hf] at this
    exact this
  · have hb' : ¬ wordR M (i : Int) = wrd (byt T l) p m := by simpa using hb
    unfold L_M_nameAt_2
    rw [hM]
    exact ⟨fun q => by omega, fun _ => m_isNamed hM hT hW ⟨by omega, by omega⟩ hp hm hB (fun w => absurd w hb') (fun _ => ⟨fun _ => ⟨by omega, ih⟩, fun w => absurd rfl w⟩)⟩
/-- .. and in a Calendar -/
theorem s_addName {c G p : Int} {m : Nat} {B : Rw} {I : Mm} {M : Rw} {Q : Int → Mm → Prop} (hR : RepC I c M) (hW : WF G M) (hm : 1 ≤ m ∧ m ≤ 6) (hB : ltr B p m) (h1 : fwdR M (wrd B p m) ≠ -1 → Q (fwdR M (wrd B p m)) I) (h2 : fwdR M (wrd B p m) = -1 → M 4 = 16 → Q (-1) I) (h3 : fwdR M (wrd B p m) = -1 → M 4 < 16 → ∀ I' : Mm, RepC I' c (nadR M B p m) → Frm c I I' → Q (M 4) I') : V_Nm_findOrAdd (c + 1) (wrd B p m) I Q := by
  have b4 := hW.1.2.2.2.2.1
  refine s_findOrAdd hR.1 b4 (fun w => ?_) (fun w h4 I' i0 io i1 iF => ?_)
  · by_cases q : fwdR M (wrd B p m) = -1
    · have := h2 q (by rcases w with w | w; exact absurd q w; exact w)
      rw [q]
      exact this
    · exact h1 q
  · obtain ⟨g1, g2⟩ := nad_word hW h4 hm hB
    have rn : RNm I' (c + 1) (nadR M B p m) := by
      refine ⟨by rw [i0, nad_4], fun n a b => ?_⟩
      rw [nad_4] at b
      have z := hW.2.2.2.1
      by_cases q : n = M 4
      · subst q
        obtain ⟨y1, y2, y3⟩ := i1
        rw [y1, y2, y3, nad_o (by omega) (by omega), nad_o (by omega) (by omega)]
        have := z (M 4) (Int.le_refl _) h4
        exact ⟨g1.symm, this.1.symm, this.2.symm⟩
      · obtain ⟨y1, y2, y3⟩ := io n q
        obtain ⟨r1, r2, r3⟩ := hR.1.2 n a (by omega)
        rw [y1, y2, y3, nad_o (by omega) (by omega), nad_o (by omega) (by omega)]
        exact ⟨r1.trans (g2 n a (by omega)).symm, r2, r3⟩
    obtain ⟨R2, F2⟩ := rep_nm hR (wf_b hW) rn iF (fun j hj => nad_o (by omega) (by omega))
    exact h3 w h4 I' R2 F2
