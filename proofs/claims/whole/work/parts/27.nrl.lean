def wordR (M : Rw) (n : Int) : Int := wrd M (48 + 6 * n) (nlet M (48 + 6 * n)).toNat
def fwdR (M : Rw) (w : Int) : Int := fstB (fun n => decide (wordR M n = w)) (M 4).toNat
theorem fwdR_is (M : Rw) (w : Int) : (fwdR M w = -1 ∧ ∀ k : Int, 0 ≤ k → k < M 4 → wordR M k ≠ w) ∨ ((0 ≤ fwdR M w ∧ fwdR M w < M 4) ∧ wordR M (fwdR M w) = w ∧ ∀ k : Int, 0 ≤ k → k < fwdR M w → wordR M k ≠ w) := by
  have h := fstB_is (fun n => decide (wordR M n = w)) (M 4).toNat
  unfold fwdR
  grind
theorem s_nmHas {c x1 : Int} {I : Mm} {Q : Int → Mm → Prop} (h1 : 0 ≤ x1 → x1 < I c 0 → Q 1 I) (h0 : ¬ (0 ≤ x1 ∧ x1 < I c 0) → Q 0 I) : V_Nm_has c x1 I Q := by
  unfold V_Nm_has
  grind
theorem s_ruHas {c x1 : Int} {I : Mm} {Q : Int → Mm → Prop} (h1 : 0 ≤ x1 → x1 < I c 0 → Q 1 I) (h0 : ¬ (0 ≤ x1 ∧ x1 < I c 0) → Q 0 I) : V_Ru_has c x1 I Q := by
  unfold V_Ru_has
  grind
theorem s_nmFind {c x1 : Int} {I : Mm} {M : Rw} {Q : Int → Mm → Prop} (hR : RNm I c M) (h0 : 0 ≤ M 4 ∧ M 4 ≤ 16) (hQ : Q (fwdR M x1) I) : V_Nm_find c x1 I Q := by
  obtain ⟨hn, hk⟩ := hR
  unfold V_Nm_find
  have hw : ∀ n : Int, 0 ≤ n → n < M 4 → I (c + 1) n = wordR M n := fun n a b => (hk n a b).1
  refine lp_first (P := fun f i => L_Nm_find_2 c x1 Q f (i : Int) I) (fun n => decide (wordR M n = x1)) (M 4).toNat (fun b f => ?_) (fun i f e hi b => ?_) (fun i f hi b ih => ?_)
  · have e : fwdR M x1 = -1 := by
      have h := fwdR_is M x1
      grind
    unfold L_Nm_find_2
    grind
  · have e : fwdR M x1 = i := by rw [e]; rfl
    have h1 := hw i
    unfold L_Nm_find_2
    grind
  · have h1 := hw i
    unfold L_Nm_find_2
    grind
/-- one name more, with a word: what the cells hold then (nothing of its letters is said) -/
theorem s_findOrAdd {c x1 : Int} {I : Mm} {M : Rw} {Q : Int → Mm → Prop} (hR : RNm I c M) (h0 : 0 ≤ M 4 ∧ M 4 ≤ 16) (h1 : fwdR M x1 ≠ -1 ∨ M 4 = 16 → Q (fwdR M x1) I) (hQ : fwdR M x1 = -1 → M 4 < 16 → ∀ I' : Mm, I' c 0 = M 4 + 1 → (∀ n : Int, n ≠ M 4 → I' (c + 1) n = I (c + 1) n ∧ I' (c + 2) n = I (c + 2) n ∧ I' (c + 3) n = I (c + 3) n) → (I' (c + 1) (M 4) = x1 ∧ I' (c + 2) (M 4) = 0 ∧ I' (c + 3) (M 4) = 0) → (∀ a : Int, ¬ (c ≤ a ∧ a < c + 4) → I' a = I a) → Q (M 4) I') : V_Nm_findOrAdd c x1 I Q := by
  unfold V_Nm_findOrAdd
  refine s_nmFind hR h0 ?_
  obtain ⟨hn, hk⟩ := hR
  refine ⟨fun q => h1 (Or.inl q), fun q => ⟨fun a => ?_, fun a => h1 (Or.inr (by omega))⟩⟩
  have e1 : wrM I (c + 1) (I c 0) x1 c 0 = M 4 := by grind [wrM]
  simp only [e1]
  have e2 : wrM (wrM I (c + 1) (I c 0) x1) (c + 2) (M 4) 0 c 0 = M 4 := by grind [wrM]
  simp only [e2]
  have e3 : wrM (wrM (wrM I (c + 1) (I c 0) x1) (c + 2) (M 4) 0) (c + 3) (M 4) 0 c 0 = M 4 := by grind [wrM]
  simp only [e3, wr_s]
  refine ⟨by omega, by omega, by omega, by omega, by omega, ?_⟩
  rw [show M 4 + 1 - 1 = M 4 by omega]
  refine hQ q (by omega) _ ?_ (fun n hn => ⟨?_, ?_, ?_⟩) ⟨?_, ?_, ?_⟩ (fun a ha => ?_)
  all_goals grind [wrM]
theorem s_nmCopy {c c1 : Int} {I : Mm} {M : Rw} {Q : Mm → Prop} (hR : RNm I c1 M) (h0 : 0 ≤ M 4 ∧ M 4 ≤ 16) (hd : c1 + 4 ≤ c ∨ c + 4 ≤ c1) (hQ : ∀ I' : Mm, RNm I' c M → (∀ a : Int, ¬ (c ≤ a ∧ a < c + 4) → I' a = I a) → Q I') : V_Nm_copyFrom c c1 I Q := by
  obtain ⟨hn, hk⟩ := hR
  unfold V_Nm_copyFrom
  refine hQ _ ⟨?_, fun n a b => ?_⟩ (fun a ha => ?_)
  · grind [wrM, cpM]
  · have h1 := hk n a b
    grind [wrM, cpM]
  · grind [wrM, cpM]
def tknR (M : Rw) (nam : Int) : Rw := fun j => if j = 16 + nam then M (16 + nam) + 1 else M j
def lstR (M : Rw) (nam : Int) : Rw := fun j => if j = 32 + nam then M (32 + nam) + 1 else M j
theorem wrd_cong (M M' : Rw) (o : Int) (n : Nat) (h : ∀ k : Int, 0 ≤ k → k < n → M' (o + k) = M (o + k)) : wrd M' o n = wrd M o n := by
  induction n with
  | zero => rfl
  | succ n ih =>
    unfold wrd
    rw [ih (fun k a b => h k a (by omega)), h n (by omega) (by omega)]
theorem nlet_cong (M M' : Rw) (o : Int) (h : ∀ k : Int, 0 ≤ k → k < 6 → M' (o + k) = M (o + k)) : nlet M' o = nlet M o := by
  have h0 := h 0 (by omega) (by omega)
  rw [Int.add_zero] at h0
  unfold nlet
  rw [h0, h 1 (by omega) (by omega), h 2 (by omega) (by omega), h 3 (by omega) (by omega), h 4 (by omega) (by omega), h 5 (by omega) (by omega)]
theorem nlet_rng (M : Rw) (o : Int) : 0 ≤ nlet M o ∧ nlet M o ≤ 6 := by
  unfold nlet
  repeat (first | omega | split)
theorem word_cong (M M' : Rw) (n : Int) (h : ∀ k : Int, 48 + 6 * n ≤ k → k < 48 + 6 * n + 6 → M' k = M k) : wordR M' n = wordR M n := by
  unfold wordR
  have h1 := nlet_rng M (48 + 6 * n)
  rw [nlet_cong M M' (48 + 6 * n) (fun k a b => h _ (by omega) (by omega))]
  exact wrd_cong M M' _ _ (fun k a b => h _ (by omega) (by omega))
theorem s_countTaken {c x1 G : Int} {I : Mm} {M : Rw} {Q : Mm → Prop} (hR : RNm I c M) (h0 : 0 ≤ M 4 ∧ M 4 ≤ 16) (hx : 0 ≤ x1 ∧ x1 < M 4) (hG : r32 (M (16 + x1) + 1)) (hQ : ∀ I' : Mm, RNm I' c (tknR M x1) → (∀ a : Int, ¬ (c ≤ a ∧ a < c + 4) → I' a = I a) → Q I') : V_Nm_countTaken c x1 I Q := by
  obtain ⟨hn, hk⟩ := hR
  unfold V_Nm_countTaken
  refine s_nmHas (fun a b => ⟨fun q => absurd q (by decide), fun _ => ⟨by omega, by omega, ?_, ?_⟩⟩) (fun q => by omega)
  · rw [(hk x1 hx.1 hx.2).2.1]; exact hG
  · refine hQ _ ⟨?_, fun n a b => ?_⟩ (fun a ha => ?_)
    · grind [wrM, tknR]
    · have b2 : n < M 4 := by unfold tknR at b; rwa [if_neg (by omega)] at b
      have h1 := hk n a b2
      have h2 := word_cong M (tknR M x1) n (fun k a b => by unfold tknR; rw [if_neg (by omega)])
      unfold wordR at h2
      rw [h2]
      grind [wrM, tknR]
    · grind [wrM]
theorem s_countLost {c x1 G : Int} {I : Mm} {M : Rw} {Q : Mm → Prop} (hR : RNm I c M) (h0 : 0 ≤ M 4 ∧ M 4 ≤ 16) (hx : 0 ≤ x1 ∧ x1 < M 4) (hG : r32 (M (32 + x1) + 1)) (hQ : ∀ I' : Mm, RNm I' c (lstR M x1) → (∀ a : Int, ¬ (c ≤ a ∧ a < c + 4) → I' a = I a) → Q I') : V_Nm_countLost c x1 I Q := by
  obtain ⟨hn, hk⟩ := hR
  unfold V_Nm_countLost
  refine s_nmHas (fun a b => ⟨fun q => absurd q (by decide), fun _ => ⟨by omega, by omega, ?_, ?_⟩⟩) (fun q => by omega)
  · rw [(hk x1 hx.1 hx.2).2.2]; exact hG
  · refine hQ _ ⟨?_, fun n a b => ?_⟩ (fun a ha => ?_)
    · grind [wrM, lstR]
    · have b2 : n < M 4 := by unfold lstR at b; rwa [if_neg (by omega)] at b
      have h1 := hk n a b2
      have h2 := word_cong M (lstR M x1) n (fun k a b => by unfold lstR; rw [if_neg (by omega)])
      unfold wordR at h2
      rw [h2]
      grind [wrM, lstR]
    · grind [wrM]
/-! rules -/
def addR (M : Rw) (a b g : Int) : Rw := fun j => if j = 5 then M 5 + 1 else if j = 144 + 3 * M 5 then a else if j = 144 + 3 * M 5 + 1 then b else if j = 144 + 3 * M 5 + 2 then g else M j
def rmvR (M : Rw) (r : Int) : Rw := fun j => if j = 5 then M 5 - 1 else if 144 + 3 * r ≤ j ∧ j < 144 + 3 * (M 5 - 1) then M (j + 3) else M j
theorem s_ruAdd {c x1 x2 x3 : Int} {I : Mm} {M : Rw} {Q : Int → Mm → Prop} (hR : RRu I c M) (h0 : 0 ≤ M 5 ∧ M 5 < 12) (hQ : ∀ I' : Mm, RRu I' c (addR M x1 x2 x3) → (∀ a : Int, ¬ (c ≤ a ∧ a < c + 4) → I' a = I a) → Q (M 5) I') : V_Ru_add c x1 x2 x3 I Q := by
  obtain ⟨hn, hk⟩ := hR
  unfold V_Ru_add
  refine ⟨fun _ => ?_, fun _ => by omega⟩
  have e1 : wrM I (c + 1) (I c 0) x1 c 0 = M 5 := by grind [wrM]
  simp only [e1]
  have e2 : wrM (wrM I (c + 1) (I c 0) x1) (c + 2) (M 5) x2 c 0 = M 5 := by grind [wrM]
  simp only [e2]
  have e3 : wrM (wrM (wrM I (c + 1) (I c 0) x1) (c + 2) (M 5) x2) (c + 3) (M 5) x3 c 0 = M 5 := by grind [wrM]
  simp only [e3, wr_s]
  refine ⟨by omega, by omega, by omega, by omega, by omega, ?_⟩
  rw [show M 5 + 1 - 1 = M 5 by omega]
  refine hQ _ ⟨?_, fun r a b => ?_⟩ (fun a ha => ?_)
  · grind [wrM, addR]
  · have h1 := hk r a
    grind [wrM, addR]
  · grind [wrM]
theorem s_ruRemove {c x1 : Int} {I : Mm} {M : Rw} {Q : Mm → Prop} (hR : RRu I c M) (h0 : 0 ≤ M 5 ∧ M 5 ≤ 12) (hx : 0 ≤ x1 ∧ x1 < M 5) (hQ : ∀ I' : Mm, RRu I' c (rmvR M x1) → (∀ a : Int, ¬ (c ≤ a ∧ a < c + 4) → I' a = I a) → Q I') : V_Ru_removeAt c x1 I Q := by
  obtain ⟨hn, hk⟩ := hR
  unfold V_Ru_removeAt
  refine s_ruHas (fun a b => ⟨fun _ => ⟨by omega, ?_⟩, fun q => absurd q (by decide)⟩) (fun q => by omega)
  have key : ∀ m : Nat, ∀ i : Int, ∀ I' : Mm, i + m = M 5 - 1 → x1 ≤ i → I' c 0 = M 5 - 1 → (∀ a : Int, ¬ (c ≤ a ∧ a < c + 4) → I' a = I a) → (∀ k : Int, 0 ≤ k → k < M 5 → (x1 ≤ k ∧ k < i → I' (c + 1) k = I (c + 1) (k + 1) ∧ I' (c + 2) k = I (c + 2) (k + 1) ∧ I' (c + 3) k = I (c + 3) (k + 1)) ∧ (¬ (x1 ≤ k ∧ k < i) → I' (c + 1) k = I (c + 1) k ∧ I' (c + 2) k = I (c + 2) k ∧ I' (c + 3) k = I (c + 3) k)) → L_Ru_removeAt_21 c x1 Q (m + 1) i I' := by
    intro m
    induction m with
    | zero =>
      intro i I' hi h1 h2 h3 h4
      unfold L_Ru_removeAt_21
      refine ⟨fun _ => hQ I' ⟨by rw [h2]; unfold rmvR; rfl, fun r a b => ?_⟩ h3, fun _ => by omega⟩
      have b2 : r < M 5 - 1 := b
      have h5 := h4 r a (by omega)
      have h6 := hk r a (by omega)
      have h7 := hk (r + 1) (by omega) (by omega)
      unfold rmvR
      by_cases h8 : x1 ≤ r ∧ r < i
      · have h9 := h5.1 h8
        rw [if_neg (by omega), if_pos (by omega), if_neg (by omega), if_pos (by omega), if_neg (by omega), if_pos (by omega), h9.1, h9.2.1, h9.2.2, h7.1, h7.2.1, h7.2.2]
        exact ⟨by congr 1; omega, by congr 1; omega, by congr 1; omega⟩
      · have h9 := h5.2 h8
        rw [if_neg (by omega), if_neg (by omega), if_neg (by omega), if_neg (by omega), if_neg (by omega), if_neg (by omega), h9.1, h9.2.1, h9.2.2, h6.1, h6.2.1, h6.2.2]
        exact ⟨rfl, rfl, rfl⟩
    | succ m ih =>
      intro i I' hi h1 h2 h3 h4
      unfold L_Ru_removeAt_21
      refine ⟨fun _ => by omega, fun _ => ⟨by omega, by omega, by omega, by omega, by omega, by omega, by omega, ih _ _ (by omega) (by omega) ?_ (fun a ha => ?_) (fun k p q => ?_)⟩⟩
      · grind [wrM]
      · grind [wrM]
      · have h5 := h4 k p q
        have h6 := h4 (i + 1) (by omega) (by omega)
        have h7 := h4 i (by omega) (by omega)
        refine ⟨fun w => ?_, fun w => ?_⟩
        · by_cases e : k = i
          · subst e; grind [wrM]
          · have h8 := h5.1 (by omega); grind [wrM]
        · have h8 := h5.2 (by omega); grind [wrM]
  obtain ⟨q, hq⟩ := nat_of (show 0 ≤ M 5 - 1 - x1 by omega)
  refine ⟨q + 1, key q x1 _ (by omega) (Int.le_refl _) ?_ (fun a ha => ?_) (fun k p q => ⟨fun w => by omega, fun _ => ?_⟩)⟩
  · grind [wrM]
  · grind [wrM]
  · grind [wrM]
def crlR (M : Rw) (nam : Int) : Int := cntB (fun r => decide (M (144 + 3 * r) = nam)) (M 5).toNat
theorem s_ruCount {c x1 : Int} {I : Mm} {M : Rw} {Q : Int → Mm → Prop} (hR : RRu I c M) (h0 : 0 ≤ M 5 ∧ M 5 ≤ 12) (hQ : Q (crlR M x1) I) : V_Ru_countOf c x1 I Q := by
  obtain ⟨hn, hk⟩ := hR
  unfold V_Ru_countOf
  refine lp (P := fun f i => L_Ru_countOf_4 c x1 Q f (cntB (fun r => decide (M (144 + 3 * r) = x1)) i) (i : Int) I) (M 5).toNat (fun f => ?_) (fun i f hi ih => ?_)
  · unfold L_Ru_countOf_4
    have e : crlR M x1 = cntB (fun r => decide (M (144 + 3 * r) = x1)) (M 5).toNat := rfl
    grind
  · have h1 := cntB_rng (fun r => decide (M (144 + 3 * r) = x1)) i
    have h2 := hk i
    unfold L_Ru_countOf_4
    grind [cntB]
def likU (M M' : Rw) : Prop := M 5 = M' 5 ∧ ∀ j : Int, 0 ≤ j → j < 3 * M 5 → M (144 + j) = M' (144 + j)
theorem s_ruLike {c c1 : Int} {I : Mm} {M M' : Rw} {Q : Int → Mm → Prop} (hR : RRu I c M) (hR' : RRu I c1 M') (h5 : 0 ≤ M 5 ∧ M 5 ≤ 12) (h1 : likU M M' → Q 1 I) (h0 : ¬ likU M M' → Q 0 I) : V_Ru_isLike c c1 I Q := by
  obtain ⟨hn, hk⟩ := hR
  obtain ⟨hn', hk'⟩ := hR'
  unfold V_Ru_isLike
  refine ⟨fun e => ?_, fun e => h0 (fun q => by have := q.1; omega)⟩
  have key : ∀ m i : Nat, i + m = (M 5).toNat → (∀ j : Int, 0 ≤ j → j < 3 * i → M (144 + j) = M' (144 + j)) → L_Ru_isLike_15 c c1 Q (m + 1) (i : Int) I := by
    intro m
    induction m with
    | zero =>
      intro i hi h
      unfold L_Ru_isLike_15
      exact ⟨fun _ => h1 ⟨by omega, fun k a b => h k a (by omega)⟩, fun _ => by omega⟩
    | succ m ih =>
      intro i hi h
      unfold L_Ru_isLike_15
      obtain ⟨e1, e2, e3⟩ := hk i (by omega) (by omega)
      obtain ⟨g1, g2, g3⟩ := hk' i (by omega) (by omega)
      rw [e1, e2, e3, g1, g2, g3]
      refine ⟨fun _ => by omega, fun _ => ⟨by omega, by omega, fun q => h0 (fun z => q (z.2 (3 * i) (by omega) (by omega))), fun q1 => ⟨by omega, by omega, fun q => h0 (fun z => q (by have := z.2 (3 * i + 1) (by omega) (by omega); rw [Int.add_assoc]; exact this)), fun q2 => ⟨by omega, by omega, fun q => h0 (fun z => q (by have := z.2 (3 * i + 2) (by omega) (by omega); rw [Int.add_assoc]; exact this)), fun q3 => ⟨by omega, ?_⟩⟩⟩⟩⟩
      have h2 := ih (i + 1) (by omega) (fun j a b => by
        by_cases w : j < 3 * i
        · exact h j a w
        · rcases (show j = 3 * i ∨ j = 3 * i + 1 ∨ j = 3 * i + 2 by omega) with rfl | rfl | rfl
          · exact q1
          · rw [← Int.add_assoc]; exact q2
          · rw [← Int.add_assoc]; exact q3)
      push_cast at h2
      exact h2
  exact ⟨_, key (M 5).toNat 0 (by omega) (fun k a b => by omega)⟩
theorem s_ruCopy {c c1 : Int} {I : Mm} {M : Rw} {Q : Mm → Prop} (hR : RRu I c1 M) (h0 : 0 ≤ M 5 ∧ M 5 ≤ 12) (hd : c1 + 4 ≤ c ∨ c + 4 ≤ c1) (hQ : ∀ I' : Mm, RRu I' c M → (∀ a : Int, ¬ (c ≤ a ∧ a < c + 4) → I' a = I a) → Q I') : V_Ru_copyFrom c c1 I Q := by
  obtain ⟨hn, hk⟩ := hR
  unfold V_Ru_copyFrom
  have e0 : wrM I c 0 (I c1 0) c 0 = M 5 := by rw [wr_s, hn]
  simp only [e0]
  have e1 : cpM (wrM I c 0 (I c1 0)) (c1 + 1) 0 (c + 1) 0 (M 5) c 0 = M 5 := by grind [cpM]
  simp only [e1]
  have e2 : cpM (cpM (wrM I c 0 (I c1 0)) (c1 + 1) 0 (c + 1) 0 (M 5)) (c1 + 2) 0 (c + 2) 0 (M 5) c 0 = M 5 := by grind [cpM]
  simp only [e2]
  refine ⟨by omega, by omega, by omega, by omega, by omega, by omega, by omega, by omega, by omega, hQ _ ⟨?_, fun k a b => ?_⟩ (fun a ha => ?_)⟩
  · grind [wrM, cpM]
  · have h1 := hk k a b
    grind [wrM, cpM]
  · grind [wrM, cpM]
/-! the log -/
def logR (M : Rw) (num nam due looks : Int) : Rw := fun j => if j = 7 then min (M 7 + 1) 50 else if j = 180 then num else if j = 181 then nam else if j = 182 then due else if j = 183 then looks else if 184 ≤ j ∧ j < 380 then M (j - 4) else M j
theorem s_loAdd {c x1 x2 x3 x4 : Int} {I : Mm} {M : Rw} {Q : Mm → Prop} (hR : RLo I c M) (h0 : 0 ≤ M 7 ∧ M 7 ≤ 50) (hQ : ∀ I' : Mm, RLo I' c (logR M x1 x2 x3 x4) → (∀ a : Int, ¬ (c ≤ a ∧ a < c + 2) → I' a = I a) → Q I') : V_Lo_add c x1 x2 x3 x4 I Q := by
  obtain ⟨hn, ⟨f0, f1⟩, hk⟩ := hR
  unfold V_Lo_add
  generalize hf : I c 1 = f at *
  have e1 : wrM (wrM (wrM (wrM I (c + 1) (f * 4) x1) (c + 1) (f * 4 + 1) x2) (c + 1) (f * 4 + 2) x3) (c + 1) (f * 4 + 3) x4 c 1 = f := by clear hk; grind [wrM]
  simp only [e1]
  have e2 : wrM (wrM (wrM (wrM (wrM I (c + 1) (f * 4) x1) (c + 1) (f * 4 + 1) x2) (c + 1) (f * 4 + 2) x3) (c + 1) (f * 4 + 3) x4) c 1 ((f + 1) % 50) c 0 = M 7 := by clear hk; grind [wrM]
  simp only [e2]
  refine ⟨by omega, by omega, by omega, by omega, by omega, by omega, by omega, hQ _ ⟨?_, ?_, fun k p k0 k1 p0 p1 => ?_⟩ (fun a ha => ?_)⟩
  · clear hk; grind [wrM, logR]
  · have e3 : ∀ v : Int, wrM (wrM (wrM (wrM (wrM (wrM I (c + 1) (f * 4) x1) (c + 1) (f * 4 + 1) x2) (c + 1) (f * 4 + 2) x3) (c + 1) (f * 4 + 3) x4) c 1 ((f + 1) % 50)) c 0 v c 1 = (f + 1) % 50 := by intro v; clear hk; grind [wrM]
    rw [e3]
    omega
  · have e3 : ∀ v : Int, wrM (wrM (wrM (wrM (wrM (wrM I (c + 1) (f * 4) x1) (c + 1) (f * 4 + 1) x2) (c + 1) (f * 4 + 2) x3) (c + 1) (f * 4 + 3) x4) c 1 ((f + 1) % 50)) c 0 v c 1 = (f + 1) % 50 := by intro v; clear hk; grind [wrM]
    rw [e3]
    have k2 : k < min (M 7 + 1) 50 := k1
    rw [wr_oth _ (show c + 1 ≠ c by omega), wr_oth _ (show c + 1 ≠ c by omega)]
    by_cases hk0 : k = 0
    · subst hk0
      have e4 : ((f + 1) % 50 + 49 - 0) % 50 = f := by omega
      rw [e4]
      rcases (show p = 0 ∨ p = 1 ∨ p = 2 ∨ p = 3 by omega) with rfl | rfl | rfl | rfl
      all_goals (clear hk; grind [wrM, logR])
    · have h1 := hk (k - 1) p (by omega) (by omega) p0 p1
      have e4 : ((f + 1) % 50 + 49 - k) % 50 = (f + 49 - (k - 1)) % 50 := by omega
      have e5 : (f + 49 - (k - 1)) % 50 ≠ f := by omega
      have e6 : 0 ≤ (f + 49 - (k - 1)) % 50 := by omega
      rw [e4]
      generalize (f + 49 - (k - 1)) % 50 = s at *
      have e7 : logR M x1 x2 x3 x4 (180 + 4 * k + p) = M (180 + 4 * (k - 1) + p) := by
        unfold logR
        rw [if_neg (by omega), if_neg (by omega), if_neg (by omega), if_neg (by omega), if_neg (by omega), if_pos (by omega)]
        congr 1
        omega
      rw [e7, ← h1, wr_n (by omega), wr_n (by omega), wr_n (by omega), wr_n (by omega)]
  · rw [wr_oth _ (by omega), wr_oth _ (by omega), wr_oth _ (by omega), wr_oth _ (by omega), wr_oth _ (by omega), wr_oth _ (by omega)]
theorem s_loAt {c x1 x2 : Int} {I : Mm} {M : Rw} {Q : Int → Mm → Prop} (hR : RLo I c M) (h0 : 0 ≤ M 7 ∧ M 7 ≤ 50) (hQ : Q (if 0 ≤ x1 ∧ x1 < M 7 ∧ 0 ≤ x2 ∧ x2 < 4 then M (180 + 4 * x1 + x2) else -1) I) : V_Lo_at c x1 x2 I Q := by
  obtain ⟨hn, ⟨f0, f1⟩, hk⟩ := hR
  unfold V_Lo_at
  rw [hn]
  refine ⟨fun q => by rw [if_neg (by omega)] at hQ; exact hQ, fun q1 => ⟨fun q => by rw [if_neg (by omega)] at hQ; exact hQ, fun q2 => ⟨fun q => by rw [if_neg (by omega)] at hQ; exact hQ, fun q3 => ⟨fun q4 => ⟨by omega, by omega, ?_⟩, fun q => by rw [if_neg (by omega)] at hQ; exact hQ⟩⟩⟩⟩
  intro y hy
  have h1 := hk x1 x2 q1 q2 q3 q4
  rw [if_pos (by omega)] at hQ
  rw [show (I c 1 + 50 - 1 - x1) % 50 = (I c 1 + 49 - x1) % 50 by congr 1; omega] at hy
  subst hy
  rw [h1]
  exact ⟨by omega, hQ⟩
theorem s_loCopy {c c1 : Int} {I : Mm} {M : Rw} {Q : Mm → Prop} (hR : RLo I c1 M) (h0 : 0 ≤ M 7 ∧ M 7 ≤ 50) (hd : c1 + 2 ≤ c ∨ c + 2 ≤ c1) (hQ : ∀ I' : Mm, RLo I' c M → (∀ a : Int, ¬ (c ≤ a ∧ a < c + 2) → I' a = I a) → Q I') : V_Lo_copyFrom c c1 I Q := by
  obtain ⟨hn, ⟨f0, f1⟩, hk⟩ := hR
  unfold V_Lo_copyFrom
  have e0 : wrM I c 0 (I c1 0) c1 1 = I c1 1 := by clear hk; grind [wrM]
  rw [e0]
  have e1 : cpM (wrM (wrM I c 0 (I c1 0)) c 1 (I c1 1)) (c1 + 1) 0 (c + 1) 0 200 c 1 = I c1 1 := by clear hk; grind [wrM, cpM]
  refine hQ _ ⟨?_, ?_, fun k p k0 k1 p0 p1 => ?_⟩ (fun a ha => ?_)
  · clear hk; grind [wrM, cpM]
  · rw [e1]; omega
  · rw [e1]
    have h1 := hk k p k0 k1 p0 p1
    have h2 : 0 ≤ (I c1 1 + 49 - k) % 50 * 4 + p ∧ (I c1 1 + 49 - k) % 50 * 4 + p < 200 := by omega
    generalize (I c1 1 + 49 - k) % 50 * 4 + p = s at *
    clear hk; grind [wrM, cpM]
  · clear hk; grind [wrM, cpM]
