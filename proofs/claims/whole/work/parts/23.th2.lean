theorem s_has {c x1 : Int} {I : Mm} {Q : Int → Mm → Prop} (h1 : 0 ≤ x1 → x1 < I c 0 → Q 1 I) (h0 : ¬ (0 ≤ x1 ∧ x1 < I c 0) → Q 0 I) : V_Th_has c x1 I Q := by
  unfold V_Th_has
  grind
theorem s_removeAt {c x1 : Int} {I : Mm} {M : Rw} {Q : Mm → Prop} (hR : RTh I c M) (h0 : 0 ≤ M 0 ∧ M 0 ≤ 200) (hp : 0 ≤ x1 ∧ x1 < M 0) (hQ : ∀ I' : Mm, RTh I' c (delR M x1) → (∀ a : Int, ¬ (c ≤ a ∧ a < c + 4) → I' a = I a) → Q I') : V_Th_removeAt c x1 I Q := by
  unfold V_Th_removeAt
  obtain ⟨hn, hk⟩ := hR
  refine s_has (fun _ _ => ⟨fun _ => ⟨by omega, ?_⟩, fun q => by omega⟩) (fun q => by omega)
  intro y hy
  have e : y = M 0 - 1 - x1 := by rw [hy, wr_s, hn]
  subst e
  refine ⟨by omega, by omega, by omega, by omega, by omega, by omega, by omega, by omega, by omega, by omega, by omega, by omega, by omega, by omega, by omega, hQ _ ⟨?_, fun k a b => ⟨?_, ?_, ?_⟩⟩ (fun a ha => ?_)⟩
  all_goals grind [wrM, cpM, delR]
/-- the first place below n with p; none: -1 -/
def fstB (p : Int → Bool) : Nat → Int
  | 0 => -1
  | n + 1 => if fstB p n = -1 then (if p (n : Int) then (n : Int) else -1) else fstB p n
theorem fstB_is (p : Int → Bool) : ∀ n : Nat, (fstB p n = -1 ∧ ∀ k : Int, 0 ≤ k → k < n → p k = false) ∨ ((0 ≤ fstB p n ∧ fstB p n < n) ∧ p (fstB p n) = true ∧ ∀ k : Int, 0 ≤ k → k < fstB p n → p k = false)
  | 0 => Or.inl ⟨rfl, fun k a b => by omega⟩
  | n + 1 => by
    have ih := fstB_is p n
    unfold fstB
    grind
/-- a scan that stops at the first place with p, or at the end -/
theorem lp_first {P : Nat → Nat → Prop} (p : Int → Bool) (n : Nat) (h0 : (∀ k : Int, 0 ≤ k → k < n → p k = false) → ∀ f, P (f + 1) n) (h1 : ∀ i f : Nat, (i : Int) = fstB p n → i < n → p (i : Int) = true → P (f + 1) i) (h2 : ∀ i f : Nat, i < n → p (i : Int) = false → P f (i + 1) → P (f + 1) i) : ∃ f, P f 0 := by
  rcases fstB_is p n with ⟨_, b⟩ | ⟨⟨a1, a2⟩, b, d⟩
  · exact lp n (h0 b) (fun i f hi ih => h2 i f hi (b _ (by omega) (by omega)) ih)
  · obtain ⟨q, hq⟩ := nat_of a1
    exact lp q (fun f => h1 q f hq.symm (by omega) (by rw [← hq]; exact b)) (fun i f hi ih => h2 i f (by omega) (d _ (by omega) (by omega)) ih)
def plcR (M : Rw) (num : Int) : Int := fstB (fun k => decide (M (380 + k) = num)) (M 0).toNat
def fnmR (M : Rw) (nam : Int) : Int := fstB (fun k => decide (M (580 + k) = nam)) (M 0).toNat
def cnmR (M : Rw) (nam : Int) : Int := cntB (fun k => decide (M (580 + k) = nam)) (M 0).toNat
theorem plcR_is (M : Rw) (num : Int) : (plcR M num = -1 ∧ ∀ k : Int, 0 ≤ k → k < M 0 → M (380 + k) ≠ num) ∨ ((0 ≤ plcR M num ∧ plcR M num < M 0) ∧ M (380 + plcR M num) = num ∧ ∀ k : Int, 0 ≤ k → k < plcR M num → M (380 + k) ≠ num) := by
  have h := fstB_is (fun k => decide (M (380 + k) = num)) (M 0).toNat
  unfold plcR
  grind
theorem fnmR_is (M : Rw) (nam : Int) : (fnmR M nam = -1 ∧ ∀ k : Int, 0 ≤ k → k < M 0 → M (580 + k) ≠ nam) ∨ ((0 ≤ fnmR M nam ∧ fnmR M nam < M 0) ∧ M (580 + fnmR M nam) = nam ∧ ∀ k : Int, 0 ≤ k → k < fnmR M nam → M (580 + k) ≠ nam) := by
  have h := fstB_is (fun k => decide (M (580 + k) = nam)) (M 0).toNat
  unfold fnmR
  grind
theorem s_placeOf {c x1 : Int} {I : Mm} {M : Rw} {Q : Int → Mm → Prop} (hR : RTh I c M) (h0 : 0 ≤ M 0 ∧ M 0 ≤ 200) (hQ : Q (plcR M x1) I) : V_Th_placeOf c x1 I Q := by
  obtain ⟨hn, hk⟩ := hR
  unfold V_Th_placeOf
  refine lp_first (P := fun f i => L_Th_placeOf_2 c x1 Q f (i : Int) I) (fun k => decide (M (380 + k) = x1)) (M 0).toNat (fun b f => ?_) (fun i f e hi b => ?_) (fun i f hi b ih => ?_)
  · have e : plcR M x1 = -1 := by
      have h := plcR_is M x1
      grind
    unfold L_Th_placeOf_2
    grind
  · have e : plcR M x1 = i := by rw [e]; rfl
    have h1 := hk i
    unfold L_Th_placeOf_2
    grind
  · have h1 := hk i
    unfold L_Th_placeOf_2
    grind
theorem s_firstOf {c x1 : Int} {I : Mm} {M : Rw} {Q : Int → Mm → Prop} (hR : RTh I c M) (h0 : 0 ≤ M 0 ∧ M 0 ≤ 200) (hQ : Q (fnmR M x1) I) : V_Th_firstOf c x1 I Q := by
  obtain ⟨hn, hk⟩ := hR
  unfold V_Th_firstOf
  refine lp_first (P := fun f i => L_Th_firstOf_2 c x1 Q f (i : Int) I) (fun k => decide (M (580 + k) = x1)) (M 0).toNat (fun b f => ?_) (fun i f e hi b => ?_) (fun i f hi b ih => ?_)
  · have e : fnmR M x1 = -1 := by
      have h := fnmR_is M x1
      grind
    unfold L_Th_firstOf_2
    grind
  · have e : fnmR M x1 = i := by rw [e]; rfl
    have h1 := hk i
    unfold L_Th_firstOf_2
    grind
  · have h1 := hk i
    unfold L_Th_firstOf_2
    grind
theorem s_countOf {c x1 : Int} {I : Mm} {M : Rw} {Q : Int → Mm → Prop} (hR : RTh I c M) (h0 : 0 ≤ M 0 ∧ M 0 ≤ 200) (hQ : Q (cnmR M x1) I) : V_Th_countOf c x1 I Q := by
  obtain ⟨hn, hk⟩ := hR
  unfold V_Th_countOf
  refine lp (P := fun f i => L_Th_countOf_4 c x1 Q f (cntB (fun k => decide (M (580 + k) = x1)) i) (i : Int) I) (M 0).toNat (fun f => ?_) (fun i f hi ih => ?_)
  · unfold L_Th_countOf_4
    have e : cnmR M x1 = cntB (fun k => decide (M (580 + k) = x1)) (M 0).toNat := rfl
    grind
  · have h1 := cntB_rng (fun k => decide (M (580 + k) = x1)) i
    have h2 := hk i
    unfold L_Th_countOf_4
    grind [cntB]
theorem s_firstHourOf {c x1 : Int} {I : Mm} {M : Rw} {Q : Int → Mm → Prop} (hR : RTh I c M) (h0 : 0 ≤ M 0 ∧ M 0 ≤ 200) (hQ : Q (if fnmR M x1 = -1 then -2 else M (780 + fnmR M x1)) I) : V_Th_firstHourOf c x1 I Q := by
  unfold V_Th_firstHourOf
  refine s_firstOf hR h0 ?_
  have h1 := fnmR_is M x1
  have h2 := hR.2 (fnmR M x1)
  grind
/-- the last place with a name -/
theorem s_lastHourOf {c x1 : Int} {I : Mm} {M : Rw} {Q : Int → Mm → Prop} (hR : RTh I c M) (h0 : 0 ≤ M 0 ∧ M 0 ≤ 200) (q : Int) (hq : 0 ≤ q ∧ q < M 0) (hq1 : M (580 + q) = x1) (hq2 : ∀ k : Int, q < k → k < M 0 → M (580 + k) ≠ x1) (hQ : Q (M (780 + q)) I) : V_Th_lastHourOf c x1 I Q := by
  obtain ⟨hn, hk⟩ := hR
  unfold V_Th_lastHourOf
  refine ⟨by omega, ?_⟩
  obtain ⟨a, ha⟩ := nat_of (show 0 ≤ M 0 - 1 - q by omega)
  have h := lp (P := fun f i => L_Th_lastHourOf_7 c x1 Q f (M 0 - 1 - (i : Int)) I) a (fun f => ?_) (fun i f hi ih => ?_)
  · obtain ⟨f, h⟩ := h
    exact ⟨f, by rw [hn]; simpa using h⟩
  · have e : M 0 - 1 - (a : Int) = q := by omega
    have h1 := hk q
    unfold L_Th_lastHourOf_7
    rw [e]
    grind
  · have h1 := hk (M 0 - 1 - (i : Int))
    have h2 := hq2 (M 0 - 1 - (i : Int))
    unfold L_Th_lastHourOf_7
    grind
theorem s_pickAll {c x1 r2 : Int} {I : Mm} {M : Rw} {Q : Int → Mm → Prop} (hR : RTh I c M) (h0 : 0 ≤ M 0 ∧ M 0 ≤ 200) (hr : ¬ (c ≤ r2 ∧ r2 < c + 4)) (hQ : ∀ I' : Mm, (∀ k : Int, 0 ≤ k → k < M 0 → M (580 + k) = x1 → I' r2 (cntB (fun k => decide (M (580 + k) = x1)) k.toNat) = M (380 + k)) → (∀ a : Int, a ≠ r2 → I' a = I a) → Q (cnmR M x1) I') : V_Th_pickAll c x1 r2 I Q := by
  obtain ⟨hn, hk⟩ := hR
  unfold V_Th_pickAll
  have key : ∀ m i : Nat, ∀ I' : Mm, i + m = (M 0).toNat → (∀ a : Int, a ≠ r2 → I' a = I a) → (∀ k : Int, 0 ≤ k → k < i → M (580 + k) = x1 → I' r2 (cntB (fun k => decide (M (580 + k) = x1)) k.toNat) = M (380 + k)) → L_Th_pickAll_5 c x1 r2 Q (m + 1) (cntB (fun k => decide (M (580 + k) = x1)) i) (i : Int) I' := by
    intro m
    induction m with
    | zero =>
      intro i I' hi ho hl
      have e0 := ho c (by omega)
      have e : cnmR M x1 = cntB (fun k => decide (M (580 + k) = x1)) (M 0).toNat := rfl
      have h3 := hQ I' (fun k a b => hl k a (by omega)) ho
      unfold L_Th_pickAll_5
      grind
    | succ m ih =>
      intro i I' hi ho hl
      have e0 := ho c (by omega)
      have e1 := ho (c + 1) (by omega)
      have e2 := ho (c + 2) (by omega)
      have h1 := cntB_rng (fun k => decide (M (580 + k) = x1)) i
      have h2 := hk i
      unfold L_Th_pickAll_5
      rw [e0, e1, e2, hn]
      refine ⟨fun _ => by omega, fun _ => ⟨by omega, fun b => ⟨by omega, ?_⟩, fun b => ⟨fun _ => by omega, fun _ => ⟨by omega, by omega, by omega, by omega, ?_⟩⟩⟩⟩
      · have h3 := ih (i + 1) I' (by omega) ho (fun k a b d => by
          by_cases e : k = i
          · subst e; grind
          · exact hl k a (by omega) d)
        grind [cntB]
      · have h3 := ih (i + 1) (wrM I' r2 (cntB (fun k => decide (M (580 + k) = x1)) i) (I (c + 1) (i : Int))) (by omega) (fun a ha => by rw [wr_oth _ ha]; exact ho a ha) (fun k a b d => by
          by_cases e : k = i
          · subst e
            rw [Int.toNat_natCast, wr_s]
            grind
          · have h4 := hl k a (by omega) d
            have h5 : cntB (fun k => decide (M (580 + k) = x1)) k.toNat < cntB (fun k => decide (M (580 + k) = x1)) i := by
              have h6 := cntB_lt (fun k => decide (M (580 + k) = x1)) k.toNat i (by omega) (by rw [show ((k.toNat : Nat) : Int) = k by omega]; simpa using d)
              omega
            rw [wr_n (by omega)]
            exact h4)
        grind [cntB]
  exact ⟨_, key (M 0).toNat 0 I (by omega) (fun _ _ => rfl) (fun k a b => by omega)⟩
