/-! tell: what both readers do, on the bytes; the class's reader -/
def runD (c : Int → Bool) (B : Rw) (p : Int) : Nat := (fstB (fun k => !(c (B (p + k)))) 401).toNat
theorem run_is {c : Int → Bool} {T : Int → Int} {l p : Int} (hc : c (-1) = false) (hp : 0 ≤ p ∧ p ≤ l) (hl : l ≤ 400) : p + (runD c (byt T l) p : Nat) ≤ l ∧ (∀ k : Int, 0 ≤ k → k < (runD c (byt T l) p : Nat) → c (byt T l (p + k)) = true) ∧ c (byt T l (p + (runD c (byt T l) p : Nat))) = false := by
  have hout : ∀ k : Int, l ≤ p + k → c (byt T l (p + k)) = false := fun k h => by rw [byt_out h]; exact hc
  unfold runD
  rcases fstB_is (fun k => !(c (byt T l (p + k)))) 401 with ⟨-, h2⟩ | ⟨h1, h2, h3⟩
  · have := h2 (l - p) (by omega) (by omega)
    rw [hout (l - p) (by omega)] at this
    exact absurd this (by decide)
  · generalize fstB (fun k => !(c (byt T l (p + k)))) 401 = d at h1 h2 h3 ⊢
    have e : ((d.toNat : Nat) : Int) = d := by omega
    rw [e]
    refine ⟨?_, fun k a b => ?_, ?_⟩
    · by_cases w : p + d ≤ l
      · exact w
      · have := h3 (l - p) (by omega) (by omega)
        rw [hout (l - p) (by omega)] at this
        exact absurd this (by decide)
    · have := h3 k a b
      simpa using this
    · simpa using h2
def isB (x : Int) : Bool := decide (x = 32)
def isD (x : Int) : Bool := decide (48 ≤ x ∧ x ≤ 57)
def isAz (x : Int) : Bool := decide (97 ≤ x ∧ x ≤ 122)
def skR (B : Rw) (p : Int) : Int := p + (runD isB B p : Nat)
theorem sk_is {T : Int → Int} {l p : Int} (hp : 0 ≤ p ∧ p ≤ l) (hl : l ≤ 400) : (p ≤ skR (byt T l) p ∧ skR (byt T l) p ≤ l) ∧ byt T l (skR (byt T l) p) ≠ 32 := by
  obtain ⟨h1, h2, h3⟩ := run_is (T := T) (c := isB) (by decide) hp hl
  unfold skR
  exact ⟨⟨by omega, h1⟩, fun q => by rw [q] at h3; exact absurd h3 (by decide)⟩
theorem run_0 {c : Int → Bool} {T : Int → Int} {l p : Int} (hc : c (-1) = false) (hp : 0 ≤ p ∧ p ≤ l) (hl : l ≤ 400) (h : c (byt T l p) = false) : runD c (byt T l) p = 0 := by
  obtain ⟨-, h2, -⟩ := run_is (T := T) hc hp hl
  by_cases q : runD c (byt T l) p = 0
  · exact q
  · have := h2 0 (Int.le_refl _) (by omega)
    rw [Int.add_zero, h] at this
    exact absurd this (by decide)
theorem sk_sk {T : Int → Int} {l p : Int} (hp : 0 ≤ p ∧ p ≤ l) (hl : l ≤ 400) : skR (byt T l) (skR (byt T l) p) = skR (byt T l) p := by
  obtain ⟨h1, h2⟩ := sk_is (T := T) hp hl
  have := run_0 (T := T) (c := isB) (by decide) ⟨show 0 ≤ skR (byt T l) p by omega, h1.2⟩ hl (by unfold isB; exact decide_eq_false h2)
  show skR (byt T l) p + _ = _
  rw [this]
  omega
/-- the numbers as the class and as the reference read them -/
def vC (B : Rw) (q : Int) : Nat → Int
  | 0 => 0
  | n + 1 => if vC B q n ≤ 999999999 then 10 * vC B q n + B (q + (n : Int)) - 48 else vC B q n
def vM (B : Rw) (q : Int) : Nat → Int
  | 0 => 0
  | n + 1 => if vM B q n < 10000000000 then 10 * vM B q n + B (q + (n : Int)) - 48 else vM B q n
theorem v_is {B : Rw} {q : Int} : ∀ n : Nat, (∀ k : Int, 0 ≤ k → k < n → isD (B (q + k)) = true) → (0 ≤ vC B q n ∧ vC B q n ≤ 9999999999) ∧ (0 ≤ vM B q n ∧ vM B q n ≤ 99999999999) ∧ (vC B q n = vM B q n ∧ vC B q n ≤ 999999999 ∨ 999999999 < vC B q n ∧ 999999999 < vM B q n)
  | 0, _ => by
    have e1 : vC B q 0 = 0 := rfl
    have e2 : vM B q 0 = 0 := rfl
    rw [e1, e2]
    omega
  | n + 1, h => by
    obtain ⟨a, b, c⟩ := v_is n (fun k x y => h k x (by omega))
    have d := of_decide_eq_true (h (n : Int) (by omega) (by omega))
    unfold vC vM
    split <;> split <;> omega
def dgD (B : Rw) (q : Int) : Nat := runD isD B q
def nuE (B : Rw) (p lo hi : Int) : Int := if dgD B (skR B p) = 0 then 8 * skR B p + 1 else if vC B (skR B p) (dgD B (skR B p)) < lo ∨ hi < vC B (skR B p) (dgD B (skR B p)) then 8 * skR B p + 2 else 0
def nuP (B : Rw) (p : Int) : Int := skR B p + (dgD B (skR B p) : Nat)
def nuV (B : Rw) (p : Int) : Int := vC B (skR B p) (dgD B (skR B p))
/-- a word at a place -/
def isW (B : Rw) (q : Int) (w : Nat) : Prop := (∀ k : Int, 0 ≤ k → k < slenI w → B (q + k) = sch w k) ∧ isAz (B (q + slenI w)) = false
/-- letters -/
def ltD (B : Rw) (q : Int) : Nat := runD isAz B q
def naE (B : Rw) (M : Rw) (p : Int) : Int := if ltD B (skR B p) = 0 then 8 * skR B p + 1 else if 6 < ltD B (skR B p) then 8 * (skR B p + 6) + 2 else if fwdR M (wrd B (skR B p) (ltD B (skR B p))) = -1 ∧ M 4 = 16 then 8 * skR B p + 3 else 0
def naP (B : Rw) (p : Int) : Int := skR B p + (ltD B (skR B p) : Nat)
def naV (B : Rw) (M : Rw) (p : Int) : Int := if fwdR M (wrd B (skR B p) (ltD B (skR B p))) = -1 then M 4 else fwdR M (wrd B (skR B p) (ltD B (skR B p)))
def naM (B : Rw) (M : Rw) (p : Int) : Rw := if fwdR M (wrd B (skR B p) (ltD B (skR B p))) = -1 then nadR M B (skR B p) (ltD B (skR B p)) else M
theorem lt_ltr {T : Int → Int} {l q : Int} (hq : 0 ≤ q ∧ q ≤ l) (hl : l ≤ 400) : ltr (byt T l) q (ltD (byt T l) q) := fun k a b => of_decide_eq_true ((run_is (T := T) (c := isAz) (by decide) hq hl).2.1 k a b)
theorem na_ok {G : Int} {T : Int → Int} {l p : Int} {M : Rw} (hW : WF G M) (hp : 0 ≤ p ∧ p ≤ l) (hl : l ≤ 400) (h : naE (byt T l) M p = 0) : (1 ≤ ltD (byt T l) (skR (byt T l) p) ∧ ltD (byt T l) (skR (byt T l) p) ≤ 6) ∧ WF G (naM (byt T l) M p) ∧ (0 ≤ naV (byt T l) M p ∧ naV (byt T l) M p < naM (byt T l) M p 4) ∧ (∀ j : Int, j ≠ 4 → (j < 48 ∨ 144 ≤ j) → naM (byt T l) M p j = M j) ∧ M 4 ≤ naM (byt T l) M p 4 := by
  have hs := (sk_is (T := T) hp hl).1
  have b4 := hW.1.2.2.2.2.1
  have lt := lt_ltr (T := T) (show 0 ≤ skR (byt T l) p ∧ skR (byt T l) p ≤ l by omega) hl
  unfold naE at h
  by_cases c1 : ltD (byt T l) (skR (byt T l) p) = 0
  · rw [if_pos c1] at h; omega
  · rw [if_neg c1] at h
    by_cases c2 : 6 < ltD (byt T l) (skR (byt T l) p)
    · rw [if_pos c2] at h; omega
    · rw [if_neg c2] at h
      have hm : 1 ≤ ltD (byt T l) (skR (byt T l) p) ∧ ltD (byt T l) (skR (byt T l) p) ≤ 6 := by omega
      refine ⟨hm, ?_⟩
      by_cases c3 : fwdR M (wrd (byt T l) (skR (byt T l) p) (ltD (byt T l) (skR (byt T l) p))) = -1 ∧ M 4 = 16
      · rw [if_pos c3] at h; omega
      · unfold naM naV
        by_cases c4 : fwdR M (wrd (byt T l) (skR (byt T l) p) (ltD (byt T l) (skR (byt T l) p))) = -1
        · have h4 : M 4 < 16 := by
            by_cases q : M 4 = 16
            · exact absurd ⟨c4, q⟩ c3
            · omega
          rw [if_pos c4, if_pos c4, nad_4]
          exact ⟨wf_nad hW h4 hm lt, ⟨b4.1, by omega⟩, fun j a b => nad_o a (by omega), by omega⟩
        · rw [if_neg c4, if_neg c4]
          have := fwdR_is M (wrd (byt T l) (skR (byt T l) p) (ltD (byt T l) (skR (byt T l) p)))
          exact ⟨hW, by omega, fun _ _ _ => rfl, Int.le_refl _⟩
/-- the class's reader: e the fault so far, p where it stands, M what it has read -/
def CSt (I0 I : Mm) (l : Int) (T : Int → Int) (G e p : Int) (M : Rw) : Prop := RepC I 17 M ∧ WF G M ∧ TpC I l T ∧ (I 35 3 = e ∧ 0 ≤ e ∧ e ≤ 4000) ∧ (I 35 2 = p ∧ 0 ≤ p ∧ p ≤ l) ∧ ∀ a : Int, ¬ (17 ≤ a ∧ a < 33) → a ≠ 35 → I a = I0 a
theorem c_at {I0 I : Mm} {l : Int} {T : Int → Int} {G e p p' : Int} {M : Rw} (h : CSt I0 I l T G e p M) (hp : 0 ≤ p' ∧ p' ≤ l) : CSt I0 (wrM I 35 2 p') l T G e p' M := by
  obtain ⟨h1, h2, ⟨t1, t2, t3⟩, h4, h5, h6⟩ := h
  exact ⟨rep_fr h1 h2 (fun a x y => wr_oth _ (by omega)), h2, ⟨by rw [wr_oth _ (by decide)]; exact t1, t2, by rw [wr_oth _ (by decide)]; exact t3⟩, ⟨by rw [wr_n (by omega)]; exact h4.1, h4.2⟩, ⟨wr_s _ _ _ _, hp⟩, fun a x y => by rw [wr_oth _ y]; exact h6 a x y⟩
theorem c_er {I0 I : Mm} {l : Int} {T : Int → Int} {G e e' p : Int} {M : Rw} (h : CSt I0 I l T G e p M) (he : 0 ≤ e' ∧ e' ≤ 4000) : CSt I0 (wrM I 35 3 e') l T G e' p M := by
  obtain ⟨h1, h2, ⟨t1, t2, t3⟩, h4, h5, h6⟩ := h
  exact ⟨rep_fr h1 h2 (fun a x y => wr_oth _ (by omega)), h2, ⟨by rw [wr_oth _ (by decide)]; exact t1, t2, by rw [wr_oth _ (by decide)]; exact t3⟩, ⟨wr_s _ _ _ _, he⟩, ⟨by rw [wr_n (by omega)]; exact h5.1, h5.2⟩, fun a x y => by rw [wr_oth _ y]; exact h6 a x y⟩
theorem c_cal {I0 I I' : Mm} {l : Int} {T : Int → Int} {G G' e p : Int} {M M' : Rw} (h : CSt I0 I l T G e p M) (hR : RepC I' 17 M') (hF : Frm 17 I I') (hW : WF G' M') : CSt I0 I' l T G' e p M' := by
  obtain ⟨h1, h2, ⟨t1, t2, t3⟩, h4, h5, h6⟩ := h
  exact ⟨hR, hW, ⟨by rw [hF 33 (by omega)]; exact t1, t2, by rw [hF 34 (by omega)]; exact t3⟩, by rw [hF 35 (by omega)]; exact h4, by rw [hF 35 (by omega)]; exact h5, fun a x y => by rw [hF a (by omega)]; exact h6 a x y⟩
theorem c_skip {I0 I : Mm} {l : Int} {T : Int → Int} {G e p : Int} {M : Rw} {Q : Mm → Prop} (h : CSt I0 I l T G e p M) (hQ : ∀ I' : Mm, CSt I0 I' l T G e (skR (byt T l) p) M → Q I') : V_Re_skipBlanks I Q := by
  have hl := h.2.2.1.2.1
  have hp := h.2.2.2.2.1.2
  obtain ⟨r1, r2, r3⟩ := run_is (T := T) (c := isB) (by decide) hp hl.2
  have r3' := of_decide_eq_false r3
  unfold V_Re_skipBlanks
  refine lpr (P := fun f i I1 => L_Re_skipBlanks_0 Q f I1) (S := fun i I1 => CSt I0 I1 l T G e (p + (i : Int)) M) (runD isB (byt T l) p) (by rw [show p + ((0 : Nat) : Int) = p by omega]; exact h) ?_ ?_
  · intro n I1 hS
    unfold L_Re_skipBlanks_0
    rw [hS.2.2.1.1, hS.2.2.2.2.1.1]
    refine ⟨fun _ => hQ _ hS, fun _ => s_taAt hS.2.2.1 ⟨fun _ => hQ _ hS, fun q => absurd q r3'⟩⟩
  · intro i n I1 hi hS ih
    have hb := of_decide_eq_true (r2 (i : Int) (by omega) (by omega))
    unfold L_Re_skipBlanks_0
    rw [hS.2.2.1.1, hS.2.2.2.2.1.1]
    refine ⟨fun q => by omega, fun _ => s_taAt hS.2.2.1 ⟨fun q => absurd hb q, fun _ => ?_⟩⟩
    rw [hS.2.2.2.2.1.1]
    refine ⟨by omega, ih _ ?_⟩
    have := c_at hS (p' := p + (i : Int) + 1) (by omega)
    rw [show p + ((i + 1 : Nat) : Int) = p + (i : Int) + 1 by omega]
    exact this
theorem c_fail {I0 I : Mm} {l : Int} {T : Int → Int} {G e p x k : Int} {M : Rw} {Q : Mm → Prop} (h : CSt I0 I l T G e p M) (hx : 0 ≤ x ∧ x ≤ 406) (hk : 1 ≤ k ∧ k ≤ 4) (hQ : ∀ I' : Mm, CSt I0 I' l T G (if e = 0 then 8 * x + k else e) p M → Q I') : V_Re_fail x k I Q := by
  unfold V_Re_fail
  rw [h.2.2.2.1.1]
  refine ⟨fun q => hQ _ (by rw [if_neg q]; exact h), fun q => ⟨by omega, hQ _ ?_⟩⟩
  rw [if_pos q]
  exact c_er h (by omega)
theorem slen_nn (w : Nat) : 0 ≤ slenI w := by unfold slenI; omega
theorem c_passes {I0 I : Mm} {l : Int} {T : Int → Int} {G e p : Int} {M : Rw} {w : Nat} {Q : Int → Mm → Prop} (h : CSt I0 I l T G e p M) (hw : slenI w ≤ 100) (hch : ∀ k : Int, 0 ≤ k → k < slenI w → 0 ≤ sch w k) (h1 : isW (byt T l) p w → ∀ I' : Mm, CSt I0 I' l T G e (p + slenI w) M → Q 1 I') (h0 : ¬ isW (byt T l) p w → Q 0 I) : V_Re_passes w I Q := by
  have hl := h.2.2.1.2.1
  have hp := h.2.2.2.2.1
  have hn := slen_nn w
  unfold V_Re_passes
  refine lp_first (P := fun f i => L_Re_passes_2 w Q _ f (i : Int) I) (fun k => decide (¬ byt T l (p + k) = sch w k)) (slenI w).toNat (fun hall f => ?_) (fun i f hi hi2 hb => ?_) (fun i f hi hb ih => ?_)
  · have hall' : ∀ k : Int, 0 ≤ k → k < slenI w → byt T l (p + k) = sch w k := fun k a b => by
      have := hall k a (by omega)
      exact Classical.not_not.1 (of_decide_eq_false this)
    have hle : p + slenI w ≤ l := by
      by_cases q : slenI w = 0
      · omega
      · have e1 := hall' (slenI w - 1) (by omega) (by omega)
        have e2 := hch (slenI w - 1) (by omega) (by omega)
        have := byt_in (T := T) (l := l) (k := p + (slenI w - 1)) (by omega)
        omega
    have e : (((slenI w).toNat : Nat) : Int) = slenI w := by omega
    unfold L_Re_passes_2
    rw [e]
    refine ⟨fun _ => ?_, fun q => absurd q (Int.lt_irrefl _)⟩
    rw [hp.1]
    refine ⟨by omega, s_taAt h.2.2.1 (x_isL (fun c d => ⟨fun w => absurd w (by decide), fun _ => h0 (fun z => ?_)⟩) (fun q => ⟨fun _ => ?_, fun w => absurd rfl w⟩))⟩
    · have := of_decide_eq_false z.2
      exact this ⟨c, d⟩
    · rw [hp.1]
      exact ⟨by omega, h1 ⟨hall', decide_eq_false q⟩ _ (c_at h (by omega))⟩
  · have hb' := of_decide_eq_true hb
    unfold L_Re_passes_2
    rw [hp.1]
    exact ⟨fun q => by omega, fun q => ⟨by omega, s_taAt h.2.2.1 ⟨by omega, fun w => absurd w hb', fun _ => h0 (fun z => hb' (z.1 (i : Int) (by omega) q))⟩⟩⟩
  · have hb' := Classical.not_not.1 (of_decide_eq_false hb)
    unfold L_Re_passes_2
    rw [hp.1]
    exact ⟨fun q => by omega, fun q => ⟨by omega, s_taAt h.2.2.1 ⟨by omega, fun _ => ⟨by omega, ih⟩, fun w => absurd hb' w⟩⟩⟩
theorem x_isDg {x : Int} {I : Mm} {Q : Int → Mm → Prop} (h1 : 48 ≤ x → x ≤ 57 → Q 1 I) (h0 : ¬ (48 ≤ x ∧ x ≤ 57) → Q 0 I) : V_X_isDigit x I Q :=
  ⟨fun q => h0 (by omega), fun q => ⟨fun r => h0 (by omega), fun r => h1 q r⟩⟩
theorem c_numLoop {I0 I1 : Mm} {l : Int} {T : Int → Int} {G e q lo hi : Int} {M : Rw} {Q : Int → Mm → Prop} {K : Int → Mm → Prop} (h1 : CSt I0 I1 l T G e q M) (fin : ∀ I2 : Mm, CSt I0 I2 l T G e (q + (runD isD (byt T l) q : Nat)) M → K (vC (byt T l) q (runD isD (byt T l) q)) I2) : ∃ f : Nat, L_Re_readNumber_12 lo hi q Q K f 0 I1 := by
  have hl := h1.2.2.1.2.1
  have hq := h1.2.2.2.2.1.2
  obtain ⟨r1, r2, r3⟩ := run_is (T := T) (c := isD) (by decide) hq hl.2
  have r3' := of_decide_eq_false r3
  have g : ∃ f, L_Re_readNumber_12 lo hi q Q K f (vC (byt T l) q 0) I1 := by
    refine lps (σ := Mm) (P := fun f i I2 => L_Re_readNumber_12 lo hi q Q K f (vC (byt T l) q i) I2) (S := fun i I2 => CSt I0 I2 l T G e (q + (i : Int)) M) (s := I1) (runD isD (byt T l) q) (by rw [show q + ((0 : Nat) : Int) = q by omega]; exact h1) ?_ ?_
    · intro n I2 hS
      unfold L_Re_readNumber_12
      rw [hS.2.2.1.1]
      refine ⟨fun _ => fin I2 hS, fun _ => ?_⟩
      rw [hS.2.2.2.2.1.1]
      exact s_taAt hS.2.2.1 (x_isDg (fun a b => absurd ⟨a, b⟩ r3') (fun _ => ⟨fun _ => fin I2 hS, fun w => absurd rfl w⟩))
    · intro i n I2 hi2 hS ih
      have hb2 := of_decide_eq_true (r2 (i : Int) (by omega) (by omega))
      have hv2 := v_is (B := byt T l) (q := q) i (fun k a b => r2 k a (by omega))
      have ih2 : L_Re_readNumber_12 lo hi q Q K n (vC (byt T l) q (i + 1)) (wrM I2 35 2 (q + (i : Int) + 1)) := ih _ (by rw [show q + ((i + 1 : Nat) : Int) = q + (i : Int) + 1 by omega]; exact c_at hS (by omega))
      unfold L_Re_readNumber_12
      rw [hS.2.2.1.1, hS.2.2.2.2.1.1]
      refine ⟨fun w => by omega, fun _ => s_taAt hS.2.2.1 (x_isDg (fun _ _ => ⟨fun w => absurd w (by decide), fun _ => ⟨by omega, fun w => ?_, fun w => ?_⟩⟩) (fun w => absurd hb2 w))⟩
      · rw [hS.2.2.2.2.1.1]
        have e : vC (byt T l) q (i + 1) = vC (byt T l) q i := by show (if vC (byt T l) q i ≤ 999999999 then _ else _) = _; rw [if_neg (by omega)]
        rw [e] at ih2
        exact ⟨by omega, ih2⟩
      · rw [hS.2.2.2.2.1.1]
        refine s_taAt hS.2.2.1 ?_
        rw [hS.2.2.2.2.1.1]
        have e : vC (byt T l) q (i + 1) = 10 * vC (byt T l) q i + byt T l (q + (i : Int)) - 48 := by show (if vC (byt T l) q i ≤ 999999999 then _ else _) = _; rw [if_pos w]
        rw [e] at ih2
        exact ⟨by omega, ih2⟩
  exact g
/-- a number: e is the fault ahead of it -/
theorem c_num {I0 I : Mm} {l : Int} {T : Int → Int} {G e p lo hi : Int} {M : Rw} {Q : Int → Mm → Prop} (h : CSt I0 I l T G e p M) (hlo : 0 ≤ lo) (hhi : hi ≤ 999999999) (hg : e = 0 → nuE (byt T l) p lo hi = 0 → (lo ≤ nuV (byt T l) p ∧ nuV (byt T l) p ≤ hi) → ∀ I' : Mm, CSt I0 I' l T G 0 (nuP (byt T l) p) M → Q (nuV (byt T l) p) I') (hb : (if e = 0 then nuE (byt T l) p lo hi else e) ≠ 0 → ∀ I' : Mm, CSt I0 I' l T G (if e = 0 then nuE (byt T l) p lo hi else e) (nuP (byt T l) p) M → Q lo I') : V_Re_readNumber lo hi I Q := by
  have hl := h.2.2.1.2.1
  have hp := h.2.2.2.2.1.2
  have he := h.2.2.2.1.2
  unfold V_Re_readNumber
  refine c_skip h (fun I1 h1 => ?_)
  have hq := (sk_is (T := T) hp hl.2).1
  rw [h1.2.2.2.2.1.1]
  unfold nuE nuV nuP at hg
  unfold nuE nuP at hb
  generalize skR (byt T l) p = q at h1 hq hg hb ⊢
  obtain ⟨r1, r2, r3⟩ := run_is (T := T) (c := isD) (by decide) (show 0 ≤ q ∧ q ≤ l by omega) hl.2
  have r3' := of_decide_eq_false r3
  have hv := v_is (B := byt T l) (q := q) (runD isD (byt T l) q) r2
  unfold dgD at hg hb
  -- the end of it
  have fin : ∀ I2 : Mm, CSt I0 I2 l T G e (q + (runD isD (byt T l) q : Nat)) M → ((¬ I2 35 2 = q → r64 (vC (byt T l) q (runD isD (byt T l) q)) ∧ (vC (byt T l) q (runD isD (byt T l) q) < lo → J_Re_readNumber_123 lo hi Q q (vC (byt T l) q (runD isD (byt T l) q)) I2) ∧
    (lo ≤ vC (byt T l) q (runD isD (byt T l) q) → (vC (byt T l) q (runD isD (byt T l) q) ≤ hi → (¬ I2 35 3 = 0 → Q lo I2) ∧
    (I2 35 3 = 0 → r32 (vC (byt T l) q (runD isD (byt T l) q)) ∧ Q (vC (byt T l) q (runD isD (byt T l) q)) I2)) ∧
    (hi < vC (byt T l) q (runD isD (byt T l) q) → J_Re_readNumber_123 lo hi Q q (vC (byt T l) q (runD isD (byt T l) q)) I2))) ∧
    (I2 35 2 = q → V_Re_fail q 1 I2 (fun I41 => (¬ I41 35 3 = 0 → Q lo I41) ∧
    (I41 35 3 = 0 → r32 (vC (byt T l) q (runD isD (byt T l) q)) ∧ Q (vC (byt T l) q (runD isD (byt T l) q)) I41)))) := fun I2 h2 => by
    rw [h2.2.2.2.2.1.1]
    generalize runD isD (byt T l) q = d at *
    have bad : d ≠ 0 → (vC (byt T l) q d < lo ∨ hi < vC (byt T l) q d) → J_Re_readNumber_123 lo hi Q q (vC (byt T l) q d) I2 := fun hd hc => by
      rw [if_neg hd, if_pos hc] at hb
      unfold J_Re_readNumber_123
      refine c_fail h2 (by omega) (by omega) (fun I3 h3 => ?_)
      have h35 := h3.2.2.2.1.1
      rw [h35]
      refine ⟨fun w => hb w I3 h3, fun w => ?_⟩
      split at w <;> omega
    refine ⟨fun w => ?_, fun w => ?_⟩
    · have hd : d ≠ 0 := by omega
      refine ⟨by omega, fun w2 => bad hd (.inl w2), fun w2 => ⟨fun w3 => ?_, fun w3 => bad hd (.inr w3)⟩⟩
      rw [if_neg hd, if_neg (show ¬ (vC (byt T l) q d < lo ∨ hi < vC (byt T l) q d) by omega)] at hg hb
      rw [h2.2.2.2.1.1]
      refine ⟨fun w4 => hb (by rw [if_neg w4]; exact w4) I2 (by rw [if_neg w4]; exact h2), fun w4 => ⟨by omega, hg w4 rfl ⟨w2, w3⟩ I2 (by rw [w4] at h2; exact h2)⟩⟩
    · have hd : d = 0 := by omega
      rw [if_pos hd] at hb
      refine c_fail h2 (by omega) (by omega) (fun I3 h3 => ?_)
      have h35 := h3.2.2.2.1.1
      rw [h35]
      refine ⟨fun w => hb w I3 h3, fun w => ?_⟩
      split at w <;> omega
  exact c_numLoop h1 fin
