/-! cut, clear, swap, shift -/
theorem m_dueIn {G x1 x3 : Int} {I : Mm} {M : Rw} {Q : Int → Mm → Prop} (hM : I 237 = M) (hW : WF G M) (h13 : x1 ≤ x3) (hQ : Q (nbR M x3 - nbR M x1) I) : V_M_dueIn x1 x3 I Q := by
  have b0 := hW.1.1
  have key : ∀ n : Nat, (n : Int) ≤ M 0 → cntB (fun k => decide (x1 ≤ M (780 + k) ∧ M (780 + k) < x3)) n = cntB (fun k => decide (M (780 + k) < x3)) n - cntB (fun k => decide (M (780 + k) < x1)) n := by
    intro n
    induction n with
    | zero => intro _; rfl
    | succ n ih =>
      intro hn
      rw [cntB_s, cntB_s, cntB_s, ih (by omega)]
      by_cases q1 : M (780 + (n : Int)) < x1
      · rw [if_neg (by simp; omega), if_pos (by simp; omega), if_pos (by simp; omega)]; omega
      · by_cases q3 : M (780 + (n : Int)) < x3
        · rw [if_pos (by simp; omega), if_pos (by simp; omega), if_neg (by simp; omega)]; omega
        · rw [if_neg (by simp; omega), if_neg (by simp; omega), if_neg (by simp; omega)]; omega
  have hk := key (M 0).toNat (by omega)
  have e : nbR M x3 - nbR M x1 = cntB (fun k => decide (x1 ≤ M (780 + k) ∧ M (780 + k) < x3)) (M 0).toNat := by
    rw [hk]; rfl
  rw [e] at hQ
  refine lp (P := fun f i => L_M_dueIn_6 x1 x3 Q f (cntB (fun k => decide (x1 ≤ M (780 + k) ∧ M (780 + k) < x3)) i) (i : Int) I) (M 0).toNat (fun f => ?_) (fun i f hi ih => ?_)
  · simp only [L_M_dueIn_6]
    rw [hM]
    exact ⟨fun _ => hQ, fun q => by omega⟩
  · have r := cntB_rng (fun k => decide (x1 ≤ M (780 + k) ∧ M (780 + k) < x3)) i
    rw [cntB_s] at ih
    simp only [L_M_dueIn_6]
    rw [hM]
    refine ⟨fun q => by omega, fun _ => ⟨by omega, fun q => ⟨by omega, by omega, ?_⟩, fun q => ⟨by omega, fun q2 => ⟨by omega, by omega, ?_⟩, fun q2 => ⟨by omega, by omega, ?_⟩⟩⟩⟩
    · rw [if_neg (by simp; omega)] at ih; exact ih
    · rw [if_neg (by simp; omega)] at ih; exact ih
    · rw [if_pos (by simp; omega)] at ih; exact ih
theorem nb_all {G : Int} {M : Rw} (hW : WF G M) : nbR M 1000000000 = M 0 := by
  obtain ⟨h1, h2, h3⟩ := nbR_is hW 1000000000
  by_cases q : nbR M 1000000000 = M 0
  · exact q
  · have h4 := h3 (nbR M 1000000000) (Int.le_refl _) (by omega)
    have h5 := wf_h hW (nbR M 1000000000) (by omega) (by omega)
    omega
def cutR (p : Int) (M : Rw) : Nat → Rw := itR (fun N => cnlR N p) M
theorem cnl_0 {M : Rw} {p : Int} : cnlR M p 0 = M 0 - 1 := by
  unfold cnlR
  rw [goe_0, mo_ne (by omega)]
theorem cut_0 {p : Int} {M : Rw} : ∀ n : Nat, cutR p M n 0 = M 0 - n
  | 0 => by show M 0 = M 0 - ((0 : Nat) : Int); omega
  | n + 1 => by
    show cnlR (cutR p M n) p 0 = _
    rw [cnl_0, cut_0 n]
    omega
theorem wf_cut {G p : Int} {M : Rw} (hW : WF G M) (hp : 0 ≤ p) : ∀ n : Nat, p + n ≤ M 0 → WF (G + 202 * (n : Int)) (cutR p M n)
  | 0, _ => wf_mono hW (by omega)
  | n + 1, h => by
    have h1 := wf_cut hW hp n (by omega)
    have h2 := wf_cnl h1 (p := p) ⟨hp, by rw [cut_0]; omega⟩
    exact wf_mono h2 (by omega)
theorem r_cut {G x1 : Int} {I : Mm} {M : Rw} {Q : Int → Mm → Prop} (hM : I 237 = M) (hW : WF G M) (e1 : ¬ (0 ≤ x1 ∧ x1 ≤ 999999999) → Q (-1) I) (e2 : (0 ≤ x1 ∧ x1 ≤ 999999999) → M 0 - nbR M x1 = 0 → Q (-2) I) (e3 : (0 ≤ x1 ∧ x1 ≤ 999999999) → ¬ M 0 - nbR M x1 = 0 → V_M_keepsAct I (fun I25 => r32 (I25 237 0 - (M 0 - nbR M x1)) ∧ ∃ f31 : Nat, L_M_cut_47 x1 (M 0 - nbR M x1) (I25 237 0 - (M 0 - nbR M x1)) Q f31 0 I25)) : V_M_cut x1 I Q := by
  unfold V_M_cut
  refine m_in (fun a b => ⟨fun _ => m_dueIn hM hW (by omega) ?_, fun q => absurd q (by decide)⟩) (fun q => ⟨fun q => absurd rfl q, fun _ => e1 q⟩)
  rw [nb_all hW]
  exact ⟨fun q => e3 ⟨a, b⟩ q, fun q => e2 ⟨a, b⟩ q⟩
theorem o_cut {G x1 : Int} {I : Mm} {Q : Mm → Prop} (hI : Inv G I) (hG : G ≤ 2143000000) (hQ : ∀ I' : Mm, Inv (G + 3000000) I' → Q I') : V_X_cut x1 I (fun z I1 => V_M_cut x1 I1 (fun z' I2 => (z = z' → Q I2) ∧ (¬ z = z' → False))) := by
  obtain ⟨M, u, H, k, S, l, T, hC, hR, hA⟩ := hI
  have hst : Q I := hQ I ⟨M, u, H, k, S, l, T, hC, hR, aw_mono hA (by omega)⟩
  have hW := hA.1
  have b0 := hW.1.1
  have hu := hC.2.1.2.1
  have n0 : I (1 + 5) 0 = M 0 := hC.1.2.1.1
  have hM := hR.1
  unfold V_X_cut
  refine x_hour (fun a b => ⟨fun _ => s_firstFrom hC.1.2.1 hW ?_, fun q => absurd q (by decide)⟩) (fun q => ⟨fun q => absurd rfl q, fun _ => r_cut hM hW (fun _ => fin rfl hst) (fun w => absurd w q) (fun w => absurd w q)⟩)
  have nb := (nbR_is hW x1).1
  rw [n0]
  refine ⟨by omega, fun e => ?_, fun e => r_cut hM hW (fun w => absurd ⟨a, b⟩ w) (fun _ _ => fin rfl hst) (fun _ w => absurd e w)⟩
  generalize hp : nbR M x1 = p at *
  have hWn : ∀ n : Nat, (n : Int) ≤ M 0 - p → WF (G + 202 * (n : Int)) (cutR p M n) := fun n hn => wf_cut hW (by omega) n (by omega)
  refine x_rem hC hA (fun I1 C1 F1 => ?_)
  refine lpr (P := fun f i I2 => L_X_cut_55 x1 p (M 0 - p) (fun z I1 => V_M_cut x1 I1 (fun z' I2 => (z = z' → Q I2) ∧ (¬ z = z' → False))) f (i : Int) I2) (S := fun i I2 => RepC I2 1 (cutR p M i) ∧ Frm 1 I1 I2) (M 0 - p).toNat ⟨C1.1, frm_rf 1 I1⟩ ?_ ?_
  · intro n I2 hS
    obtain ⟨R2, F2⟩ := hS
    have hR2 := rs_fr2 hR (I' := I2) (fun a ha => by rw [F2 a (by omega), F1 a (by omega)])
    simp only [L_X_cut_55]
    refine ⟨fun _ => r_cut hR2.1 hW (fun w => absurd ⟨a, b⟩ w) (fun _ w => absurd w (by rw [hp]; exact e)) (fun _ _ => m_keepsAct hR2 hu (fun I3 S3 F3 => ?_)), fun q => by omega⟩
    rw [hp, S3.1]
    refine ⟨by omega, ?_⟩
    rw [show M 0 - (M 0 - p) = p by omega]
    have h3 : I3 = rset I3 (cutR p M 0) := by rw [show cutR p M 0 = M from rfl, ← S3.1]; exact (rs_id I3).symm
    have key := lp (P := fun f i => L_M_cut_47 x1 (M 0 - p) p (fun z' I2 => (M 0 - p = z' → Q I2) ∧ (¬ M 0 - p = z' → False)) f (i : Int) (rset I3 (cutR p M i))) (M 0 - p).toNat (fun f => ?_) (fun i f hi ih => ?_)
    · rw [← h3] at key
      exact key
    · simp only [L_M_cut_47]
      exact ⟨fun _ => ⟨fun _ => hQ _ (act_set hA hu (by omega) (wf_mono (hWn _ (by omega)) (by omega)) C1 R2 F2 S3 F3), fun w => w trivial⟩, fun q => by omega⟩
    · simp only [L_M_cut_47]
      have hc := m_cancel (I := rset I3 (cutR p M i)) (Q := fun I28 => r32 ((i : Int) + 1) ∧ L_M_cut_47 x1 (M 0 - p) p (fun z' I2 => (M 0 - p = z' → Q I2) ∧ (¬ M 0 - p = z' → False)) f ((i : Int) + 1) I28) (rs_237 _ _) (hWn i (by omega)) (p := p) ⟨by omega, by rw [cut_0]; omega⟩ (by omega) ⟨by omega, by rw [rs_rs]; exact ih⟩
      exact ⟨fun q => by omega, fun _ => hc⟩
  · intro i n I2 hi hS ih
    simp only [L_X_cut_55]
    exact ⟨fun q => by omega, fun _ => s_cancelAt hS.1 (hWn i (by omega)) ⟨by omega, by rw [cut_0]; omega⟩ (by omega) (fun I3 R3 F3 => ⟨by omega, ih I3 ⟨R3, frm_tr hS.2 F3⟩⟩)⟩
/-- counting without one place -/
theorem cnt_skip (q : Int → Bool) (p : Nat) : ∀ n : Nat, p ≤ n → cntB (fun k => q (if k < (p : Int) then k else k + 1)) n = cntB q (n + 1) - (if q (p : Int) then 1 else 0) := by
  have low : ∀ m : Nat, m ≤ p → cntB (fun k => q (if k < (p : Int) then k else k + 1)) m = cntB q m := by
    intro m
    induction m with
    | zero => intro _; rfl
    | succ m ih =>
      intro hm
      rw [cntB_s, cntB_s, ih (by omega), if_pos (show (m : Int) < (p : Int) by omega)]
  intro n
  induction n with
  | zero =>
    intro h
    have : p = 0 := by omega
    subst this
    show 0 = cntB q 1 - _
    rw [show (1 : Nat) = 0 + 1 from rfl, cntB_s]
    show (0 : Int) = 0 + (if q ((0 : Nat) : Int) = true then 1 else 0) - _
    omega
  | succ n ih =>
    intro h
    by_cases hp : p = n + 1
    · rw [cntB_s q (n + 1), low (n + 1) (by omega), hp]
      omega
    · rw [cntB_s, ih (by omega), cntB_s q (n + 1), if_neg (show ¬ (n : Int) < (p : Int) by omega)]
      have : ((n + 1 : Nat) : Int) = (n : Int) + 1 := by omega
      rw [this]
      omega
theorem cnm_goe {M : Rw} {nam p : Int} (h0 : 0 ≤ M 0 ∧ M 0 ≤ 200) (hp : 0 ≤ p ∧ p < M 0) : cnmR (goeR M p) nam = cnmR M nam - (if M (580 + p) = nam then 1 else 0) := by
  obtain ⟨s, rfl⟩ := nat_of hp.1
  unfold cnmR
  rw [goe_0]
  have e1 : ∀ n : Nat, (n : Int) ≤ M 0 - 1 → cntB (fun k => decide (goeR M (s : Int) (580 + k) = nam)) n = cntB (fun k => (fun k => decide (M (580 + k) = nam)) (if k < (s : Int) then k else k + 1)) n := by
    intro n
    induction n with
    | zero => intro _; rfl
    | succ n ih =>
      intro hn
      rw [cntB_s, cntB_s, ih (by omega)]
      have e : goeR M (s : Int) (580 + (n : Int)) = delR M (s : Int) (580 + (n : Int)) := shr_hi (by omega)
      rw [e]
      rcases del_k h0 hp (n : Int) (by omega) (by omega) with ⟨q, -, h1, -⟩ | ⟨q, -, h1, -⟩
      · rw [h1, if_pos q]
      · rw [h1, if_neg (show ¬ (n : Int) < (s : Int) by omega)]
  rw [e1 _ (by omega), cnt_skip (fun k => decide (M (580 + k) = nam)) s (M 0 - 1).toNat (by omega)]
  rw [show (M 0 - 1).toNat + 1 = (M 0).toNat by omega]
  by_cases q : M (580 + (s : Int)) = nam
  · rw [if_pos q, if_pos (by simpa using q)]
  · rw [if_neg q, if_neg (by simpa using q)]
theorem cnm_fnm {M : Rw} {nam : Int} (h0 : 0 ≤ M 0) (h : 0 < cnmR M nam) : (0 ≤ fnmR M nam ∧ fnmR M nam < M 0) ∧ M (580 + fnmR M nam) = nam := by
  rcases fnmR_is M nam with ⟨h1, h2⟩ | ⟨h1, h2, -⟩
  · exfalso
    have : ∀ n : Nat, (n : Int) ≤ M 0 → cntB (fun k => decide (M (580 + k) = nam)) n = 0 := by
      intro n
      induction n with
      | zero => intro _; rfl
      | succ n ih =>
        intro hn
        rw [cntB_s, ih (by omega), if_neg (by simpa using h2 (n : Int) (by omega) (by omega))]
        omega
    have h3 := this (M 0).toNat (by omega)
    unfold cnmR at h
    omega
  · exact ⟨h1, h2⟩
theorem fnm_none {M : Rw} {nam : Int} (h0 : 0 ≤ M 0) (h : cnmR M nam ≤ 0) : fnmR M nam = -1 := by
  rcases fnmR_is M nam with ⟨h1, h2⟩ | ⟨h1, h2, -⟩
  · exact h1
  · exfalso
    obtain ⟨s, hs⟩ := nat_of h1.1
    rw [hs] at h1 h2
    have h3 := cntB_lt (fun k => decide (M (580 + k) = nam)) s (M 0).toNat (by omega) (by simpa using h2)
    have h4 := (cntB_rng (fun k => decide (M (580 + k) = nam)) s).1
    unfold cnmR at h
    omega
def clrR (nam : Int) (M : Rw) : Nat → Rw := itR (fun N => cnlR N (fnmR N nam)) M
theorem mo_cnm {M : Rw} {i d nam : Int} (hi : 1 ≤ i ∧ i < 380) : cnmR (moR M i d) nam = cnmR M nam ∧ fnmR (moR M i d) nam = fnmR M nam := by
  have e0 : moR M i d 0 = M 0 := mo_ne (by omega)
  have ek : ∀ k : Nat, moR M i d (580 + (k : Int)) = M (580 + (k : Int)) := fun k => mo_ne (by omega)
  unfold cnmR fnmR
  rw [e0]
  refine ⟨?_, ?_⟩
  · generalize (M 0).toNat = n
    induction n with
    | zero => rfl
    | succ n ih => rw [cntB_s, cntB_s, ih, ek]
  · generalize (M 0).toNat = n
    induction n with
    | zero => rfl
    | succ n ih => unfold fstB; rw [ih, ek]
theorem clr_is {G nam : Int} {M : Rw} (hW : WF G M) : ∀ n : Nat, (n : Int) ≤ cnmR M nam → WF (G + 202 * (n : Int)) (clrR nam M n) ∧ cnmR (clrR nam M n) nam = cnmR M nam - n
  | 0, _ => ⟨wf_mono hW (by omega), by show cnmR M nam = cnmR M nam - ((0 : Nat) : Int); omega⟩
  | n + 1, h => by
    obtain ⟨h1, h2⟩ := clr_is (nam := nam) hW n (by omega)
    obtain ⟨f1, f2⟩ := cnm_fnm (nam := nam) h1.1.1.1 (by rw [h2]; omega)
    have h3 := wf_cnl h1 f1
    refine ⟨wf_mono h3 (by omega), ?_⟩
    show cnmR (cnlR (clrR nam M n) (fnmR (clrR nam M n) nam)) nam = _
    unfold cnlR
    have e0 : moR (clrR nam M n) 15 1 0 = clrR nam M n 0 := mo_ne (by omega)
    have e5 : moR (clrR nam M n) 15 1 (580 + fnmR (clrR nam M n) nam) = nam := (mo_ne (by omega)).trans f2
    rw [cnm_goe (by rw [e0]; exact h1.1.1) (by rw [e0]; exact f1), e5, if_pos rfl, (mo_cnm (by omega)).1, h2]
    omega
theorem r_clear {x1 : Int} {I : Mm} {M : Rw} {Q : Int → Mm → Prop} (hM : I 237 = M) (h4 : 0 ≤ M 4 ∧ M 4 ≤ 16) (h0 : 0 ≤ M 0 ∧ M 0 ≤ 200) (e1 : ¬ (0 ≤ x1 ∧ x1 < M 4) → Q (-1) I) (e2 : (0 ≤ x1 ∧ x1 < M 4) → cnmR M x1 = 0 → Q (-2) I) (e3 : (0 ≤ x1 ∧ x1 < M 4) → ¬ cnmR M x1 = 0 → V_M_keepsAct I (fun I25 => V_M_firstOf x1 I25 (fun z26 I27 => ∃ f34 : Nat, L_M_clear_33 x1 Q f34 0 z26 I27))) : V_M_clear x1 I Q := by
  unfold V_M_clear
  exact m_isName hM h4 (fun a b => ⟨fun _ => m_waiting hM h0 ⟨fun q => e3 ⟨a, b⟩ q, fun q => e2 ⟨a, b⟩ q⟩, fun q => absurd q (by decide)⟩) (fun q => ⟨fun q => absurd rfl q, fun _ => e1 q⟩)
theorem o_clear {G x1 : Int} {I : Mm} {Q : Mm → Prop} (hI : Inv G I) (hG : G ≤ 2143000000) (hQ : ∀ I' : Mm, Inv (G + 3000000) I' → Q I') : V_X_clear x1 I (fun z I1 => V_M_clear x1 I1 (fun z' I2 => (z = z' → Q I2) ∧ (¬ z = z' → False))) := by
  obtain ⟨M, u, H, k, S, l, T, hC, hR, hA⟩ := hI
  have hst : Q I := hQ I ⟨M, u, H, k, S, l, T, hC, hR, aw_mono hA (by omega)⟩
  have hW := hA.1
  have b0 := hW.1.1
  have b4 := hW.1.2.2.2.2.1
  have hu := hC.2.1.2.1
  have n4 : I (1 + 1) 0 = M 4 := hC.1.1.1
  have hM := hR.1
  unfold V_X_clear
  refine s_nmHas (fun a b => ⟨fun _ => s_countOf hC.1.2.1 b0 ?_, fun q => absurd q (by decide)⟩) (fun q => ⟨fun q => absurd rfl q, fun _ => r_clear hM b4 b0 (fun _ => fin rfl hst) (fun w => absurd (by rw [n4]; exact w) q) (fun w => absurd (by rw [n4]; exact w) q)⟩)
  rw [n4] at b
  refine ⟨fun e => ?_, fun e => r_clear hM b4 b0 (fun w => absurd ⟨a, b⟩ w) (fun _ _ => fin rfl hst) (fun _ w => absurd e w)⟩
  have cr := cntB_rng (fun k => decide (M (580 + k) = x1)) (M 0).toNat
  have cr2 : cnmR M x1 = cntB (fun k => decide (M (580 + k) = x1)) (M 0).toNat := rfl
  refine x_rem hC hA (fun I1 C1 F1 => ?_)
  refine lpr (P := fun f i I2 => L_X_clear_48 x1 (cnmR M x1) (fun z I1 => V_M_clear x1 I1 (fun z' I2 => (z = z' → Q I2) ∧ (¬ z = z' → False))) f (i : Int) I2) (S := fun i I2 => RepC I2 1 (clrR x1 M i) ∧ Frm 1 I1 I2) (cnmR M x1).toNat ⟨C1.1, frm_rf 1 I1⟩ ?_ ?_
  · intro n I2 hS
    obtain ⟨R2, F2⟩ := hS
    have hR2 := rs_fr2 hR (I' := I2) (fun a ha => by rw [F2 a (by omega), F1 a (by omega)])
    simp only [L_X_clear_48]
    refine ⟨fun _ => r_clear hR2.1 b4 b0 (fun w => absurd ⟨a, b⟩ w) (fun _ w => absurd w e) (fun _ _ => m_keepsAct hR2 hu (fun I3 S3 F3 => m_firstOf S3.1 b0 ?_)), fun q => by omega⟩
    have h3 : I3 = rset I3 (clrR x1 M 0) := by rw [show clrR x1 M 0 = M from rfl, ← S3.1]; exact (rs_id I3).symm
    have key := lp (P := fun f i => L_M_clear_33 x1 (fun z' I2 => (cnmR M x1 = z' → Q I2) ∧ (¬ cnmR M x1 = z' → False)) f (i : Int) (fnmR (clrR x1 M i) x1) (rset I3 (clrR x1 M i))) (cnmR M x1).toNat (fun f => ?_) (fun i f hi ih => ?_)
    · rw [← h3] at key
      exact key
    · obtain ⟨W1, c1⟩ := clr_is (nam := x1) hW (cnmR M x1).toNat (by omega)
      simp only [L_M_clear_33]
      have hf : fnmR (clrR x1 M (cnmR M x1).toNat) x1 = -1 := fnm_none W1.1.1.1 (by omega)
      rw [hf]
      exact ⟨fun _ => fin (by omega) (hQ _ (act_set hA hu (by omega) (wf_mono W1 (by omega)) C1 R2 F2 S3 F3)), fun q => absurd q (by decide)⟩
    · obtain ⟨W1, c1⟩ := clr_is (nam := x1) hW i (by omega)
      obtain ⟨W2, c2⟩ := clr_is (nam := x1) hW (i + 1) (by omega)
      obtain ⟨f1, f2⟩ := cnm_fnm (nam := x1) W1.1.1.1 (by rw [c1]; omega)
      simp only [L_M_clear_33]
      have hc := m_cancel (I := rset I3 (clrR x1 M i)) (Q := fun I30 => V_M_firstOf x1 I30 (fun z31 I32 => r32 ((i : Int) + 1) ∧ L_M_clear_33 x1 (fun z' I2 => (cnmR M x1 = z' → Q I2) ∧ (¬ cnmR M x1 = z' → False)) f ((i : Int) + 1) z31 I32)) (rs_237 _ _) W1 (p := fnmR (clrR x1 M i) x1) f1 (by omega) (by
        rw [rs_rs]
        refine m_firstOf (M := clrR x1 M (i + 1)) (rs_237 _ _) W2.1.1 ⟨by omega, ih⟩)
      exact ⟨fun q => by omega, fun _ => hc⟩
  · intro i n I2 hi hS ih
    obtain ⟨W1, c1⟩ := clr_is (nam := x1) hW i (by omega)
    obtain ⟨f1, f2⟩ := cnm_fnm (nam := x1) W1.1.1.1 (by rw [c1]; omega)
    simp only [L_X_clear_48]
    exact ⟨fun q => by omega, fun _ => s_firstOf hS.1.2.1 W1.1.1 (s_cancelAt hS.1 W1 f1 (by omega) (fun I3 R3 F3 => ⟨by omega, ih I3 ⟨R3, frm_tr hS.2 F3⟩⟩))⟩
/-- who waits -/
def inN (M : Rw) (num : Int) : Prop := ∃ k : Int, 0 ≤ k ∧ k < M 0 ∧ M (380 + k) = num
theorem plc_in {M : Rw} {num : Int} : plcR M num ≠ -1 ↔ inN M num := by
  refine ⟨fun h => ?_, fun h => ?_⟩
  · obtain ⟨h1, h2⟩ := plc_rng h
    exact ⟨_, h1.1, h1.2, h2⟩
  · obtain ⟨k, a, b, c⟩ := h
    rcases plcR_is M num with ⟨h1, h2⟩ | ⟨h1, -, -⟩
    · exact absurd c (h2 k a b)
    · omega
theorem not_in {M : Rw} {num : Int} (h : ¬ inN M num) : ∀ k : Int, 0 ≤ k → k < M 0 → M (380 + k) ≠ num := fun k a b c => h ⟨k, a, b, c⟩
theorem goe_in {G : Int} {M : Rw} (hW : WF G M) {p num : Int} (hp : 0 ≤ p ∧ p < M 0) : inN (goeR M p) num ↔ inN M num ∧ num ≠ M (380 + p) := by
  have b0 := hW.1.1
  have w12 := hW.2.1.2.2
  refine ⟨fun h => ?_, fun h => ?_⟩
  · obtain ⟨k, a, b, c⟩ := h
    rw [goe_0] at b
    have e : goeR M p (380 + k) = delR M p (380 + k) := shr_hi (by omega)
    rw [e] at c
    rcases del_k b0 hp k a b with ⟨q, h1, -⟩ | ⟨q, h1, -⟩
    · rw [h1] at c
      exact ⟨⟨k, a, by omega, c⟩, by rw [← c]; exact w12 k p a q hp.2⟩
    · rw [h1] at c
      exact ⟨⟨k + 1, by omega, by omega, c⟩, by rw [← c]; exact fun h => w12 p (k + 1) hp.1 (by omega) (by omega) h.symm⟩
  · obtain ⟨⟨k, a, b, c⟩, d⟩ := h
    have hk : k ≠ p := fun h => d (by rw [← c, h])
    have b1 := (goe_0 : goeR M p 0 = M 0 - 1)
    by_cases q : k < p
    · refine ⟨k, a, by omega, ?_⟩
      have e : goeR M p (380 + k) = delR M p (380 + k) := shr_hi (by omega)
      rw [e]
      rcases del_k b0 hp k a (by omega) with ⟨q, h1, -⟩ | ⟨q, h1, -⟩
      · rw [h1]; exact c
      · omega
    · refine ⟨k - 1, by omega, by omega, ?_⟩
      have e : goeR M p (380 + (k - 1)) = delR M p (380 + (k - 1)) := shr_hi (by omega)
      rw [e]
      rcases del_k b0 hp (k - 1) (by omega) (by omega) with ⟨q, h1, -⟩ | ⟨q, h1, -⟩
      · omega
      · rw [h1, show k - 1 + 1 = k by omega]; exact c
theorem com_in {M : Rw} {num nam due n : Int} (h0 : 0 ≤ M 0 ∧ M 0 < 200) (hp : 0 ≤ posR M num due ∧ posR M num due ≤ M 0) : inN (comR M num nam due) n ↔ n = num ∨ inN M n := by
  have K := fun k a b => ins_k (M := M) (p := posR M num due) (num := num) (nam := nam) (due := due) h0 hp k a b
  have e0 : comR M num nam due 0 = M 0 + 1 := com_0
  have eh : ∀ j : Int, 380 ≤ j → comR M num nam due j = insR M (posR M num due) num nam due j := fun j hj => gro_hi hj
  refine ⟨fun h => ?_, fun h => ?_⟩
  · obtain ⟨k, a, b, c⟩ := h
    rw [e0] at b
    rw [eh _ (by omega)] at c
    rcases K k a (by omega) with ⟨q, h1, -⟩ | ⟨q, h1, -⟩ | ⟨q, h1, -⟩
    · rw [h1] at c; exact .inr ⟨k, a, by omega, c⟩
    · rw [h1] at c; exact .inl c.symm
    · rw [h1] at c; exact .inr ⟨k - 1, by omega, by omega, c⟩
  · rcases h with h | ⟨k, a, b, c⟩
    · refine ⟨posR M num due, hp.1, by rw [e0]; omega, ?_⟩
      rw [eh _ (by omega)]
      rcases K (posR M num due) hp.1 (by omega) with ⟨q, h1, -⟩ | ⟨q, h1, -⟩ | ⟨q, h1, -⟩
      · omega
      · rw [h1]; exact h.symm
      · omega
    · by_cases q : k < posR M num due
      · refine ⟨k, a, by rw [e0]; omega, ?_⟩
        rw [eh _ (by omega)]
        rcases K k a (by omega) with ⟨q, h1, -⟩ | ⟨q, h1, -⟩ | ⟨q, h1, -⟩
        · rw [h1]; exact c
        · omega
        · omega
      · refine ⟨k + 1, by omega, by rw [e0]; omega, ?_⟩
        rw [eh _ (by omega)]
        rcases K (k + 1) (by omega) (by omega) with ⟨q, h1, -⟩ | ⟨q, h1, -⟩ | ⟨q, h1, -⟩
        · omega
        · omega
        · rw [h1, show k + 1 - 1 = k by omega]; exact c
theorem pos_rng {G : Int} {M : Rw} (hW : WF G M) (num due : Int) : 0 ≤ posR M num due ∧ posR M num due ≤ M 0 := by
  have := posR_is hW.1.1.1 hW.2.1.2.1 num due
  exact ⟨this.1, this.2.1⟩
