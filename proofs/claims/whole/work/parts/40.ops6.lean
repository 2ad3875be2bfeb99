/-! undo, keep, back, feed, end -/
def cuR (N M : Rw) : Rw := fun j => if 0 ≤ j ∧ j < 980 then N j else M j
theorem cu_in {N M : Rw} {j : Int} (a : 0 ≤ j) (b : j < 980) : cuR N M j = N j := by unfold cuR; rw [if_pos ⟨a, b⟩]
theorem o_undo {G : Int} {I : Mm} {Q : Mm → Prop} (hI : Inv G I) (hG : G ≤ 2143000000) (hQ : ∀ I' : Mm, Inv (G + 3000000) I' → Q I') : V_X_undo I (fun z I1 => V_M_undo I1 (fun z' I2 => (z = z' → Q I2) ∧ (¬ z = z' → False))) := by
  obtain ⟨M, u, H, k, S, l, T, hC, hR, hA⟩ := hI
  have hst : Q I := hQ I ⟨M, u, H, k, S, l, T, hC, hR, aw_mono hA (by omega)⟩
  have hM := hR.1
  have hR0 := hR
  obtain ⟨c1, ⟨c2, c3, c4, c5⟩, ⟨c6, c7⟩, c8, c9, c10⟩ := hC
  obtain ⟨r1, r2, r3, r4, r5, r6⟩ := hR
  unfold V_X_undo V_M_undo
  rw [c2]
  refine ⟨fun q => ?_, fun q => by dsimp only; rw [r2]; exact ⟨fun w => by omega, fun _ => fin rfl hst⟩⟩
  unfold V_Hi_bringBack
  rw [c2]
  refine ⟨fun _ => ?_, fun w => by omega⟩
  generalize hf : I 39 1 = f at *
  rw [wr_s]
  have hWu := hA.2.1 (u - 1) (by omega) (by omega)
  have hcu := c5 (u - 1) (by omega) (by omega)
  rw [show (f + 10 - u + (u - 1)) % 10 = (f + 10 - 1) % 10 by omega] at hcu
  have hrg : 0 ≤ (f + 10 - 1) % 10 ∧ (f + 10 - 1) % 10 < 10 := by omega
  refine ⟨by omega, by omega, hrg, s_caCopy (rep_fr (I' := wrM I 39 1 ((f + 10 - 1) % 10)) hcu hWu (fun a v w => wr_oth _ (by omega))) hWu.1.1 (wf_b hWu) (by omega) (fun I1 R1 F1 => ?_)⟩
  have e1 : I1 39 = wrM I 39 1 ((f + 10 - 1) % 10) 39 := F1 39 (by omega)
  have e39 : I1 39 0 = u := by rw [e1, wr_n (by omega)]; exact c2
  have e391 : I1 39 1 = (f + 10 - 1) % 10 := by rw [e1, wr_s]
  rw [e39]
  refine ⟨by omega, ?_⟩
  generalize hI2 : wrM I1 39 0 (u - 1) = I2
  have o2 : ∀ a : Int, a ≠ 39 → I2 a = I1 a := fun a ha => by rw [← hI2]; exact wr_oth _ ha
  have o1 : ∀ a : Int, 17 ≤ a → a ≠ 39 → I2 a = I a := fun a ha ha2 => by rw [o2 a ha2, F1 a (by omega), wr_oth _ ha2]
  have q0 : I2 39 0 = u - 1 := by rw [← hI2, wr_s]
  have q1 : I2 39 1 = (f + 10 - 1) % 10 := by rw [← hI2, wr_n (by omega)]; exact e391
  have qr : ∀ a : Int, 236 ≤ a → I2 a = I a := fun a ha => o1 a (by omega) (by omega)
  dsimp only
  rw [q0, qr 236 (by omega), r2]
  refine ⟨fun _ => ⟨by omega, ?_⟩, fun w => by omega⟩
  have hWM : WF G (cuR (H (u - 1)) M) := wf_cong hWu (fun j a b => cu_in a b)
  have hRM : RepC I2 1 (cuR (H (u - 1)) M) := rep_cong R1 hWu.1.1 (wf_b hWu) (fun a v w => o2 a (by omega)) (fun j a b => cu_in a b)
  have hA' : AW (G + 3000000) (cuR (H (u - 1)) M) (u - 1) H k S l T := ⟨wf_mono hWM (by omega), fun i a b => wf_mono (hA.2.1 i a (by omega)) (by omega), fun s a b c => wf_mono (hA.2.2 s a b c) (by omega)⟩
  have hC' : CS I2 (cuR (H (u - 1)) M) (u - 1) H k S l T := by
    refine ⟨hRM, ⟨q0, by omega, by rw [q1]; exact hrg, fun i a b => ?_⟩, ⟨by rw [o2 0 (by omega), F1 0 (by omega), wr_oth _ (by omega)]; exact c6, fun s a b => ⟨(c7 s a b).1, fun w => rep_fr ((c7 s a b).2 w) (hA.2.2 s a b w) (fun a v w => o1 a (by omega) (by omega))⟩⟩, by rw [o1 33 (by omega) (by omega)]; exact c8, c9, fun j a b => by rw [o1 34 (by omega) (by omega)]; exact c10 j a b⟩
    rw [q1, show ((f + 10 - 1) % 10 + 10 - (u - 1) + i) % 10 = (f + 10 - u + i) % 10 by omega]
    have hr2 : 0 ≤ (f + 10 - u + i) % 10 ∧ (f + 10 - u + i) % 10 < 10 := by omega
    exact rep_fr (c5 i a (by omega)) (hA.2.1 i a (by omega)) (fun a v w => o1 a (by omega) (by omega))
  refine lpr (P := fun f i I3 => L_M_undo_21 (fun z' I2 => (u - 1 = z' → Q I2) ∧ (¬ u - 1 = z' → False)) f (i : Int) I3) (S := fun i I3 => (∀ a : Int, a ≠ 236 → a ≠ 237 → I3 a = I2 a) ∧ I3 236 3 = u - 1 ∧ I3 236 16 = I2 236 16 ∧ ∀ j : Int, I3 237 j = if 0 ≤ j ∧ j < (i : Int) then H (u - 1) j else M j) 980 ⟨fun a p _ => wr_oth _ p, wr_s _ _ _ _, wr_n (by omega), fun j => by rw [if_neg (by omega), wr_oth _ (by decide), qr 237 (by omega), r1]⟩ ?_ ?_
  · intro n I3 hS
    obtain ⟨s1, s2, s3, s4⟩ := hS
    unfold L_M_undo_21
    rw [s2]
    refine ⟨fun _ => fin rfl (hQ _ ⟨_, _, _, _, _, _, _, cs_fr hC' hA' (fun a ha => s1 a (by omega) (by omega)), ⟨funext (fun j => s4 j), s2, fun i j a b c d => ?_, ?_, ?_, ?_⟩, hA'⟩), fun w => absurd w (by decide)⟩
    · rw [s1 239 (by omega) (by omega), qr 239 (by omega)]; exact r3 i j a (by omega) c d
    · rw [s1 240 (by omega) (by omega), s1 241 (by omega) (by omega), qr 240 (by omega), qr 241 (by omega)]; exact r4
    · rw [s3, qr 236 (by omega)]; exact r5
    · rw [s1 246 (by omega) (by omega), qr 246 (by omega)]; exact r6
  · intro i n I3 hi hS ih
    obtain ⟨s1, s2, s3, s4⟩ := hS
    unfold L_M_undo_21
    rw [s2, s1 239 (by omega) (by omega), qr 239 (by omega)]
    refine ⟨fun w => by omega, fun _ => ⟨by omega, by omega, by omega, ih _ ⟨fun a p p2 => by rw [wr_oth _ p2]; exact s1 a p p2, by rw [wr_oth _ (by decide)]; exact s2, by rw [wr_oth _ (by decide)]; exact s3, fun j => ?_⟩⟩⟩
    by_cases hj : j = (i : Int)
    · subst hj
      rw [wr_s, if_pos (by omega)]
      exact r3 (u - 1) (i : Int) (by omega) (by omega) (by omega) (by omega)
    · rw [wr_n (by omega), s4 j]
      by_cases w : 0 ≤ j ∧ j < (i : Int)
      · rw [if_pos w, if_pos (by omega)]
      · rw [if_neg w, if_neg (by omega)]
theorem sh_bits : ∀ a b s : Fin 2, bOr ((a.val : Int) + 2 * (b.val : Int)) (bShl 1 (s.val : Int)) = (if s.val = 0 then 1 else (a.val : Int)) + 2 * (if s.val = 1 then 1 else (b.val : Int)) ∧ (decide (bAnd (bShr ((a.val : Int) + 2 * (b.val : Int)) (s.val : Int)) 1 = 1) = decide ((if s.val = 0 then (a.val : Int) else (b.val : Int)) = 1)) := by decide
theorem sh_or {a b s : Int} (ha : a = 0 ∨ a = 1) (hb : b = 0 ∨ b = 1) (hs : 0 ≤ s ∧ s < 2) : bOr (a + 2 * b) (bShl 1 s) = (if (0 : Int) = s then 1 else a) + 2 * (if (1 : Int) = s then 1 else b) ∧ (bAnd (bShr (a + 2 * b) s) 1 = 1 ↔ (if s = 0 then a else b) = 1) := by
  have key : ∀ (a b s : Fin 2), bOr ((a.val : Int) + 2 * (b.val : Int)) (bShl 1 (s.val : Int)) = (if (0 : Int) = (s.val : Int) then 1 else (a.val : Int)) + 2 * (if (1 : Int) = (s.val : Int) then 1 else (b.val : Int)) ∧ (bAnd (bShr ((a.val : Int) + 2 * (b.val : Int)) (s.val : Int)) 1 = 1 ↔ (if (s.val : Int) = 0 then (a.val : Int) else (b.val : Int)) = 1) := by decide
  rcases ha with rfl | rfl <;> rcases hb with rfl | rfl <;> rcases (show s = 0 ∨ s = 1 by omega) with rfl | rfl
  · exact key 0 0 0
  · exact key 0 0 1
  · exact key 0 1 0
  · exact key 0 1 1
  · exact key 1 0 0
  · exact key 1 0 1
  · exact key 1 1 0
  · exact key 1 1 1
theorem o_keep {G x1 : Int} {I : Mm} {Q : Mm → Prop} (hI : Inv G I) (hG : G ≤ 2143000000) (hQ : ∀ I' : Mm, Inv (G + 3000000) I' → Q I') : V_X_keep x1 I (fun z I1 => V_M_keep x1 I1 (fun z' I2 => (z = z' → Q I2) ∧ (¬ z = z' → False))) := by
  obtain ⟨M, u, H, k, S, l, T, hC, hR, hA⟩ := hI
  have hst : Q I := hQ I ⟨M, u, H, k, S, l, T, hC, hR, aw_mono hA (by omega)⟩
  have hW := hA.1
  have hC0 := hC
  obtain ⟨c1, ⟨c2, c3, c4, c5⟩, ⟨c6, c7⟩, c8, c9, c10⟩ := hC
  obtain ⟨r1, r2, r3, r4, r5, r6⟩ := hR
  unfold V_X_keep V_M_keep
  refine x_shelf (fun a b => ⟨fun _ => ⟨⟨a, b⟩, ?_⟩, fun w => absurd w (by decide)⟩) (fun q => ⟨fun w => absurd rfl w, fun _ => m_in (fun a b => absurd ⟨a, by omega⟩ q) (fun _ => ⟨fun w => absurd rfl w, fun _ => fin rfl hst⟩)⟩)
  refine s_caCopy c1 hW.1.1 (wf_b hW) (by omega) (fun I1 R1 F1 => ?_)
  have k0 := (c7 0 (by omega) (by omega)).1
  have k1 := (c7 1 (by omega) (by omega)).1
  have hb := (sh_or k0 k1 ⟨a, b⟩).1
  rw [F1 0 (by omega), c6, hb]
  generalize hI2 : wrM I1 0 10 ((if (0 : Int) = x1 then 1 else k 0) + 2 * (if (1 : Int) = x1 then 1 else k 1)) = I2
  have o2 : ∀ a : Int, a ≠ 0 → I2 a = I1 a := fun a ha => by rw [← hI2]; exact wr_oth _ ha
  have qr : ∀ a : Int, 236 ≤ a → I2 a = I a := fun a ha => by rw [o2 a (by omega), F1 a (by omega)]
  have n0 : I2 (1 + 5) 0 = M 0 := by rw [o2 _ (by omega), F1 _ (by omega)]; exact c1.2.1.1
  have hA' : AW (G + 3000000) M u H (fun s => if s = x1 then 1 else k s) (fun s => if s = x1 then M else S s) l T := ⟨wf_mono hW (by omega), fun i p q => wf_mono (hA.2.1 i p q) (by omega), fun s p q w => by
    dsimp only at w ⊢
    by_cases e : s = x1
    · rw [if_pos e]; exact wf_mono hW (by omega)
    · rw [if_neg e] at w ⊢; exact wf_mono (hA.2.2 s p q w) (by omega)⟩
  have hC' : CS I2 M u H (fun s => if s = x1 then 1 else k s) (fun s => if s = x1 then M else S s) l T := by
    refine ⟨rep_fr c1 hW (fun a v w => by rw [o2 a (by omega), F1 a (by omega)]), ⟨by rw [o2 39 (by omega), F1 39 (by omega)]; exact c2, c3, by rw [o2 39 (by omega), F1 39 (by omega)]; exact c4, fun i p q => ?_⟩, ⟨by rw [← hI2, wr_s], fun s p q => ⟨?_, fun w => ?_⟩⟩, by rw [o2 33 (by omega), F1 33 (by omega)]; exact c8, c9, fun j p q => by rw [o2 34 (by omega), F1 34 (by omega)]; exact c10 j p q⟩
    · rw [o2 39 (by omega), F1 39 (by omega)]
      exact rep_fr (c5 i p q) (hA.2.1 i p q) (fun a v w => by rw [o2 a (by omega), F1 a (by omega)])
    · dsimp only
      by_cases e : s = x1
      · rw [if_pos e]; exact .inr rfl
      · rw [if_neg e]; exact (c7 s p q).1
    · dsimp only at w ⊢
      by_cases e : s = x1
      · rw [if_pos e, e]; exact rep_fr R1 hW (fun a v w => o2 a (by omega))
      · rw [if_neg e] at w ⊢
        exact rep_fr ((c7 s p q).2 w) (hA.2.2 s p q w) (fun a v w => by rw [o2 a (by omega), F1 a (by omega)])
  refine m_in (fun _ _ => ⟨fun _ => ?_, fun w => absurd w (by decide)⟩) (fun q => by omega)
  refine lpr (P := fun f i I3 => L_M_keep_14 x1 (fun z' I4 => (I2 (1 + 5) 0 = z' → Q I4) ∧ (¬ I2 (1 + 5) 0 = z' → False)) f (i : Int) I3) (S := fun i I3 => (∀ a : Int, a ≠ 240 → I3 a = I2 a) ∧ ∀ s j : Int, 0 ≤ s → s < 2 → 0 ≤ j → j < 980 → I3 240 (980 * s + j) = if s = x1 ∧ j < (i : Int) then M j else I 240 (980 * s + j)) 980 ⟨fun a _ => rfl, fun s j p q p2 q2 => by rw [if_neg (by omega), qr 240 (by omega)]⟩ ?_ ?_
  · intro n I3 hS
    obtain ⟨s1, s2⟩ := hS
    unfold L_M_keep_14
    refine ⟨fun _ => ⟨⟨a, b⟩, fin ?_ (hQ _ ⟨_, _, _, _, _, _, _, cs_fr hC' hA' (fun a ha => by rw [wr_oth _ (by omega), s1 a (by omega)]), ⟨?_, ?_, fun i j a b c d => ?_, fun s p q => ⟨?_, fun w j p2 q2 => ?_⟩, ?_, ?_⟩, hA'⟩)⟩, fun w => absurd w (by decide)⟩
    · rw [n0, wr_oth _ (by decide), s1 237 (by omega), qr 237 (by omega), r1]
    · rw [wr_oth _ (by decide), s1 237 (by omega), qr 237 (by omega), r1]
    · rw [wr_oth _ (by decide), s1 236 (by omega), qr 236 (by omega), r2]
    · rw [wr_oth _ (by decide), s1 239 (by omega), qr 239 (by omega)]; exact r3 i j a b c d
    · dsimp only
      by_cases e : s = x1
      · rw [if_pos e, e, wr_s]
      · rw [if_neg e, wr_n (by omega), s1 241 (by omega), qr 241 (by omega)]; exact (r4 s p q).1
    · dsimp only at w ⊢
      rw [wr_oth _ (by decide), s2 s j p q p2 q2]
      by_cases e : s = x1
      · rw [if_pos ⟨e, by omega⟩, if_pos e]
      · rw [if_neg (fun h => e h.1), if_neg e]
        rw [if_neg e] at w
        exact (r4 s p q).2 w j p2 q2
    · rw [wr_oth _ (by decide), s1 236 (by omega), qr 236 (by omega)]; exact r5
    · rw [wr_oth _ (by decide), s1 246 (by omega), qr 246 (by omega)]; exact r6
  · intro i n I3 hi hS ih
    obtain ⟨s1, s2⟩ := hS
    unfold L_M_keep_14
    rw [s1 237 (by omega), qr 237 (by omega), r1]
    refine ⟨fun w => by omega, fun _ => ⟨by omega, by omega, by omega, ih _ ⟨fun a p => by rw [wr_oth _ p]; exact s1 a p, fun s j p q p2 q2 => ?_⟩⟩⟩
    by_cases e : s = x1 ∧ j = (i : Int)
    · rw [e.1, e.2, wr_s, if_pos (by omega)]
    · rw [wr_n (by omega), s2 s j p q p2 q2]
      by_cases w : s = x1 ∧ j < (i : Int)
      · rw [if_pos w, if_pos (by omega)]
      · rw [if_neg w, if_neg (by omega)]
theorem o_back {G x1 : Int} {I : Mm} {Q : Mm → Prop} (hI : Inv G I) (hG : G ≤ 2143000000) (hQ : ∀ I' : Mm, Inv (G + 3000000) I' → Q I') : V_X_back x1 I (fun z I1 => V_M_back x1 I1 (fun z' I2 => (z = z' → Q I2) ∧ (¬ z = z' → False))) := by
  obtain ⟨M, u, H, k, S, l, T, hC, hR, hA⟩ := hI
  have hst : Q I := hQ I ⟨M, u, H, k, S, l, T, hC, hR, aw_mono hA (by omega)⟩
  have hW := hA.1
  obtain ⟨c1, ⟨c2, c3, c4, c5⟩, ⟨c6, c7⟩, c8, c9, c10⟩ := hC
  obtain ⟨r1, r2, r3, r4, r5, r6⟩ := hR
  unfold V_X_back V_M_back
  refine x_shelf (fun a b => ⟨fun _ => ?_, fun w => absurd w (by decide)⟩) (fun q => ⟨fun w => absurd rfl w, fun _ => m_in (fun a b => absurd ⟨a, by omega⟩ q) (fun _ => ⟨fun w => absurd rfl w, fun _ => fin rfl hst⟩)⟩)
  have k0 := (c7 0 (by omega) (by omega)).1
  have k1 := (c7 1 (by omega) (by omega)).1
  have hb := (sh_or k0 k1 ⟨a, b⟩).2
  have hk : (if x1 = 0 then k 0 else k 1) = k x1 := by
    rcases (show x1 = 0 ∨ x1 = 1 by omega) with h | h
    · rw [h, if_pos rfl]
    · rw [h, if_neg (by decide)]
  rw [hk] at hb
  have kx := (c7 x1 a b).1
  unfold V_X_isKept
  rw [c6, hb]
  refine ⟨fun w => ⟨fun w2 => absurd rfl w2, fun _ => m_in (fun _ _ => ⟨fun _ => ⟨by omega, fun w2 => absurd (show I 241 x1 = 0 by rw [(r4 x1 a b).1]; omega) w2, fun _ => fin rfl hst⟩, fun w => absurd w (by decide)⟩) (fun q => by omega)⟩, fun w => ⟨fun _ => ⟨⟨a, b⟩, ?_⟩, fun w => absurd w (by decide)⟩⟩
  have hWs := hA.2.2 x1 a b w
  refine s_caCopy ((c7 x1 a b).2 w) hWs.1.1 (wf_b hWs) (by omega) (fun I1 R1 F1 => ?_)
  unfold V_Hi_forget
  generalize hI2 : wrM I1 39 0 0 = I2
  have o2 : ∀ a : Int, a ≠ 39 → I2 a = I1 a := fun a ha => by rw [← hI2]; exact wr_oth _ ha
  have qr : ∀ a : Int, 236 ≤ a → I2 a = I a := fun a ha => by rw [o2 a (by omega), F1 a (by omega)]
  have n0 : I2 (1 + 5) 0 = S x1 0 := by rw [o2 _ (by omega)]; exact R1.2.1.1
  have hWM : WF G (cuR (S x1) M) := wf_cong hWs (fun j a b => cu_in a b)
  have hRM : RepC I2 1 (cuR (S x1) M) := rep_cong R1 hWs.1.1 (wf_b hWs) (fun a v w => o2 a (by omega)) (fun j a b => cu_in a b)
  have hA' : AW (G + 3000000) (cuR (S x1) M) 0 H k S l T := ⟨wf_mono hWM (by omega), fun i a b => by omega, fun s a b c => wf_mono (hA.2.2 s a b c) (by omega)⟩
  have hC' : CS I2 (cuR (S x1) M) 0 H k S l T := by
    refine ⟨hRM, ⟨by rw [← hI2, wr_s], by omega, by rw [← hI2, wr_n (by omega), F1 39 (by omega)]; exact c4, fun i a b => by omega⟩, ⟨by rw [o2 0 (by omega), F1 0 (by omega)]; exact c6, fun s a b => ⟨(c7 s a b).1, fun w => rep_fr ((c7 s a b).2 w) (hA.2.2 s a b w) (fun a v w => by rw [o2 a (by omega), F1 a (by omega)])⟩⟩, by rw [o2 33 (by omega), F1 33 (by omega)]; exact c8, c9, fun j a b => by rw [o2 34 (by omega), F1 34 (by omega)]; exact c10 j a b⟩
  refine m_in (fun _ _ => ⟨fun _ => ⟨by omega, fun _ => ?_, fun w2 => ?_⟩, fun w => absurd w (by decide)⟩) (fun q => by omega)
  · refine lpr (P := fun f i I3 => L_M_back_26 x1 (fun z' I4 => (I2 (1 + 5) 0 = z' → Q I4) ∧ (¬ I2 (1 + 5) 0 = z' → False)) f (i : Int) I3) (S := fun i I3 => (∀ a : Int, a ≠ 237 → I3 a = I2 a) ∧ ∀ j : Int, I3 237 j = if 0 ≤ j ∧ j < (i : Int) then S x1 j else M j) 980 ⟨fun a _ => rfl, fun j => by rw [if_neg (by omega), qr 237 (by omega), r1]⟩ ?_ ?_
    · intro n I3 hS
      obtain ⟨s1, s4⟩ := hS
      unfold L_M_back_26
      have e37 : I3 237 = cuR (S x1) M := funext (fun j => s4 j)
      refine ⟨fun _ => fin ?_ (hQ _ ⟨_, _, _, _, _, _, _, cs_fr hC' hA' (fun a ha => by rw [wr_oth _ (by omega), s1 a (by omega)]), ⟨?_, wr_s _ _ _ _, fun i j a b c d => by omega, ?_, ?_, ?_⟩, hA'⟩), fun w => absurd w (by decide)⟩
      · rw [n0, wr_oth _ (by decide), e37, cu_in (by omega) (by omega)]
      · rw [wr_oth _ (by decide), e37]
      · rw [wr_oth _ (by decide), wr_oth _ (by decide), s1 240 (by omega), s1 241 (by omega), qr 240 (by omega), qr 241 (by omega)]; exact r4
      · rw [wr_n (by omega), s1 236 (by omega), qr 236 (by omega)]; exact r5
      · rw [wr_oth _ (by decide), s1 246 (by omega), qr 246 (by omega)]; exact r6
    · intro i n I3 hi hS ih
      obtain ⟨s1, s4⟩ := hS
      unfold L_M_back_26
      rw [s1 240 (by omega), qr 240 (by omega)]
      refine ⟨fun w => by omega, fun _ => ⟨by omega, by omega, by omega, ih _ ⟨fun a p => by rw [wr_oth _ p]; exact s1 a p, fun j => ?_⟩⟩⟩
      by_cases hj : j = (i : Int)
      · subst hj
        rw [wr_s, if_pos (by omega)]
        exact (r4 x1 a b).2 w (i : Int) (by omega) (by omega)
      · rw [wr_n (by omega), s4 j]
        by_cases w : 0 ≤ j ∧ j < (i : Int)
        · rw [if_pos w, if_pos (by omega)]
        · rw [if_neg w, if_neg (by omega)]
  · rw [qr 241 (by omega), (r4 x1 a b).1] at w2
    omega
/-- four bytes more -/
def fdT (T : Int → Int) (l x : Int) : Int → Int := fun j => if j = l + 3 then bByte (bShr x 0) else if j = l + 2 then bByte (bShr x 8) else if j = l + 1 then bByte (bShr x 16) else if j = l then bByte (bShr x 24) else T j
theorem fd_cong {A B : Int → Int} {l x : Int} (h : ∀ j : Int, 0 ≤ j → j < l → A j = B j) : ∀ j : Int, 0 ≤ j → j < l + 4 → fdT A l x j = fdT B l x j := by
  intro j a b
  unfold fdT
  repeat' split
  all_goals first | rfl | exact h j a (by omega)
theorem s_addFour {x l : Int} {I : Mm} {Q : Mm → Prop} (hl : I 33 0 = l) (h0 : 0 ≤ l ∧ l + 4 ≤ 400) (hQ : ∀ I' : Mm, I' 33 0 = l + 4 → I' 34 = fdT (I 34) l x → (∀ a : Int, a ≠ 33 → a ≠ 34 → I' a = I a) → Q I') : V_Ta_addFour x I Q := by
  refine ⟨5, ?_⟩
  have e : ∀ (J : Mm) (m v : Int), J 33 0 = m → wrM J 34 m v 33 0 = m := fun J m v h => by rw [wr_oth _ (by decide)]; exact h
  have n : ∀ (J : Mm) (m v w : Int), J 33 0 = m → wrM (wrM J 34 m v) 33 0 (m + 1) 33 0 = m + 1 := fun J m v w h => wr_s _ _ _ _
  unfold L_Ta_addFour_3
  rw [hl, e I l _ hl]
  refine ⟨fun w => absurd w (by decide), fun _ => ⟨fun w => by omega, fun _ => ⟨by omega, by omega, by omega, ?_⟩⟩⟩
  generalize hI1 : wrM (wrM I 34 l (bByte (bShr x 24))) 33 0 (l + 1) = I1
  have l1 : I1 33 0 = l + 1 := by rw [← hI1, wr_s]
  unfold L_Ta_addFour_3
  rw [l1, e I1 _ _ l1]
  refine ⟨fun w => absurd w (by decide), fun _ => ⟨fun w => by omega, fun _ => ⟨by omega, by omega, by omega, ?_⟩⟩⟩
  generalize hI2 : wrM (wrM I1 34 (l + 1) (bByte (bShr x (24 + -8)))) 33 0 (l + 1 + 1) = I2
  have l2 : I2 33 0 = l + 1 + 1 := by rw [← hI2, wr_s]
  unfold L_Ta_addFour_3
  rw [l2, e I2 _ _ l2]
  refine ⟨fun w => absurd w (by decide), fun _ => ⟨fun w => by omega, fun _ => ⟨by omega, by omega, by omega, ?_⟩⟩⟩
  generalize hI3 : wrM (wrM I2 34 (l + 1 + 1) (bByte (bShr x (24 + -8 + -8)))) 33 0 (l + 1 + 1 + 1) = I3
  have l3 : I3 33 0 = l + 1 + 1 + 1 := by rw [← hI3, wr_s]
  unfold L_Ta_addFour_3
  rw [l3, e I3 _ _ l3]
  refine ⟨fun w => absurd w (by decide), fun _ => ⟨fun w => by omega, fun _ => ⟨by omega, by omega, by omega, ?_⟩⟩⟩
  unfold L_Ta_addFour_3
  refine ⟨fun _ => hQ _ (by rw [wr_s]; omega) ?_ (fun a a1 a2 => by rw [wr_oth _ a1, wr_oth _ a2, ← hI3, wr_oth _ a1, wr_oth _ a2, ← hI2, wr_oth _ a1, wr_oth _ a2, ← hI1, wr_oth _ a1, wr_oth _ a2]), fun w => absurd w (by decide)⟩
  funext j
  rw [wr_oth _ (by decide), ← hI3, ← hI2, ← hI1]
  unfold fdT
  by_cases q3 : j = l + 3
  · rw [if_pos q3, q3, show l + 3 = l + 1 + 1 + 1 by omega, wr_s]
    rfl
  · rw [if_neg q3, wr_n (by omega), wr_oth _ (by decide)]
    by_cases q2 : j = l + 2
    · rw [if_pos q2, q2, show l + 2 = l + 1 + 1 by omega, wr_s]
      rfl
    · rw [if_neg q2, wr_n (by omega), wr_oth _ (by decide)]
      by_cases q1 : j = l + 1
      · rw [if_pos q1, q1, wr_s]
        rfl
      · rw [if_neg q1, wr_n (by omega), wr_oth _ (by decide)]
        by_cases q0 : j = l
        · rw [if_pos q0, q0, wr_s]
        · rw [if_neg q0, wr_n (by omega)]
theorem m_laysFour {x l : Int} {I : Mm} {Q : Mm → Prop} (hl : I 236 16 = l) (h0 : 0 ≤ l ∧ l + 4 ≤ 400) (hQ : ∀ I' : Mm, I' 236 16 = l + 4 → I' 246 = fdT (I 246) l x → (∀ a : Int, a ≠ 236 → a ≠ 246 → I' a = I a) → (∀ j : Int, j ≠ 16 → I' 236 j = I 236 j) → Q I') : V_M_laysFour x I Q := by
  refine ⟨5, ?_⟩
  have e : ∀ (J : Mm) (m v : Int), J 236 16 = m → wrM J 246 m v 236 16 = m := fun J m v h => by rw [wr_oth _ (by decide)]; exact h
  unfold L_M_laysFour_3
  rw [hl, e I l _ hl]
  refine ⟨fun w => absurd w (by decide), fun _ => ⟨by omega, by omega, by omega, ?_⟩⟩
  generalize hI1 : wrM (wrM I 246 l (bByte (bShr x 24))) 236 16 (l + 1) = I1
  have l1 : I1 236 16 = l + 1 := by rw [← hI1, wr_s]
  unfold L_M_laysFour_3
  rw [l1, e I1 _ _ l1]
  refine ⟨fun w => absurd w (by decide), fun _ => ⟨by omega, by omega, by omega, ?_⟩⟩
  generalize hI2 : wrM (wrM I1 246 (l + 1) (bByte (bShr x (24 + -8)))) 236 16 (l + 1 + 1) = I2
  have l2 : I2 236 16 = l + 1 + 1 := by rw [← hI2, wr_s]
  unfold L_M_laysFour_3
  rw [l2, e I2 _ _ l2]
  refine ⟨fun w => absurd w (by decide), fun _ => ⟨by omega, by omega, by omega, ?_⟩⟩
  generalize hI3 : wrM (wrM I2 246 (l + 1 + 1) (bByte (bShr x (24 + -8 + -8)))) 236 16 (l + 1 + 1 + 1) = I3
  have l3 : I3 236 16 = l + 1 + 1 + 1 := by rw [← hI3, wr_s]
  unfold L_M_laysFour_3
  rw [l3, e I3 _ _ l3]
  refine ⟨fun w => absurd w (by decide), fun _ => ⟨by omega, by omega, by omega, ?_⟩⟩
  unfold L_M_laysFour_3
  refine ⟨fun _ => hQ _ (by rw [wr_s]; omega) ?_ (fun a a1 a2 => by rw [wr_oth _ a1, wr_oth _ a2, ← hI3, wr_oth _ a1, wr_oth _ a2, ← hI2, wr_oth _ a1, wr_oth _ a2, ← hI1, wr_oth _ a1, wr_oth _ a2]) (fun j hj => by rw [wr_n (by omega), wr_oth _ (by decide), ← hI3, wr_n (by omega), wr_oth _ (by decide), ← hI2, wr_n (by omega), wr_oth _ (by decide), ← hI1, wr_n (by omega), wr_oth _ (by decide)]), fun w => absurd w (by decide)⟩
  funext j
  rw [wr_oth _ (by decide), ← hI3, ← hI2, ← hI1]
  unfold fdT
  by_cases q3 : j = l + 3
  · rw [if_pos q3, q3, show l + 3 = l + 1 + 1 + 1 by omega, wr_s]
    rfl
  · rw [if_neg q3, wr_n (by omega), wr_oth _ (by decide)]
    by_cases q2 : j = l + 2
    · rw [if_pos q2, q2, show l + 2 = l + 1 + 1 by omega, wr_s]
      rfl
    · rw [if_neg q2, wr_n (by omega), wr_oth _ (by decide)]
      by_cases q1 : j = l + 1
      · rw [if_pos q1, q1, wr_s]
        rfl
      · rw [if_neg q1, wr_n (by omega), wr_oth _ (by decide)]
        by_cases q0 : j = l
        · rw [if_pos q0, q0, wr_s]
        · rw [if_neg q0, wr_n (by omega)]
/-- the tape alone has changed -/
theorem tape_c {G : Int} {I I' : Mm} {M : Rw} {u : Int} {H : Int → Rw} {k : Int → Int} {S : Int → Rw} {l l' : Int} {T T' : Int → Int} (h : CS I M u H k S l T) (hA : AW G M u H k S l T) (hF : ∀ a : Int, cell1 a → a ≠ 33 → a ≠ 34 → I' a = I a) (h33 : I' 33 0 = l') (hl : 0 ≤ l' ∧ l' ≤ 400) (h34 : ∀ j : Int, 0 ≤ j → j < l' → I' 34 j = T' j) : CS I' M u H k S l' T' := by
  obtain ⟨c1, ⟨c2, c3, c4, c5⟩, ⟨c6, c7⟩, c8, c9, c10⟩ := h
  refine ⟨rep_fr c1 hA.1 (fun a v w => hF a (by omega) (by omega) (by omega)), ⟨by rw [hF 39 (by omega) (by omega) (by omega)]; exact c2, c3, by rw [hF 39 (by omega) (by omega) (by omega)]; exact c4, fun i p q => ?_⟩, ⟨by rw [hF 0 (by omega) (by omega) (by omega)]; exact c6, fun s p q => ⟨(c7 s p q).1, fun w => rep_fr ((c7 s p q).2 w) (hA.2.2 s p q w) (fun a v w => hF a (by omega) (by omega) (by omega))⟩⟩, h33, hl, h34⟩
  rw [hF 39 (by omega) (by omega) (by omega)]
  exact rep_fr (c5 i p q) (hA.2.1 i p q) (fun a v w => hF a (by omega) (by omega) (by omega))
theorem tape_r {I I' : Mm} {M : Rw} {u : Int} {H : Int → Rw} {k : Int → Int} {S : Int → Rw} {l l' : Int} {T T' : Int → Int} (h : RS I M u H k S l T) (hF : ∀ a : Int, (a = 237 ∨ a = 239 ∨ a = 240 ∨ a = 241) → I' a = I a) (h3 : I' 236 3 = I 236 3) (h16 : I' 236 16 = l') (h46 : ∀ j : Int, 0 ≤ j → j < l' → I' 246 j = T' j) : RS I' M u H k S l' T' := by
  obtain ⟨r1, r2, r3, r4, r5, r6⟩ := h
  exact ⟨by rw [hF 237 (by omega)]; exact r1, by rw [h3]; exact r2, by rw [hF 239 (by omega)]; exact r3, by rw [hF 240 (by omega), hF 241 (by omega)]; exact r4, h16, h46⟩
theorem o_end {G x1 : Int} {I : Mm} {Q : Mm → Prop} (hI : Inv G I) (hG : G ≤ 2143000000) (hQ : ∀ I' : Mm, Inv (G + 3000000) I' → Q I') : V_X_end x1 I (fun z I1 => V_M_end x1 I1 (fun z' I2 => (z = z' → Q I2) ∧ (¬ z = z' → False))) := by
  obtain ⟨M, u, H, k, S, l, T, hC, hR, hA⟩ := hI
  have hst : Q I := hQ I ⟨M, u, H, k, S, l, T, hC, hR, aw_mono hA (by omega)⟩
  have n33 : I 33 0 = l := hC.2.2.2.1
  have hl := hC.2.2.2.2.1
  have n16 : I 236 16 = l := hR.2.2.2.2.1
  have refuse : ¬ (0 ≤ x1 ∧ x1 ≤ l) → V_M_end x1 I (fun z' I2 => ((-1 : Int) = z' → Q I2) ∧ (¬ (-1 : Int) = z' → False)) := fun q => by
    unfold V_M_end
    rw [n16]
    exact m_in (fun a b => absurd ⟨a, b⟩ q) (fun _ => ⟨fun w => absurd rfl w, fun _ => fin rfl hst⟩)
  unfold V_X_end
  rw [n33]
  refine ⟨fun q => refuse (by omega), fun q => ⟨fun q2 => ?_, fun q2 => refuse (by omega)⟩⟩
  unfold V_M_end
  dsimp only
  rw [wr_oth _ (by decide), n16]
  refine m_in (fun _ _ => ⟨fun _ => fin rfl (hQ _ ⟨M, u, H, k, S, x1, T, ?_, ?_, aw_mono hA (by omega)⟩), fun w => absurd w (by decide)⟩) (fun w => absurd ⟨q, q2⟩ w)
  · refine tape_c hC hA (fun a ha a1 a2 => ?_) ?_ ⟨q, by omega⟩ (fun j a b => ?_)
    · rw [wr_oth _ (by omega), wr_oth _ a1]
    · rw [wr_oth _ (by decide), wr_s]
    · rw [wr_oth _ (by decide), wr_oth _ (by decide)]; exact hC.2.2.2.2.2 j a (by omega)
  · refine tape_r hR (fun a ha => ?_) ?_ (wr_s _ _ _ _) (fun j a b => ?_)
    · rw [wr_oth _ (by omega), wr_oth _ (by omega)]
    · rw [wr_n (by omega), wr_oth _ (by decide)]
    · rw [wr_oth _ (by decide), wr_oth _ (by decide)]; exact hR.2.2.2.2.2 j a (by omega)
theorem o_feed {G x1 x2 x3 x4 x5 : Int} {I : Mm} {Q : Mm → Prop} (hI : Inv G I) (hG : G ≤ 2143000000) (hQ : ∀ I' : Mm, Inv (G + 3000000) I' → Q I') : V_X_feed x1 x2 x3 x4 x5 I (fun z I1 => V_M_feed x1 x2 x3 x4 x5 I1 (fun z' I2 => (z = z' → Q I2) ∧ (¬ z = z' → False))) := by
  obtain ⟨M, u, H, k, S, l, T, hC, hR, hA⟩ := hI
  have hst : Q I := hQ I ⟨M, u, H, k, S, l, T, hC, hR, aw_mono hA (by omega)⟩
  have n33 : I 33 0 = l := hC.2.2.2.1
  have hl := hC.2.2.2.2.1
  have n34 := hC.2.2.2.2.2
  have n16 : I 236 16 = l := hR.2.2.2.2.1
  have n46 := hR.2.2.2.2.2
  unfold V_X_feed
  rw [n33]
  refine ⟨by omega, fun q => ?_, fun q => ?_⟩
  · refine s_addFour n33 (by omega) (fun I1 l1 t1 F1 => s_addFour l1 (by omega) (fun I2 l2 t2 F2 => s_addFour l2 (by omega) (fun I3 l3 t3 F3 => s_addFour l3 (by omega) (fun I4 l4 t4 F4 => s_addFour l4 (by omega) (fun I5 l5 t5 F5 => ?_)))))
    have FF : ∀ a : Int, a ≠ 33 → a ≠ 34 → I5 a = I a := fun a a1 a2 => by rw [F5 a a1 a2, F4 a a1 a2, F3 a a1 a2, F2 a a1 a2, F1 a a1 a2]
    unfold V_M_feed
    dsimp only
    have m16 : I5 236 16 = l := by rw [FF 236 (by omega) (by omega)]; exact n16
    rw [m16, l5]
    refine ⟨fun _ => ?_, fun w => by omega⟩
    refine m_laysFour m16 (by omega) (fun J1 k1 u1 H1 G1 => m_laysFour k1 (by omega) (fun J2 k2 u2 H2 G2 => m_laysFour k2 (by omega) (fun J3 k3 u3 H3 G3 => m_laysFour k3 (by omega) (fun J4 k4 u4 H4 G4 => m_laysFour k4 (by omega) (fun J5 k5 u5 H5 G5 => ?_)))))
    rw [k5]
    have HH : ∀ a : Int, a ≠ 236 → a ≠ 246 → J5 a = I5 a := fun a a1 a2 => by rw [H5 a a1 a2, H4 a a1 a2, H3 a a1 a2, H2 a a1 a2, H1 a a1 a2]
    have GG : ∀ j : Int, j ≠ 16 → J5 236 j = I5 236 j := fun j hj => by rw [G5 j hj, G4 j hj, G3 j hj, G2 j hj, G1 j hj]
    have hT : ∀ j : Int, 0 ≤ j → j < l + 4 + 4 + 4 + 4 + 4 → I5 34 j = J5 246 j := by
      rw [t5, t4, t3, t2, t1, u5, u4, u3, u2, u1, FF 246 (by omega) (by omega)]
      exact fd_cong (fd_cong (fd_cong (fd_cong (fd_cong (fun j a b => (n34 j a b).trans (n46 j a b).symm)))))
    refine fin rfl (hQ _ ⟨M, u, H, k, S, _, I5 34, tape_c hC hA (fun a ha a1 a2 => by rw [HH a (by omega) (by omega), FF a a1 a2]) (by rw [HH 33 (by omega) (by omega)]; exact l5) (by omega) (fun j a b => by rw [HH 34 (by omega) (by omega)]), tape_r hR (fun a ha => by rw [HH a (by omega) (by omega), FF a (by omega) (by omega)]) (by rw [GG 3 (by omega), FF 236 (by omega) (by omega)]) k5 (fun j a b => (hT j a b).symm), aw_mono hA (by omega)⟩)
  · unfold V_M_feed
    dsimp only
    rw [n16]
    exact ⟨fun w => by omega, fun _ => fin rfl hst⟩
