/-! the two sides stand for the same: a row, the rows kept for undoing, the shelves, the tape -/
def CS (I : Mm) (M : Rw) (u : Int) (H : Int → Rw) (k : Int → Int) (S : Int → Rw) (l : Int) (T : Int → Int) : Prop :=
  RepC I 1 M ∧ (I 39 0 = u ∧ (0 ≤ u ∧ u ≤ 10) ∧ (0 ≤ I 39 1 ∧ I 39 1 < 10) ∧ ∀ i : Int, 0 ≤ i → i < u → RepC I (41 + 16 * ((I 39 1 + 10 - u + i) % 10)) (H i)) ∧
  (I 0 10 = k 0 + 2 * k 1 ∧ ∀ s : Int, 0 ≤ s → s < 2 → (k s = 0 ∨ k s = 1) ∧ (k s = 1 → RepC I (202 + 16 * s) (S s))) ∧
  (I 33 0 = l ∧ (0 ≤ l ∧ l ≤ 400) ∧ ∀ j : Int, 0 ≤ j → j < l → I 34 j = T j)
def RS (I : Mm) (M : Rw) (u : Int) (H : Int → Rw) (k : Int → Int) (S : Int → Rw) (l : Int) (T : Int → Int) : Prop :=
  I 237 = M ∧ I 236 3 = u ∧ (∀ i j : Int, 0 ≤ i → i < u → 0 ≤ j → j < 980 → I 239 (980 * i + j) = H i j) ∧
  (∀ s : Int, 0 ≤ s → s < 2 → I 241 s = k s ∧ (k s = 1 → ∀ j : Int, 0 ≤ j → j < 980 → I 240 (980 * s + j) = S s j)) ∧
  I 236 16 = l ∧ ∀ j : Int, 0 ≤ j → j < l → I 246 j = T j
def AW (G : Int) (M : Rw) (u : Int) (H : Int → Rw) (k : Int → Int) (S : Int → Rw) (l : Int) (T : Int → Int) : Prop :=
  WF G M ∧ (∀ i : Int, 0 ≤ i → i < u → WF G (H i)) ∧ (∀ s : Int, 0 ≤ s → s < 2 → k s = 1 → WF G (S s))
def Inv (G : Int) (I : Mm) : Prop := ∃ M u H k S l T, CS I M u H k S l T ∧ RS I M u H k S l T ∧ AW G M u H k S l T
theorem fin {Q : Mm → Prop} {z z' : Int} {I : Mm} (h : z = z') (hQ : Q I) : (z = z' → Q I) ∧ (¬ z = z' → False) := ⟨fun _ => hQ, fun q => q h⟩
theorem rep_cong {c : Int} {I I' : Mm} {M M' : Rw} (h : RepC I c M) (h0 : 0 ≤ M 0 ∧ M 0 ≤ 200) (hB : (0 ≤ M 4 ∧ M 4 ≤ 16) ∧ (0 ≤ M 5 ∧ M 5 ≤ 12) ∧ (0 ≤ M 7 ∧ M 7 ≤ 50)) (hI : ∀ a : Int, c ≤ a → a < c + 16 → I' a = I a) (hM : ∀ j : Int, 0 ≤ j → j < 980 → M' j = M j) : RepC I' c M' := by
  obtain ⟨rn, rt, ru, rl, tot, h5, h6, h7, h8⟩ := h
  refine ⟨rnm_c rn hB.1.2 (fun a u v => hI a (by omega) (by omega)) (hM _ (by omega) (by omega)) (fun j u v => hM j (by omega) (by omega)), ⟨?_, fun n a b => ?_⟩, rru_c ru hB.2.1.2 (fun a u v => hI a (by omega) (by omega)) (hM _ (by omega) (by omega)) (fun j u v => hM j (by omega) (by omega)), rlo_c rl hB.2.2.2 (fun a u v => hI a (by omega) (by omega)) (hM _ (by omega) (by omega)) (fun j u v => hM j (by omega) (by omega)), fun j u v => ?_, ?_, ?_, ?_, ?_⟩
  · rw [hI _ (by omega) (by omega), hM 0 (by omega) (by omega)]; exact rt.1
  · rw [hM 0 (by omega) (by omega)] at b
    rw [hI (c + 5 + 1) (by omega) (by omega), hI (c + 5 + 2) (by omega) (by omega), hI (c + 5 + 3) (by omega) (by omega), hM (380 + n) (by omega) (by omega), hM (580 + n) (by omega) (by omega), hM (780 + n) (by omega) (by omega)]
    exact rt.2 n a b
  · rw [hI _ (by omega) (by omega), hM _ (by omega) (by omega)]; exact tot j u v
  · rw [hI _ (by omega) (by omega), hM _ (by omega) (by omega)]; exact h5
  · rw [hI _ (by omega) (by omega), hM _ (by omega) (by omega)]; exact h6
  · rw [hI _ (by omega) (by omega), hM _ (by omega) (by omega)]; exact h7
  · rw [hI _ (by omega) (by omega), hM _ (by omega) (by omega)]; exact h8
theorem wf_cong {G : Int} {M M' : Rw} (h : WF G M) (hM : ∀ j : Int, 0 ≤ j → j < 980 → M' j = M j) : WF G M' := by
  obtain ⟨⟨b0, b1, b2, b3, b4, b5, b6, b7, b8⟩, ⟨w1, w11, w12⟩, w2, w3⟩ := h
  have e0 := hM 0 (by omega) (by omega)
  have e3 := hM 3 (by omega) (by omega)
  have e4 := hM 4 (by omega) (by omega)
  have e5 := hM 5 (by omega) (by omega)
  have e6 := hM 6 (by omega) (by omega)
  refine ⟨⟨by omega, by rw [hM 1 (by omega) (by omega)]; exact b1, by rw [hM 2 (by omega) (by omega)]; exact b2, by omega, by omega, by omega, by omega, by rw [hM 7 (by omega) (by omega)]; exact b7, fun j p q => by rw [hM j (by omega) (by omega)]; exact b8 j p q⟩, ⟨fun k a b => ?_, fun i j a b d => ?_, fun i j a b d => ?_⟩, ?_, ?_⟩
  · have := w1 k a (by omega)
    rw [hM (380 + k) (by omega) (by omega), hM (580 + k) (by omega) (by omega), hM (780 + k) (by omega) (by omega), e3, e4, e6]
    exact this
  · rw [hM (780 + i) (by omega) (by omega), hM (780 + j) (by omega) (by omega), hM (380 + i) (by omega) (by omega), hM (380 + j) (by omega) (by omega)]
    exact w11 i j a b (by omega)
  · rw [hM (380 + i) (by omega) (by omega), hM (380 + j) (by omega) (by omega)]
    exact w12 i j a b (by omega)
  · exact wr_c w2 e5 b5.2 (by omega) (fun j a b => hM j (by omega) (by omega))
  · exact wl_c w3 e4 b4 (fun j a b => hM j (by omega) (by omega))
theorem rep_fr {c : Int} {G : Int} {I I' : Mm} {M : Rw} (h : RepC I c M) (hW : WF G M) (hI : ∀ a : Int, c ≤ a → a < c + 16 → I' a = I a) : RepC I' c M := rep_cong h hW.1.1 (wf_b hW) hI (fun _ _ _ => rfl)
theorem aw_mono {G G' : Int} {M : Rw} {u : Int} {H : Int → Rw} {k : Int → Int} {S : Int → Rw} {l : Int} {T : Int → Int} (h : AW G M u H k S l T) (hG : G ≤ G') : AW G' M u H k S l T :=
  ⟨wf_mono h.1 hG, fun i a b => wf_mono (h.2.1 i a b) hG, fun s a b c => wf_mono (h.2.2 s a b c) hG⟩
theorem aw_upd {G : Int} {M M' : Rw} {u : Int} {H : Int → Rw} {k : Int → Int} {S : Int → Rw} {l : Int} {T : Int → Int} (h : AW G M u H k S l T) (hW : WF G M') : AW G M' u H k S l T := ⟨hW, h.2⟩
/-- the cells that count on the class's side -/
abbrev cell1 (a : Int) : Prop := a = 0 ∨ (1 ≤ a ∧ a < 17) ∨ a = 33 ∨ a = 34 ∨ a = 39 ∨ (41 ≤ a ∧ a < 201) ∨ (202 ≤ a ∧ a < 234)
theorem cs_fr {G : Int} {I I' : Mm} {M : Rw} {u : Int} {H : Int → Rw} {k : Int → Int} {S : Int → Rw} {l : Int} {T : Int → Int} (h : CS I M u H k S l T) (hA : AW G M u H k S l T) (hI : ∀ a : Int, cell1 a → I' a = I a) : CS I' M u H k S l T := by
  obtain ⟨c1, ⟨c2, c3, c4, c5⟩, ⟨c6, c7⟩, c8, c9, c10⟩ := h
  have e39 := hI 39 (by omega)
  have e0 := hI 0 (by omega)
  have e33 := hI 33 (by omega)
  have e34 := hI 34 (by omega)
  refine ⟨rep_fr c1 hA.1 (fun a p q => hI a (by omega)), ⟨by rw [e39]; exact c2, c3, by rw [e39]; exact c4, fun i p q => ?_⟩, ⟨by rw [e0]; exact c6, fun s p q => ⟨(c7 s p q).1, fun r => ?_⟩⟩, by rw [e33]; exact c8, c9, fun j p q => by rw [e34]; exact c10 j p q⟩
  · rw [e39]
    exact rep_fr (c5 i p q) (hA.2.1 i p q) (fun a v w => hI a (by omega))
  · exact rep_fr ((c7 s p q).2 r) (hA.2.2 s p q r) (fun a v w => hI a (by omega))
/-- .. and on the reference's -/
theorem rs_fr {I I' : Mm} {M : Rw} {u : Int} {H : Int → Rw} {k : Int → Int} {S : Int → Rw} {l : Int} {T : Int → Int} (h : RS I M u H k S l T) (hI : ∀ a : Int, (a = 237 ∨ a = 239 ∨ a = 240 ∨ a = 241 ∨ a = 246) → I' a = I a) (h3 : I' 236 3 = I 236 3) (h16 : I' 236 16 = I 236 16) : RS I' M u H k S l T := by
  obtain ⟨r1, r2, r3, r4, r5, r6⟩ := h
  rw [← hI 237 (by omega)] at r1
  rw [← hI 239 (by omega)] at r3
  rw [← hI 240 (by omega), ← hI 241 (by omega)] at r4
  rw [← hI 246 (by omega)] at r6
  rw [← h3] at r2
  rw [← h16] at r5
  exact ⟨r1, r2, r3, r4, r5, r6⟩
theorem rs_fr2 {I I' : Mm} {M : Rw} {u : Int} {H : Int → Rw} {k : Int → Int} {S : Int → Rw} {l : Int} {T : Int → Int} (h : RS I M u H k S l T) (hI : ∀ a : Int, 236 ≤ a → I' a = I a) : RS I' M u H k S l T :=
  rs_fr h (fun a ha => hI a (by omega)) (by rw [hI 236 (by omega)]) (by rw [hI 236 (by omega)])
theorem rs_set {I : Mm} {M M' : Rw} {u : Int} {H : Int → Rw} {k : Int → Int} {S : Int → Rw} {l : Int} {T : Int → Int} (h : RS I M u H k S l T) : RS (rset I M') M' u H k S l T := by
  obtain ⟨r1, r2, r3, r4, r5, r6⟩ := h
  refine ⟨rs_237 _ _, by rw [rs_236]; exact r2, ?_, ?_, by rw [rs_236]; exact r5, ?_⟩
  · rw [rs_ne _ _ (by decide)]; exact r3
  · rw [rs_ne _ _ (by decide), rs_ne _ _ (by decide)]; exact r4
  · rw [rs_ne _ _ (by decide)]; exact r6
theorem rs_row {I I' : Mm} {M M' : Rw} {u : Int} {H : Int → Rw} {k : Int → Int} {S : Int → Rw} {l : Int} {T : Int → Int} (h : RS I M u H k S l T) (h1 : I' 237 = M') (hI : ∀ a : Int, (a = 239 ∨ a = 240 ∨ a = 241 ∨ a = 246) → I' a = I a) (h3 : I' 236 3 = I 236 3) (h16 : I' 236 16 = I 236 16) : RS I' M' u H k S l T := by
  obtain ⟨r1, r2, r3, r4, r5, r6⟩ := h
  rw [← hI 239 (by omega)] at r3
  rw [← hI 240 (by omega), ← hI 241 (by omega)] at r4
  rw [← hI 246 (by omega)] at r6
  rw [← h3] at r2
  rw [← h16] at r5
  exact ⟨h1, r2, r3, r4, r5, r6⟩
/-- the class's calendar has changed -/
theorem cs_upd {G : Int} {I I' : Mm} {M M' : Rw} {u : Int} {H : Int → Rw} {k : Int → Int} {S : Int → Rw} {l : Int} {T : Int → Int} (h : CS I M u H k S l T) (hA : AW G M u H k S l T) (hR : RepC I' 1 M') (hF : Frm 1 I I') : CS I' M' u H k S l T := by
  obtain ⟨c1, ⟨c2, c3, c4, c5⟩, ⟨c6, c7⟩, c8, c9, c10⟩ := h
  have e39 := hF 39 (by omega)
  have e0 := hF 0 (by omega)
  have e33 := hF 33 (by omega)
  have e34 := hF 34 (by omega)
  refine ⟨hR, ⟨by rw [e39]; exact c2, c3, by rw [e39]; exact c4, fun i p q => ?_⟩, ⟨by rw [e0]; exact c6, fun s p q => ⟨(c7 s p q).1, fun r => ?_⟩⟩, by rw [e33]; exact c8, c9, fun j p q => by rw [e34]; exact c10 j p q⟩
  · rw [e39]
    exact rep_fr (c5 i p q) (hA.2.1 i p q) (fun a v w => hF a (by omega))
  · exact rep_fr ((c7 s p q).2 r) (hA.2.2 s p q r) (fun a v w => hF a (by omega))
/-- one more row to undo -/
def psh (u : Int) (H : Int → Rw) (M : Rw) : Int → Rw := fun i => if u = 10 then (if i = 9 then M else H (i + 1)) else (if i = u then M else H i)
theorem aw_psh {G : Int} {M : Rw} {u : Int} {H : Int → Rw} {k : Int → Int} {S : Int → Rw} {l : Int} {T : Int → Int} (h : AW G M u H k S l T) (hu : 0 ≤ u ∧ u ≤ 10) : AW G M (min (u + 1) 10) (psh u H M) k S l T := by
  refine ⟨h.1, fun i a b => ?_, h.2.2⟩
  unfold psh
  split
  · split
    · exact h.1
    · exact h.2.1 (i + 1) (by omega) (by omega)
  · split
    · exact h.1
    · exact h.2.1 i a (by omega)
theorem x_rem {G : Int} {I : Mm} {M : Rw} {u : Int} {H : Int → Rw} {k : Int → Int} {S : Int → Rw} {l : Int} {T : Int → Int} {Q : Mm → Prop} (h : CS I M u H k S l T) (hA : AW G M u H k S l T) (hQ : ∀ I' : Mm, CS I' M (min (u + 1) 10) (psh u H M) k S l T → (∀ a : Int, 201 ≤ a → I' a = I a) → Q I') : V_Hi_remember 1 I Q := by
  obtain ⟨c1, ⟨c2, c3, c4, c5⟩, ⟨c6, c7⟩, c8, c9, c10⟩ := h
  unfold V_Hi_remember
  refine ⟨c4, s_caCopy c1 hA.1.1.1 (wf_b hA.1) (by omega) (fun I1 R1 F1 => ?_)⟩
  generalize hf : I 39 1 = f at *
  have e39 : I1 39 = I 39 := F1 39 (by omega)
  rw [e39, hf]
  have e1 : wrM I1 39 1 ((f + 1) % 10) 39 0 = u := by rw [wr_n (by omega), e39]; exact c2
  rw [e1]
  refine ⟨by omega, by omega, by omega, hQ _ ?_ (fun a ha => by rw [wr_oth _ (by omega), wr_oth _ (by omega)]; exact F1 a (by omega))⟩
  have hO : ∀ a : Int, a ≠ 39 → wrM (wrM I1 39 1 ((f + 1) % 10)) 39 0 (min (u + 1) 10) a = I1 a := fun a ha => by rw [wr_oth _ ha, wr_oth _ ha]
  have hf1 : wrM (wrM I1 39 1 ((f + 1) % 10)) 39 0 (min (u + 1) 10) 39 1 = (f + 1) % 10 := by rw [wr_n (by omega), wr_s]
  refine ⟨rep_fr c1 hA.1 (fun a p q => by rw [hO a (by omega), F1 a (by omega)]), ⟨wr_s _ _ _ _, by omega, by rw [hf1]; omega, fun i p q => ?_⟩, ⟨by rw [hO 0 (by omega), F1 0 (by omega)]; exact c6, fun s p q => ⟨(c7 s p q).1, fun r => rep_fr ((c7 s p q).2 r) (hA.2.2 s p q r) (fun a v w => by rw [hO a (by omega), F1 a (by omega)])⟩⟩, by rw [hO 33 (by omega), F1 33 (by omega)]; exact c8, c9, fun j p q => by rw [hO 34 (by omega), F1 34 (by omega)]; exact c10 j p q⟩
  rw [hf1]
  by_cases hu : u = 10
  · by_cases hi : i = 9
    · have ep : psh u H M i = M := by unfold psh; rw [if_pos hu, if_pos hi]
      rw [ep, show ((f + 1) % 10 + 10 - min (u + 1) 10 + i) % 10 = f by omega]
      exact rep_fr R1 hA.1 (fun a v w => hO a (by omega))
    · have ep : psh u H M i = H (i + 1) := by unfold psh; rw [if_pos hu, if_neg hi]
      have c5i := c5 (i + 1) (by omega) (by omega)
      have hWi := hA.2.1 (i + 1) (by omega) (by omega)
      rw [ep, show ((f + 1) % 10 + 10 - min (u + 1) 10 + i) % 10 = (f + 10 - u + (i + 1)) % 10 by omega]
      have hne : (f + 10 - u + (i + 1)) % 10 ≠ f := by omega
      have hrg : 0 ≤ (f + 10 - u + (i + 1)) % 10 ∧ (f + 10 - u + (i + 1)) % 10 < 10 := by omega
      generalize (f + 10 - u + (i + 1)) % 10 = s at *
      exact rep_fr c5i hWi (fun a v w => by rw [hO a (by omega)]; exact F1 a (by omega))
  · by_cases hi : i = u
    · have ep : psh u H M i = M := by unfold psh; rw [if_neg hu, if_pos hi]
      rw [ep, show ((f + 1) % 10 + 10 - min (u + 1) 10 + i) % 10 = f by omega]
      exact rep_fr R1 hA.1 (fun a v w => hO a (by omega))
    · have ep : psh u H M i = H i := by unfold psh; rw [if_neg hu, if_neg hi]
      have c5i := c5 i (by omega) (by omega)
      have hWi := hA.2.1 i (by omega) (by omega)
      rw [ep, show ((f + 1) % 10 + 10 - min (u + 1) 10 + i) % 10 = (f + 10 - u + i) % 10 by omega]
      have hne : (f + 10 - u + i) % 10 ≠ f := by omega
      have hrg : 0 ≤ (f + 10 - u + i) % 10 ∧ (f + 10 - u + i) % 10 < 10 := by omega
      generalize (f + 10 - u + i) % 10 = s at *
      exact rep_fr c5i hWi (fun a v w => by rw [hO a (by omega)]; exact F1 a (by omega))
theorem m_keepsAct2 {I : Mm} {M : Rw} {u : Int} {H : Int → Rw} {k : Int → Int} {S : Int → Rw} {l : Int} {T : Int → Int} {Q : Mm → Prop} (h : RS I M u H k S l T) (hu : 0 ≤ u ∧ u ≤ 10) (hQ : ∀ I' : Mm, RS I' M (min (u + 1) 10) (psh u H M) k S l T → (∀ a : Int, a ≠ 236 → a ≠ 239 → I' a = I a) → Q I') : V_M_keepsAct I Q := by
  obtain ⟨r1, r2, r3, r4, r5, r6⟩ := h
  -- the second part, from a state with u1 rows H1
  have key : ∀ (u1 : Int) (H1 : Int → Rw) (I1 : Mm), 0 ≤ u1 → u1 < 10 → I1 236 3 = u1 → (∀ i j : Int, 0 ≤ i → i < u1 → 0 ≤ j → j < 980 → I1 239 (980 * i + j) = H1 i j) → (∀ a : Int, a ≠ 236 → a ≠ 239 → I1 a = I a) → (∀ j : Int, j ≠ 3 → I1 236 j = I 236 j) → u1 + 1 = min (u + 1) 10 → (∀ i : Int, i < u1 → psh u H M i = H1 i) → psh u H M u1 = M → J_M_keepsAct_52 Q I1 := by
    intro u1 H1 I1 p0 p1 q3 q4 q5 q6 q7 q8 q9
    unfold J_M_keepsAct_52
    refine lpr (P := fun f i I2 => L_M_keepsAct_54 Q f (i : Int) I2) (S := fun i I2 => (∀ a : Int, a ≠ 239 → I2 a = I1 a) ∧ (∀ i2 j : Int, 0 ≤ i2 → i2 < u1 → 0 ≤ j → j < 980 → I2 239 (980 * i2 + j) = H1 i2 j) ∧ ∀ j : Int, 0 ≤ j → j < (i : Int) → I2 239 (980 * u1 + j) = M j) 980 ⟨fun a _ => rfl, q4, fun j a b => by omega⟩ ?_ ?_
    · intro n I2 hS
      obtain ⟨s1, s2, s3⟩ := hS
      simp only [L_M_keepsAct_54]
      have e3 : I2 236 3 = u1 := by rw [s1 236 (by omega)]; exact q3
      rw [e3]
      refine ⟨fun _ => ⟨by omega, hQ _ ⟨?_, ?_, fun i j a b d e => ?_, ?_, ?_, ?_⟩ (fun a ha ha2 => ?_)⟩, fun q => absurd q (by decide)⟩
      · rw [wr_oth _ (by decide), s1 237 (by omega), q5 237 (by omega) (by omega)]; exact r1
      · rw [wr_s]; exact q7
      · rw [wr_oth _ (by decide)]
        by_cases hi : i = u1
        · rw [hi, q9]; exact s3 j d e
        · rw [q8 i (by omega)]; exact s2 i j a (by omega) d e
      · rw [wr_oth _ (by decide), wr_oth _ (by decide), s1 240 (by omega), s1 241 (by omega), q5 240 (by omega) (by omega), q5 241 (by omega) (by omega)]; exact r4
      · rw [wr_n (by omega), s1 236 (by omega), q6 16 (by omega)]; exact r5
      · rw [wr_oth _ (by decide), s1 246 (by omega), q5 246 (by omega) (by omega)]; exact r6
      · rw [wr_oth _ (by omega), s1 a (by omega), q5 a (by omega) (by omega)]
    · intro i n I2 hi hS ih
      obtain ⟨s1, s2, s3⟩ := hS
      simp only [L_M_keepsAct_54]
      have e3 : I2 236 3 = u1 := by rw [s1 236 (by omega)]; exact q3
      have e37 : I2 237 = M := by rw [s1 237 (by omega), q5 237 (by omega) (by omega)]; exact r1
      rw [e3, e37]
      refine ⟨fun q => by omega, fun _ => ⟨by omega, by omega, by omega, ih _ ⟨fun a ha => by rw [wr_oth _ ha]; exact s1 a ha, fun i2 j a b d e => by rw [wr_n (by omega)]; exact s2 i2 j a b d e, fun j a b => ?_⟩⟩⟩
      by_cases hj : j = (i : Int)
      · subst hj; rw [wr_s]
      · rw [wr_n (by omega)]; exact s3 j a (by omega)
  unfold V_M_keepsAct
  rw [r2]
  refine ⟨fun hu1 => ?_, fun hu1 => ?_⟩
  · exact key u H I hu.1 (by omega) r2 r3 (fun a _ _ => rfl) (fun j _ => rfl) (by omega) (fun i hi => by unfold psh; rw [if_neg hu1, if_neg (by omega)]) (by unfold psh; rw [if_neg hu1, if_pos rfl])
  · have e980 : ∃ f, L_M_keepsAct_13 Q (fun I33 => r32 (I33 236 3 - 1) ∧ J_M_keepsAct_52 Q (wrM I33 236 3 (I33 236 3 - 1))) f (980 + ((0 : Nat) : Int)) I := by
      refine lpr (P := fun f i I2 => L_M_keepsAct_13 Q (fun I33 => r32 (I33 236 3 - 1) ∧ J_M_keepsAct_52 Q (wrM I33 236 3 (I33 236 3 - 1))) f (980 + (i : Int)) I2) (S := fun i I2 => (∀ a : Int, a ≠ 239 → I2 a = I a) ∧ (∀ x : Int, (i : Int) ≤ x → I2 239 x = I 239 x) ∧ ∀ x : Int, 0 ≤ x → x < (i : Int) → I2 239 x = I 239 (x + 980)) 8820 ⟨fun a _ => rfl, fun x _ => rfl, fun x a b => by omega⟩ ?_ ?_
      · intro n I2 hS
        obtain ⟨s1, s2, s3⟩ := hS
        simp only [L_M_keepsAct_13]
        have e3 : I2 236 3 = 10 := by rw [s1 236 (by omega), r2]; exact hu1
        rw [e3]
        refine ⟨fun _ => ⟨by omega, key 9 (fun i => H (i + 1)) _ (by omega) (by omega) (by rw [wr_s]; omega) (fun i j a b d e => ?_) (fun a p q => by rw [wr_oth _ p]; exact s1 a q) (fun j hj => by rw [wr_n (by omega), s1 236 (by omega)]) (by omega) (fun i hi => by unfold psh; rw [if_pos hu1, if_neg (by omega)]) (by unfold psh; rw [if_pos hu1, if_pos rfl])⟩, fun q => absurd q (by decide)⟩
        rw [wr_oth _ (by decide), s3 _ (by omega) (by omega), ← r3 (i + 1) j (by omega) (by omega) d e]
        congr 1
        omega
      · intro i n I2 hi hS ih
        obtain ⟨s1, s2, s3⟩ := hS
        simp only [L_M_keepsAct_13]
        refine ⟨fun q => by omega, fun _ => ⟨by omega, by omega, by omega, ?_⟩⟩
        have h := ih (wrM I2 239 (980 + (i : Int) - 980) (I2 239 (980 + (i : Int)))) ⟨fun a ha => by rw [wr_oth _ ha]; exact s1 a ha, fun x hx => by rw [wr_n (by omega)]; exact s2 x (by omega), fun x a b => ?_⟩
        · rw [show (980 : Int) + ((i + 1 : Nat) : Int) = 980 + (i : Int) + 1 by omega] at h
          exact h
        · by_cases hx : x = (i : Int)
          · rw [hx, show (980 + (i : Int) - 980) = (i : Int) by omega, wr_s, s2 _ (by omega)]
            congr 1
            omega
          · rw [wr_n (by omega)]; exact s3 x a (by omega)
    exact e980
theorem m_keepsAct {I : Mm} {M : Rw} {u : Int} {H : Int → Rw} {k : Int → Int} {S : Int → Rw} {l : Int} {T : Int → Int} {Q : Mm → Prop} (h : RS I M u H k S l T) (hu : 0 ≤ u ∧ u ≤ 10) (hQ : ∀ I' : Mm, RS I' M (min (u + 1) 10) (psh u H M) k S l T → (∀ a : Int, a < 236 → I' a = I a) → Q I') : V_M_keepsAct I Q :=
  m_keepsAct2 h hu (fun I' h1 h2 => hQ I' h1 (fun a ha => h2 a (by omega) (by omega)))
theorem m_in {x0 x2 x4 : Int} {I : Mm} {Q : Int → Mm → Prop} (h1 : x2 ≤ x0 → x0 ≤ x4 → Q 1 I) (h0 : ¬ (x2 ≤ x0 ∧ x0 ≤ x4) → Q 0 I) : V_M_in x0 x2 x4 I Q :=
  ⟨fun q => h0 (by omega), fun q => ⟨fun r => h0 (by omega), fun r => h1 q r⟩⟩
theorem m_isName {x1 : Int} {I : Mm} {M : Rw} {Q : Int → Mm → Prop} (hM : I 237 = M) (h4 : 0 ≤ M 4 ∧ M 4 ≤ 16) (h1 : 0 ≤ x1 → x1 < M 4 → Q 1 I) (h0 : ¬ (0 ≤ x1 ∧ x1 < M 4) → Q 0 I) : V_M_isName x1 I Q := by
  unfold V_M_isName
  rw [hM]
  exact ⟨by omega, m_in (fun a b => ⟨.inr rfl, h1 a (by omega)⟩) (fun q => ⟨.inl rfl, h0 (by omega)⟩)⟩
theorem m_isRule {x1 : Int} {I : Mm} {M : Rw} {Q : Int → Mm → Prop} (hM : I 237 = M) (h4 : 0 ≤ M 5 ∧ M 5 ≤ 12) (h1 : 0 ≤ x1 → x1 < M 5 → Q 1 I) (h0 : ¬ (0 ≤ x1 ∧ x1 < M 5) → Q 0 I) : V_M_isRule x1 I Q := by
  unfold V_M_isRule
  rw [hM]
  exact ⟨by omega, m_in (fun a b => ⟨.inr rfl, h1 a (by omega)⟩) (fun q => ⟨.inl rfl, h0 (by omega)⟩)⟩
