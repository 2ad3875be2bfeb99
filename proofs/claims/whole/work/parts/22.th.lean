/-- placeFor: how many are ahead -/
theorem s_placeFor {c x1 x2 : Int} {I : Mm} {M : Rw} {Q : Int → Mm → Prop} (hR : RTh I c M) (h0 : 0 ≤ M 0 ∧ M 0 ≤ 200) (hs : ∀ i j : Int, 0 ≤ i → i < j → j < M 0 → ahd (M (780 + i)) (M (380 + i)) (M (780 + j)) (M (380 + j))) (hQ : Q (posR M x1 x2) I) : V_Th_placeFor c x1 x2 I Q := by
  unfold V_Th_placeFor
  obtain ⟨hn, hk⟩ := hR
  have hp := posR_is h0.1 hs x1 x2
  generalize posR M x1 x2 = p at hQ hp
  obtain ⟨p0, p1, p2, p3⟩ := hp
  have h : ∀ n : Nat, ∀ lo hi st : Int, 0 ≤ lo → lo ≤ p → p ≤ hi → hi ≤ M 0 → 0 ≤ st → hi - lo < n → hi - lo + st ≤ 200 → L_Th_placeFor_11 c x1 x2 Q n lo hi st I := by
    intro n
    induction n with
    | zero => intro lo hi st; intros; omega
    | succ n ih =>
      intro lo hi st a1 a2 a3 a4 a5 a6 a7
      unfold L_Th_placeFor_11
      by_cases hlt : lo < hi
      · have hm : lo ≤ (lo + hi) / 2 ∧ (lo + hi) / 2 < hi := by omega
        obtain ⟨e1, e2, e3⟩ := hk ((lo + hi) / 2) (by omega) (by omega)
        rw [e1, e3]
        generalize (lo + hi) / 2 = md at *
        have q2 := p2 md
        have q3 := p3 md
        refine ⟨fun _ => by omega, fun _ => ⟨fun _ => by omega, fun _ => ⟨by omega, by omega, by omega, fun b => ⟨by omega, by omega, ih _ _ _ (by omega) (by omega) (by omega) (by omega) (by omega) (by omega) (by omega)⟩, fun b => ⟨by omega, fun b2 => ⟨by omega, ih _ _ _ (by omega) (by omega) (by omega) (by omega) (by omega) (by omega) (by omega)⟩, fun b2 => ⟨by omega, fun b3 => ⟨by omega, ih _ _ _ (by omega) (by omega) (by omega) (by omega) (by omega) (by omega) (by omega)⟩, fun b3 => ⟨by omega, by omega, ih _ _ _ (by omega) (by omega) (by omega) (by omega) (by omega) (by omega) (by omega)⟩⟩⟩⟩⟩⟩
      · have e : lo = p := by omega
        subst e
        exact ⟨fun _ => hQ, fun _ => ⟨fun _ => hQ, fun _ => by omega⟩⟩
  refine ⟨201, h 201 0 (I c 0) 0 (by omega) (by omega) (by omega) (by omega) (by omega) (by omega) (by omega)⟩
/-- the row with one more: at place p -/
def insR (M : Rw) (p num nam due : Int) : Rw := fun j =>
  if j = 0 then M 0 + 1
  else if 380 ≤ j ∧ j ≤ 380 + M 0 then (if j < 380 + p then M j else if j = 380 + p then num else M (j - 1))
  else if 580 ≤ j ∧ j ≤ 580 + M 0 then (if j < 580 + p then M j else if j = 580 + p then nam else M (j - 1))
  else if 780 ≤ j ∧ j ≤ 780 + M 0 then (if j < 780 + p then M j else if j = 780 + p then due else M (j - 1))
  else M j
/-- .. and without the one at place p -/
def delR (M : Rw) (p : Int) : Rw := fun j =>
  if j = 0 then M 0 - 1
  else if 380 + p ≤ j ∧ j < 380 + (M 0 - 1) then M (j + 1)
  else if 580 + p ≤ j ∧ j < 580 + (M 0 - 1) then M (j + 1)
  else if 780 + p ≤ j ∧ j < 780 + (M 0 - 1) then M (j + 1)
  else M j
theorem s_insertAt {c x1 x2 x3 x4 : Int} {I : Mm} {M : Rw} {Q : Mm → Prop} (hR : RTh I c M) (h0 : 0 ≤ M 0 ∧ M 0 < 200) (hp : 0 ≤ x1 ∧ x1 ≤ M 0) (hQ : ∀ I' : Mm, RTh I' c (insR M x1 x2 x3 x4) → (∀ a : Int, ¬ (c ≤ a ∧ a < c + 4) → I' a = I a) → Q I') : V_Th_insertAt c x1 x2 x3 x4 I Q := by
  unfold V_Th_insertAt
  obtain ⟨hn, hk⟩ := hR
  refine ⟨fun _ => by omega, fun _ => ⟨fun _ => by omega, fun _ => ⟨fun _ => ⟨by omega, by omega, by omega, by omega, by omega, by omega, by omega, by omega, by omega, by omega, by omega, by omega, by omega, by omega, by omega, by omega, by omega, by omega, ?_, hQ _ ⟨?_, fun k a b => ⟨?_, ?_, ?_⟩⟩ (fun a ha => ?_)⟩, fun _ => by omega⟩⟩⟩
  all_goals grind [wrM, cpM, insR]
