/-! the law: every call agrees, so it ends with 1 -/
theorem o_digest2 {G : Int} {I : Mm} {Q : Mm → Prop} (hI : Inv G I) (hG : G ≤ 2143000000) (hQ : ∀ I' : Mm, Inv (G + 3000000) I' → Q I') : V_X_digest I (fun z I1 => V_M_digest I1 (fun z' I2 => z = z' ∧ Q I2)) := by
  obtain ⟨M, u, H, k, S, l, T, hC, hR, hA⟩ := hI
  have hst : Q I := hQ I ⟨M, u, H, k, S, l, T, hC, hR, aw_mono hA (by omega)⟩
  have hW := hA.1
  have b0 := hW.1.1
  have hM := hR.1
  unfold V_X_digest V_M_digest
  refine s_digestFrom hC.1.2.1 hW ?_
  refine lp (P := fun n i => L_M_digest_6 (fun z' I2 => dgR M 17 (M 0).toNat = z' ∧ Q I2) n (dgR M 17 i) (i : Int) I) (M 0).toNat (fun n => ?_) (fun i n hi ih => ?_)
  · unfold L_M_digest_6
    rw [hM]
    exact ⟨fun _ => ⟨rfl, hst⟩, fun q => by omega⟩
  · unfold L_M_digest_6
    rw [hM]
    exact ⟨fun q => by omega, fun _ => ⟨by omega, by omega, by omega, by omega, ih⟩⟩
theorem inv_mono {G G' : Int} {I : Mm} (h : Inv G I) (hG : G ≤ G') : Inv G' I := by
  obtain ⟨M, u, H, k, S, l, T, hC, hR, hA⟩ := h
  exact ⟨M, u, H, k, S, l, T, hC, hR, aw_mono hA hG⟩
set_option maxHeartbeats 4000000 in
theorem law_pure {X : Int → Int} {L : Int} {I : Mm} {Q : Mm → Prop} (hL : 0 ≤ L ∧ L ≤ 3072) (hI : Inv 5000000 I) : V_law X L I Q := by
  unfold V_law
  refine lpr (P := fun f i I1 => L_L_law_18 X L Q f ((6 * i : Nat) : Int) I1) (S := fun i I1 => Inv (5000000 + 3000000 * (i : Int)) I1) (L / 6).toNat (by rw [show (5000000 : Int) + 3000000 * ((0 : Nat) : Int) = 5000000 by decide]; exact hI) ?_ ?_
  · intro n I1 hS
    unfold L_L_law_18
    exact ⟨by omega, fun _ => trivial, fun w => by omega⟩
  · intro i n I1 hi hS ih
    generalize hx : ((6 * i : Nat) : Int) = x3
    have e6 : ((6 * (i + 1) : Nat) : Int) = x3 + 6 := by omega
    have K : ∀ I' : Mm, Inv (5000000 + 3000000 * (i : Int) + 3000000) I' → r32 (x3 + 6) ∧ L_L_law_18 X L Q n (x3 + 6) I' := fun I' h => ⟨by omega, by
      have := ih I' (by rw [show (5000000 : Int) + 3000000 * ((i + 1 : Nat) : Int) = 5000000 + 3000000 * (i : Int) + 3000000 by omega]; exact h)
      rw [e6] at this
      exact this⟩
    have hi2 : (i : Int) < 512 := by omega
    have b1 : (0 ≤ x3 + 1 ∧ x3 + 1 < L) = True := eq_true (by omega)
    have b2 : (0 ≤ x3 + 2 ∧ x3 + 2 < L) = True := eq_true (by omega)
    have b3 : (0 ≤ x3 + 3 ∧ x3 + 3 < L) = True := eq_true (by omega)
    have b4 : (0 ≤ x3 + 4 ∧ x3 + 4 < L) = True := eq_true (by omega)
    have b5 : (0 ≤ x3 + 5 ∧ x3 + 5 < L) = True := eq_true (by omega)
    unfold L_L_law_18
    refine ⟨by omega, fun _ => trivial, fun _ => ⟨by omega, ?_⟩⟩
    exact ⟨(fun _ => by
      simp only [b1, b2, b3, b4, b5, true_and]
      exact o_feed hS (by omega) K),
    (fun _ => by
      simp only [b1, true_and]
      exact o_end hS (by omega) K),
    (fun _ => o_tell hS (by omega) (by omega) K),
    (fun _ => o_name hS (by omega) K),
    (fun _ => by
      simp only [b1, b2, true_and]
      exact o_push hS (by omega) K),
    (fun _ => by
      simp only [b1, true_and]
      exact o_take hS (by omega) K),
    (fun _ => by
      simp only [b1, true_and]
      exact o_until hS (by omega) K),
    (fun _ => by
      simp only [b1, true_and]
      exact o_cancel hS (by omega) K),
    (fun _ => by
      simp only [b1, true_and]
      exact o_clear hS (by omega) K),
    (fun _ => by
      simp only [b1, b2, true_and]
      exact o_postpone hS (by omega) K),
    (fun _ => by
      simp only [b1, b2, b3, b4, true_and]
      exact o_series hS (by omega) K),
    (fun _ => by
      simp only [b1, b2, true_and]
      exact o_shift hS (by omega) K),
    (fun _ => by
      simp only [b1, b2, true_and]
      exact o_merge hS (by omega) K),
    (fun _ => by
      simp only [b1, true_and]
      exact o_cut hS (by omega) K),
    (fun _ => by
      simp only [b1, b2, true_and]
      exact o_swap hS (by omega) K),
    (fun _ => by
      simp only [b1, b2, b3, true_and]
      exact o_rule hS (by omega) K),
    (fun _ => by
      simp only [b1, true_and]
      exact o_unrule hS (by omega) K),
    (fun _ => by
      simp only [b1, b2, true_and]
      exact o_resize hS (by omega) K),
    (fun _ => o_undo hS (by omega) K),
    (fun _ => by
      simp only [b1, true_and]
      exact o_keep hS (by omega) K),
    (fun _ => by
      simp only [b1, true_and]
      exact o_back hS (by omega) K),
    (fun _ => by
      simp only [b1, b2, true_and]
      exact o_next hS (by omega) K),
    (fun _ => by
      simp only [b1, b2, true_and]
      exact o_of hS (by omega) K),
    (fun _ => by
      simp only [b1, b2, true_and]
      exact o_row hS (by omega) K),
    (fun _ => by
      simp only [b1, b2, true_and]
      exact o_letter hS (by omega) K),
    (fun _ => by
      simp only [b1, b2, true_and]
      exact o_named hS (by omega) K),
    (fun _ => by
      simp only [b1, b2, true_and]
      exact o_ruled hS (by omega) K),
    (fun _ => by
      simp only [b1, b2, true_and]
      exact o_log hS (by omega) K),
    (fun _ => by
      simp only [b1, true_and]
      exact o_total hS (by omega) K),
    (fun _ => by
      simp only [b1, true_and]
      exact o_skew hS (by omega) K),
    (fun _ => o_looks hS (by omega) K),
    (fun _ => by
      simp only [b1, b2, true_and]
      exact o_lookBy hS (by omega) K),
    (fun _ => by
      simp only [b1, b2, true_and]
      exact o_best hS (by omega) K),
    (fun _ => o_widthNow hS (by omega) K),
    (fun _ => by
      simp only [b1, b2, true_and]
      exact o_ahead hS (by omega) K),
    (fun _ => by
      simp only [b1, b2, true_and]
      exact o_between hS (by omega) K),
    (fun _ => by
      simp only [b1, b2, true_and]
      exact o_crowd hS (by omega) K),
    (fun _ => by
      simp only [b1, b2, true_and]
      exact o_busiest hS (by omega) K),
    (fun _ => by
      simp only [b1, b2, true_and]
      exact o_leads hS (by omega) K),
    (fun _ => by
      simp only [b1, b2, true_and]
      exact o_soonest hS (by omega) K),
    (fun _ => by
      simp only [b1, true_and]
      exact o_day hS (by omega) K),
    (fun _ => by
      simp only [b1, b2, true_and]
      exact o_free hS (by omega) K),
    (fun _ => by
      simp only [b1, true_and]
      exact o_pair hS (by omega) K),
    (fun _ => by
      simp only [b1, b2, true_and]
      exact o_when hS (by omega) K),
    (fun _ => by
      simp only [b1, b2, true_and]
      exact o_same hS (by omega) K),
    (fun _ => by
      simp only [b1, true_and]
      exact o_told hS (by omega) K),
    (fun _ => by
      simp only [b1, true_and]
      exact o_share hS (by omega) K),
    (fun _ => by
      simp only [b1, b2, true_and]
      exact o_bestRows hS (by omega) K),
    (fun _ => by
      simp only [b1, b2, b3, true_and]
      exact o_skewBy hS (by omega) K),
    (fun _ => by
      simp only [b1, true_and]
      exact o_longest hS (by omega) K),
    (fun _ => by
      simp only [b1, b2, b3, true_and]
      exact o_way hS (by omega) K),
    (fun _ => by
      simp only [b1, b2, true_and]
      exact o_by hS (by omega) K),
    (fun _ => o_digest2 hS (by omega) K),
    (fun _ => by
      simp only [b1, true_and]
      exact o_count hS (by omega) K),
    (fun _ => K _ (inv_mono hS (by omega)))⟩
