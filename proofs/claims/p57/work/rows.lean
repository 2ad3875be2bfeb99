section
/-! WHY p57 CAN'T BE PROVED: its room bounds every cell that the run makes, not only those that stay in use. REPORT.md, 'STATEMENT', names a script on which the law makes some 3.02 million cells. -/
/-- the claim taken at its word: while the law's invocation is under way, from any start that the Statement allows, the heap has at most 1100221 cells more than at the start, and 5801585 slots more (the machine takes nothing back) -/
theorem rm_total (h : Claimed_1_1) {l : Launch} (hfl : l.flags = flags0) (hL : Lists l classFile x code maxLocals ret tables_1 room_1) {p : Program} {e : Env} (ha : l.admits e) (hc : FairCas e.choices) (hk : FairClock e.choices) {s : State} {m : MethodId} {args : Array Value} {below : List Frame} (hf : s.frames = Frame.invoking m args :: below) (hfit : argsFit s.vm m args = true) (hheap : heapFits s = true) (happ : (headSpec (Cond.code x code maxLocals ret :: tables_1) room_1).applies x e.platform s = true) (hr : rest_1_c.before args s = true) (hp : (Cond.and given_1 narrow_1).before args s = true) (n : Nat) (hw : ∀ k, k < n → Within (stepsAlone p.tables e k s) below) : (stepsAlone p.tables e n s).heap.size ≤ s.heap.size + 1100221 ∧ (stepsAlone p.tables e n s).slotsUsed ≤ s.slotsUsed + 5801585 := by
  obtain ⟨n0, o, hw0, -, hend, hpost⟩ := h l hfl hL trivial p e ha hc hk s m args below hf hfit hheap happ ⟨trivial, hr, hp⟩
  have hn : n ≤ n0 := by
    rcases Nat.lt_or_ge n0 n with q | q
    · exact absurd (hw n0 q) hend.not_within
    · exact q
  obtain ⟨-, -, -, -, h3, h4, h5, -⟩ := hpost.2
  have hg := stepsAlone_heap_grows_add p.tables e n (n0 - n) s
  rw [show n + (n0 - n) = n0 by omega] at hg
  have h3 : (stepsAlone p.tables e n0 s).heap.size ≤ s.heap.size + 1100221 := h3
  have h4 : (stepsAlone p.tables e n0 s).slotsUsed = s.slotsUsed + (((stepsAlone p.tables e n0 s).heap.toList.drop s.heap.size).map (·.slots.size)).sum := h4
  have h5 : (((stepsAlone p.tables e n0 s).heap.toList.drop s.heap.size).map (·.slots.size)).sum ≤ 5801585 := h5
  omega
end
