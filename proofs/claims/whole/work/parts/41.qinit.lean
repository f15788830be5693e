/-! PURE PART, the beginning: text 0, new objects -/
def b0L : List Nat := [100, 105, 103, 115, 32, 51, 48, 32, 60, 32, 116, 111, 110, 101, 32, 59, 32, 104, 101, 97, 114, 115, 32, 49, 48, 32, 59, 32, 119, 111, 114, 116, 104, 32, 116, 111, 110, 101, 32, 45, 32, 49, 48, 32, 59, 32, 32, 32]
/-- a class that has text 0 on its tape -/
def c0T : vMH := (fun q k => if q = 29 then nI (b0L.getD k 0) else if q = 6 ∧ k = 0 then 48 else 0, 0)
theorem c0T_run : (X1_readTape c0T).map (fun q => (q.1, [q.2.1 26 0, q.2.1 26 1, q.2.1 26 2, q.2.1 25 0, q.2.1 25 1, q.2.1 25 2, q.2.1 25 3, q.2.1 25 4, q.2.1 25 5, q.2.1 25 6])) = some (-1, [3, 4, 7, 30, -1, -10, 10, -1, 10, -13]) := by decide +kernel
theorem b0_tab : ∀ j, j < 48 → b0L.getD j 0 ≤ 255 ∧ mhM0.1 1 (160 * 0 + j) = nI (b0L.getD j 0) := by decide +kernel
def V0q : qV := fun a j => if a = 4 ∧ j = 3 then 3 else 0
theorem fC_tab : ∀ j, j < 12 → mhC0.1 (4 * 1 + 5) j = nI (V0q 0 j) ∧ mhC0.1 (4 * 1 + 8) j = nI (V0q 3 j) := by decide +kernel
theorem fM_tab : ∀ j, j < 12 → mhM0.1 4 j = nI (V0q 0 j) ∧ mhM0.1 7 j = nI (V0q 3 j) := by decide +kernel
theorem s0_tab : ∀ s, s < 4 → mhC0.1 30 s = -1 ∧ mhM0.1 12 s = 0 := by decide +kernel
theorem c25_tab : mhC0.1 25 0 = 30 ∧ mhC0.1 25 1 = -1 ∧ mhC0.1 25 2 = -10 ∧ mhC0.1 25 3 = 10 ∧ mhC0.1 25 4 = -1 ∧ mhC0.1 25 5 = 10 ∧ mhC0.1 25 6 = -13 ∧ mhC0.1 26 0 = 3 ∧ mhC0.1 26 1 = 4 ∧ mhC0.1 26 2 = 7 := by decide +kernel
theorem sc_tab : mhC0.1 1 4 = nI 0 ∧ mhC0.1 1 5 = nI 0 ∧ mhC0.1 1 6 = nI 0 ∧ mhC0.1 1 7 = nI 3 ∧ mhC0.1 1 8 = nI 0 ∧ mhC0.1 1 10 = nI 0 ∧ mhC0.1 5 0 = nI 1 ∧ mhC0.1 6 0 = nI 0 ∧ mhC0.1 0 8 = 0 ∧ mhC0.1 1 9 = 0 := by decide +kernel
theorem sm_tab : mhM0.1 0 11 = nI 0 ∧ mhM0.1 0 12 = nI 0 ∧ mhM0.1 0 13 = nI 0 ∧ mhM0.1 0 14 = nI 3 ∧ mhM0.1 0 15 = nI 0 ∧ mhM0.1 0 4 = nI 0 ∧ mhM0.1 0 3 = nI 1 ∧ mhM0.1 0 6 = nI 0 ∧ mhM0.1 0 41 = -1 ∧ mhM0.1 0 16 = 0 ∧ mhM0.1 2 0 = nI 48 := by decide +kernel
theorem rel_start : Rel mhC0 mhM0 := by
  obtain ⟨c1, c2, c3, c4, c5, c6, c7, c8, c9, c10⟩ := sc_tab
  obtain ⟨m1, m2, m3, m4, m5, m6, m7, m8, m9, m10, m11⟩ := sm_tab
  have hrun := c0T_run
  cases hq : X1_readTape c0T with
  | none => rw [hq] at hrun; cases hrun
  | some q =>
    obtain ⟨f, c'⟩ := q
    rw [hq] at hrun
    have h2 := Option.some.inj hrun
    simp only [Prod.mk.injEq, List.cons.injEq, and_true] at h2
    obtain ⟨hf, a0, a1, a2, d0, d1, d2, d3, d4, d5, d6⟩ := h2
    subst hf
    obtain ⟨n1, n2⟩ := new_text (t := 0) (z := 48) (c := c0T) (m := mhM0) (by decide) (by decide) (by rfl) (by rfl) m11 (fun j hj => ⟨b0L.getD j 0, (b0_tab j hj).1, by rfl, (b0_tab j hj).2⟩) hq
    obtain ⟨e0, e1, e2, b1, b2, b3, b4, b5, b6, b7, b8, b9, b10⟩ := n1
    obtain ⟨t0, t1, t2, t3, t4, t5, t6, t7, t8, t9⟩ := c25_tab
    have f0 : e0 = 3 := (nI_eq (by omega) (by decide)).mp (b5.symm.trans a0)
    have f1 : e1 = 4 := (nI_eq (by omega) (by decide)).mp (b6.symm.trans a1)
    have f2 : e2 = 7 := (nI_eq (by omega) (by decide)).mp (b7.symm.trans a2)
    subst f0; subst f1; subst f2
    have hcode : ∀ i, i < 7 → mhC0.1 25 i = c'.1 25 i := by
      intro i hi
      have : i = 0 ∨ i = 1 ∨ i = 2 ∨ i = 3 ∨ i = 4 ∨ i = 5 ∨ i = 6 := by omega
      rcases this with rfl | rfl | rfl | rfl | rfl | rfl | rfl
      · rw [t0, d0]
      · rw [t1, d1]
      · rw [t2, d2]
      · rw [t3, d3]
      · rw [t4, d4]
      · rw [t5, d5]
      · rw [t6, d6]
    have hTC : TC 0 (valP 0 c') mhC0 := by
      refine ⟨3, 4, 7, by decide, by decide, by decide, by decide, t7, t8, t9, fun nv => ?_, fun nv => ?_, fun nv => ?_⟩
      · rw [seg_congr (g := c'.1 25) _ _ (fun i h1 h2 => hcode i (by omega))]; exact b8 nv
      · rw [seg_congr (g := c'.1 25) _ _ (fun i h1 h2 => hcode i (by omega))]; exact b9 nv
      · rw [seg_congr (g := c'.1 25) _ _ (fun i h1 h2 => hcode i (by omega))]; exact b10 nv
    refine ⟨V0q, 1, fun _ => valP 0 c', ?_, ⟨c1, c2, c3, c4, c5, c6, fC_tab, fun j hj => absurd hj (Nat.not_lt_zero _)⟩, ⟨m1, m2, m3, m4, m5, m6, fM_tab, fun j hj => absurd hj (Nat.not_lt_zero _)⟩, by decide, ⟨by decide, by decide, c7, fun t ht => ?_⟩, ⟨m7, fun t ht => ?_⟩, ⟨0, by decide, c8, m8, fun j hj => absurd hj (Nat.not_lt_zero _)⟩, c10.trans m10.symm, Or.inl ⟨c9, m9⟩, fun s hs => Or.inl (s0_tab s hs)⟩
    · refine ⟨by decide, by decide, by decide, by decide, by decide, by decide, fun j hj => absurd hj (Nat.not_lt_zero _)⟩
    · have : t = 0 := by omega
      subst this; exact hTC
    · have : t = 0 := by omega
      subst this; exact n2
