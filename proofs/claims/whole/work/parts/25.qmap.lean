/-! PURE PART, copies of a field; what is counted on a map; plates tried -/
def PcB (r q _k : Nat) : Prop := q = r ∨ (4 * r + 5 ≤ q ∧ q ≤ 4 * r + 8)
def PmA (q k : Nat) : Prop := q = 8 ∨ q = 9 ∨ (q = 0 ∧ ((36 ≤ k ∧ k ≤ 38) ∨ k = 32 ∨ k = 33))
def PmK (q k : Nat) : Prop := ((q = 5 ∨ q = 6) ∧ k < 12) ∨ (q = 0 ∧ (k = 12 ∨ k = 14 ∨ k = 15 ∨ k = 32 ∨ k = 33))
theorem qs_qs (V : qV) (a j x y : Nat) : qs (qs V a j x) a j y = qs V a j y := by
  funext a' j'
  unfold qs
  split <;> rfl
theorem qs_at (V : qV) (a j x : Nat) : qs V a j x a j = x := by simp [qs]
theorem bec_ok {r r1 : Nat} {V : qV} {c : vMH} (h : (r = 4 ∧ r1 = 1) ∨ (r = 4 ∧ r1 = 3) ∨ (r = 3 ∧ r1 = 1)) (O : OKV V) (F : FC r1 V c) : FC r V (X0_become r r1 c) ∧ Kp (PcB r) c (X0_become r r1 c) := by
  have hn := O.n
  constructor
  · obtain ⟨a1, a2, a3, a4, a5, a6, a7, a8⟩ := F
    rcases h with ⟨rfl, rfl⟩ | ⟨rfl, rfl⟩ | ⟨rfl, rfl⟩
    all_goals
      refine ⟨?_, ?_, ?_, ?_, ?_, ?_, fun j hj => ⟨?_, ?_⟩, fun j hj => ⟨?_, ?_⟩⟩
      · rw [← a1]; simp [X0_become, X0_layAs, rd_up, rd_cpq]
      · rw [← a2]; simp [X0_become, X0_layAs, rd_up, rd_cpq]
      · rw [← a3]; simp [X0_become, X0_layAs, rd_up, rd_cpq]
      · rw [← a4]; simp [X0_become, X0_layAs, rd_up, rd_cpq]
      · rw [← a5]; simp [X0_become, X0_layAs, rd_up, rd_cpq]
      · rw [← a6]; simp [X0_become, X0_layAs, rd_up, rd_cpq]
      · rw [← (a7 j hj).1]; simp [X0_become, X0_layAs, rd_up, rd_cpq, show jn 0 = 0 from rfl, show jn 12 = 12 from rfl, hj]
      · rw [← (a7 j hj).2]; simp [X0_become, X0_layAs, rd_up, rd_cpq, show jn 0 = 0 from rfl, show jn 12 = 12 from rfl, hj]
      · rw [← (a8 j hj).1]; simp [X0_become, X0_layAs, rd_up, rd_cpq, show jn 0 = 0 from rfl, show jn 12 = 12 from rfl, show j < 12 by omega]
      · rw [← (a8 j hj).2]; simp [X0_become, X0_layAs, rd_up, rd_cpq, show jn 0 = 0 from rfl, show jn 12 = 12 from rfl, show j < 12 by omega]
  · unfold X0_become X0_layAs
    have h6 : ∀ k, PcB r (4 * r + 6) k := fun k => Or.inr (by omega)
    have h7 : ∀ k, PcB r (4 * r + 7) k := fun k => Or.inr (by omega)
    have h5 : ∀ k, PcB r (4 * r + 5) k := fun k => Or.inr (by omega)
    have h8 : ∀ k, PcB r (4 * r + 8) k := fun k => Or.inr (by omega)
    have hs : ∀ k, PcB r r k := fun k => Or.inl rfl
    exact (((((((((((Kp.rf.cp h6).cp h7).up (hs _)).up (hs _)).up (hs _)).up (hs _)).up (hs _)).up (hs _)).up (hs _)).cp h5).cp h8)

theorem laysAside_loop (J : vMH → Option (vMH)) : ∀ k i : Nat, i + k = 12 → ∀ N : Nat, k < N → ∀ m : vMH, ∃ m', lq2 N (X6_laysAside_L2 J) (nI i) m = J m' ∧ Kp (fun q k => (q = 8 ∨ q = 9) ∧ i ≤ k ∧ k < 12) m m' ∧ ∀ j, i ≤ j → j < 12 → m'.1 8 j = m.1 5 j ∧ m'.1 9 j = m.1 6 j := by
  intro k
  induction k with
  | zero =>
    intro i hi N hN m
    obtain ⟨N, rfl⟩ : ∃ M, N = M + 1 := ⟨N - 1, by omega⟩
    refine ⟨m, ?_, Kp.rf, fun j h1 h2 => by omega⟩
    rw [lq2_s, X6_laysAside_L2, show i = 12 by omega, if_pos (by decide)]
  | succ k ih =>
    intro i hi N hN m
    obtain ⟨N, rfl⟩ : ∃ M, N = M + 1 := ⟨N - 1, by omega⟩
    obtain ⟨m', g1, g2, g3⟩ := ih (i + 1) (by omega) N (by omega) (v_up (v_up m 8 i (m.1 5 i)) 9 i (m.1 6 i))
    refine ⟨m', ?_, ?_, ?_⟩
    · rw [lq2_s, X6_laysAside_L2, if_neg (by rw [show (12 : Int32) = nI 12 from rfl]; exact nI_ge (by omega) (by decide)), chk_t (inb_nI (by omega) (by decide)), jn_nI (by omega), nI_1]
      exact g1
    · refine Kp.tr ((Kp.rf.up ⟨Or.inl rfl, by omega, by omega⟩).up ⟨Or.inr rfl, by omega, by omega⟩) (g2.mono (fun q k h => by omega))
    · intro j h1 h2
      by_cases hj : j = i
      · subst hj
        rw [g2 _ _ (by omega), g2 _ _ (by omega), rd_up, rd_up, rd_up, rd_up]
        constructor
        · rw [if_neg (by omega), if_pos ⟨rfl, rfl⟩]
        · rw [if_pos ⟨rfl, rfl⟩]
      · obtain ⟨y1, y2⟩ := g3 j (by omega) h2
        rw [y1, y2, rd_up, rd_up, rd_up, rd_up, if_neg (by omega), if_neg (by omega), if_neg (by omega), if_neg (by omega)]
        exact ⟨rfl, rfl⟩

theorem laysBack_loop (J : vMH → Option (vMH)) : ∀ k i : Nat, i + k = 12 → ∀ N : Nat, k < N → ∀ m : vMH, ∃ m', lq2 N (X6_laysBack_L2 J) (nI i) m = J m' ∧ Kp (fun q k => (q = 5 ∨ q = 6) ∧ i ≤ k ∧ k < 12) m m' ∧ ∀ j, i ≤ j → j < 12 → m'.1 5 j = m.1 8 j ∧ m'.1 6 j = m.1 9 j := by
  intro k
  induction k with
  | zero =>
    intro i hi N hN m
    obtain ⟨N, rfl⟩ : ∃ M, N = M + 1 := ⟨N - 1, by omega⟩
    refine ⟨m, ?_, Kp.rf, fun j h1 h2 => by omega⟩
    rw [lq2_s, X6_laysBack_L2, show i = 12 by omega, if_pos (by decide)]
  | succ k ih =>
    intro i hi N hN m
    obtain ⟨N, rfl⟩ : ∃ M, N = M + 1 := ⟨N - 1, by omega⟩
    obtain ⟨m', g1, g2, g3⟩ := ih (i + 1) (by omega) N (by omega) (v_up (v_up m 5 i (m.1 8 i)) 6 i (m.1 9 i))
    refine ⟨m', ?_, ?_, ?_⟩
    · rw [lq2_s, X6_laysBack_L2, if_neg (by rw [show (12 : Int32) = nI 12 from rfl]; exact nI_ge (by omega) (by decide)), chk_t (inb_nI (by omega) (by decide)), jn_nI (by omega), nI_1]
      exact g1
    · refine Kp.tr ((Kp.rf.up ⟨Or.inl rfl, by omega, by omega⟩).up ⟨Or.inr rfl, by omega, by omega⟩) (g2.mono (fun q k h => by omega))
    · intro j h1 h2
      by_cases hj : j = i
      · subst hj
        rw [g2 _ _ (by omega), g2 _ _ (by omega), rd_up, rd_up, rd_up, rd_up]
        constructor
        · rw [if_neg (by omega), if_pos ⟨rfl, rfl⟩]
        · rw [if_pos ⟨rfl, rfl⟩]
      · obtain ⟨y1, y2⟩ := g3 j (by omega) h2
        rw [y1, y2, rd_up, rd_up, rd_up, rd_up, if_neg (by omega), if_neg (by omega), if_neg (by omega), if_neg (by omega)]
        exact ⟨rfl, rfl⟩

theorem image_loop (J : vMH → Option (Int32 × vMH)) : ∀ k i : Nat, i + k = 12 → ∀ N : Nat, k < N → ∀ m : vMH, ∃ m', lq2 N (X6_image_L2 J) (nI i) m = J m' ∧ Kp (fun q k => (q = 10 ∨ q = 11) ∧ i ≤ k ∧ k < 12) m m' ∧ ∀ j, i ≤ j → j < 12 → m'.1 10 j = m.1 5 j ∧ m'.1 11 j = m.1 6 j := by
  intro k
  induction k with
  | zero =>
    intro i hi N hN m
    obtain ⟨N, rfl⟩ : ∃ M, N = M + 1 := ⟨N - 1, by omega⟩
    refine ⟨m, ?_, Kp.rf, fun j h1 h2 => by omega⟩
    rw [lq2_s, X6_image_L2, show i = 12 by omega, if_pos (by decide)]
  | succ k ih =>
    intro i hi N hN m
    obtain ⟨N, rfl⟩ : ∃ M, N = M + 1 := ⟨N - 1, by omega⟩
    obtain ⟨m', g1, g2, g3⟩ := ih (i + 1) (by omega) N (by omega) (v_up (v_up m 10 i (m.1 5 i)) 11 i (m.1 6 i))
    refine ⟨m', ?_, ?_, ?_⟩
    · rw [lq2_s, X6_image_L2, if_neg (by rw [show (12 : Int32) = nI 12 from rfl]; exact nI_ge (by omega) (by decide)), chk_t (inb_nI (by omega) (by decide)), jn_nI (by omega), nI_1]
      exact g1
    · refine Kp.tr ((Kp.rf.up ⟨Or.inl rfl, by omega, by omega⟩).up ⟨Or.inr rfl, by omega, by omega⟩) (g2.mono (fun q k h => by omega))
    · intro j h1 h2
      by_cases hj : j = i
      · subst hj
        rw [g2 _ _ (by omega), g2 _ _ (by omega), rd_up, rd_up, rd_up, rd_up]
        constructor
        · rw [if_neg (by omega), if_pos ⟨rfl, rfl⟩]
        · rw [if_pos ⟨rfl, rfl⟩]
      · obtain ⟨y1, y2⟩ := g3 j (by omega) h2
        rw [y1, y2, rd_up, rd_up, rd_up, rd_up, if_neg (by omega), if_neg (by omega), if_neg (by omega), if_neg (by omega)]
        exact ⟨rfl, rfl⟩

def AS (V : qV) (m : vMH) : Prop := (∀ j, j < V 4 0 → m.1 8 j = nI (V 1 j) ∧ m.1 9 j = nI (V 2 j)) ∧ m.1 0 36 = nI (V 4 1) ∧ m.1 0 37 = nI (V 4 3) ∧ m.1 0 38 = nI (V 4 4)
/-- the same finds, wet, rule -/
def SV (W V : qV) : Prop := W 4 0 = V 4 0 ∧ W 4 2 = V 4 2 ∧ W 4 5 = V 4 5 ∧ ∀ j, W 0 j = V 0 j ∧ W 3 j = V 3 j
theorem SV.rf {V : qV} : SV V V := ⟨rfl, rfl, rfl, fun _ => ⟨rfl, rfl⟩⟩
theorem SV.tr {U V W : qV} (h : SV U V) (h2 : SV V W) : SV U W := ⟨h.1.trans h2.1, h.2.1.trans h2.2.1, h.2.2.1.trans h2.2.2.1, fun j => ⟨(h.2.2.2 j).1.trans (h2.2.2.2 j).1, (h.2.2.2 j).2.trans (h2.2.2.2 j).2⟩⟩
theorem SV.g {U V : qV} (h : ∀ a j, ¬ (a = 4 ∧ j = 1) → U a j = V a j) : SV U V := ⟨h _ _ (by decide), h _ _ (by decide), h _ _ (by decide), fun j => ⟨h _ _ (by omega), h _ _ (by omega)⟩⟩
theorem SV.plo {V : qV} : SV (ploV V) V := by
  have e : ∀ a j, ¬ (a = 4 ∧ j = 4) → a ≠ 1 → a ≠ 2 → ploV V a j = V a j := by
    intro a j h h1 h2
    unfold ploV
    rw [qs, if_neg h, plR_4 _ _ ⟨h1, h2⟩]
  exact ⟨e _ _ (by decide) (by decide) (by decide), e _ _ (by decide) (by decide) (by decide), e _ _ (by decide) (by decide) (by decide), fun j => ⟨e _ _ (by omega) (by decide) (by decide), e _ _ (by omega) (by decide) (by decide)⟩⟩
theorem SV.sc {V : qV} {k i : Nat} {z : Int32} : SV (scR k i z V) V := ⟨scR_4 _ _ (by decide) _ _ _ _, scR_4 _ _ (by decide) _ _ _ _, scR_4 _ _ (by decide) _ _ _ _, fun j => ⟨scR_4 _ _ (by decide) _ _ _ _, scR_4 _ _ (by decide) _ _ _ _⟩⟩
theorem SV.pl {V : qV} {p : Nat} : SV (qs V 4 3 p) V := ⟨rfl, rfl, rfl, fun _ => ⟨by simp [qs], by simp [qs]⟩⟩
theorem AS.kp {V : qV} {P : Nat → Nat → Prop} {m m' : vMH} (h : AS V m) (k : Kp P m m') (h1 : ∀ j, ¬ P 8 j) (h2 : ∀ j, ¬ P 9 j) (h3 : ∀ j, 36 ≤ j → j ≤ 38 → ¬ P 0 j) : AS V m' := by
  obtain ⟨a, b, c, d⟩ := h
  refine ⟨fun j hj => ?_, ?_, ?_, ?_⟩
  · rw [k _ _ (h1 j), k _ _ (h2 j)]; exact a j hj
  · rw [k _ _ (h3 36 (by omega) (by omega))]; exact b
  · rw [k _ _ (h3 37 (by omega) (by omega))]; exact c
  · rw [k _ _ (h3 38 (by omega) (by omega))]; exact d
theorem aside_ok {V : qV} {m : vMH} (O : OKV V) (F : FM V m) : ∃ m', X6_laysAside m = some m' ∧ FM V m' ∧ AS V m' ∧ m'.1 0 32 = 0 ∧ m'.1 0 33 = 0 ∧ Kp PmA m m' := by
  have hn := O.n
  obtain ⟨m1, g1, g2, g3⟩ := laysAside_loop (fun mh1 => (some (v_up (v_up (v_up (v_up (v_up mh1 0 36 (mh1.1 0 12)) 0 37 (mh1.1 0 14)) 0 38 (mh1.1 0 15)) 0 32 0) 0 33 0))) 12 0 rfl 4096 (by decide) m
  have k1 : Kp PmA m m1 := g2.mono (fun q k h => by unfold PmA; omega)
  have k2 : Kp PmA m (v_up (v_up (v_up (v_up (v_up m1 0 36 (m1.1 0 12)) 0 37 (m1.1 0 14)) 0 38 (m1.1 0 15)) 0 32 0) 0 33 0) := ((((k1.up (by unfold PmA; omega)).up (by unfold PmA; omega)).up (by unfold PmA; omega)).up (by unfold PmA; omega)).up (by unfold PmA; omega)
  refine ⟨_, ?_, F.kp k2 (fun k h => by unfold PmA; omega) (fun q k h1 h2 h3 => by unfold PmA; omega) hn, ⟨fun j hj => ?_, ?_, ?_, ?_⟩, ?_, ?_, k2⟩
  · unfold X6_laysAside
    simp only [wj1]
    exact g1
  · obtain ⟨y1, y2⟩ := g3 j (by omega) (by omega)
    simp only [rd_up]
    simp only [Nat.reduceEqDiff, false_and, if_false]
    rw [y1, y2]
    exact F.2.2.2.2.2.2.2 j hj
  · simp [rd_up]; rw [k1 _ _ (by unfold PmA; omega)]; exact F.g
  · simp [rd_up]; rw [k1 _ _ (by unfold PmA; omega)]; exact F.p
  · simp [rd_up]; rw [k1 _ _ (by unfold PmA; omega)]; exact F.y
  · simp [rd_up]
  · simp [rd_up]
theorem back_ok {V W : qV} {m : vMH} (O : OKV V) (S : SV W V) (A : AS V m) (F : FM W m) : ∃ m', X6_laysBack m = some m' ∧ FM V m' ∧ AS V m' ∧ m'.1 0 32 = 0 ∧ m'.1 0 33 = 0 ∧ Kp PmK m m' := by
  have hn := O.n
  obtain ⟨m1, g1, g2, g3⟩ := laysBack_loop (fun mh1 => (some (v_up (v_up (v_up (v_up (v_up mh1 0 12 (mh1.1 0 36)) 0 14 (mh1.1 0 37)) 0 15 (mh1.1 0 38)) 0 32 0) 0 33 0))) 12 0 rfl 4096 (by decide) m
  have k1 : Kp PmK m m1 := g2.mono (fun q k h => by unfold PmK; omega)
  have k2 : Kp PmK m (v_up (v_up (v_up (v_up (v_up m1 0 12 (m1.1 0 36)) 0 14 (m1.1 0 37)) 0 15 (m1.1 0 38)) 0 32 0) 0 33 0) := ((((k1.up (by unfold PmK; omega)).up (by unfold PmK; omega)).up (by unfold PmK; omega)).up (by unfold PmK; omega)).up (by unfold PmK; omega)
  obtain ⟨s1, s2, s3, s4⟩ := S
  obtain ⟨b1, b2, b3, b4⟩ := A
  obtain ⟨a1, a2, a3, a4, a5, a6, a7, a8⟩ := F
  refine ⟨_, ?_, ⟨?_, ?_, ?_, ?_, ?_, ?_, fun j hj => ⟨?_, ?_⟩, fun j hj => ⟨?_, ?_⟩⟩, AS.kp ⟨b1, b2, b3, b4⟩ k2 (fun j => by unfold PmK; omega) (fun j => by unfold PmK; omega) (fun j h1 h2 => by unfold PmK; omega), ?_, ?_, k2⟩
  · unfold X6_laysBack
    simp only [wj1]
    exact g1
  · rw [k2 _ _ (by unfold PmK; omega), a1, s1]
  · simp [rd_up]; rw [k1 _ _ (by unfold PmK; omega)]; exact b2
  · rw [k2 _ _ (by unfold PmK; omega), a3, s2]
  · simp [rd_up]; rw [k1 _ _ (by unfold PmK; omega)]; exact b3
  · simp [rd_up]; rw [k1 _ _ (by unfold PmK; omega)]; exact b4
  · rw [k2 _ _ (by unfold PmK; omega), a6, s3]
  · rw [k2 _ _ (by unfold PmK; omega), (a7 j hj).1, (s4 j).1]
  · rw [k2 _ _ (by unfold PmK; omega), (a7 j hj).2, (s4 j).2]
  · simp [rd_up]; rw [(g3 j (by omega) (by omega)).1]; exact (b1 j hj).1
  · simp [rd_up]; rw [(g3 j (by omega) (by omega)).2]; exact (b1 j hj).2
  · simp [rd_up]
  · simp [rd_up]

theorem pl_C {r : Nat} {V : qV} {c : vMH} {y : Nat} (hr : isF r) (F : FC r V c) : FC r (qs V 4 3 y) (v_up c r 7 (nI y)) := by
  have hr2 : 1 ≤ r ∧ r ≤ 4 := by rcases hr with rfl | rfl | rfl | rfl <;> decide
  obtain ⟨a1, a2, a3, a4, a5, a6, a7, a8⟩ := F
  refine ⟨?_, ?_, ?_, ?_, ?_, ?_, fun j hj => ⟨?_, ?_⟩, fun j hj => ⟨?_, ?_⟩⟩
  · rw [rd_up, if_neg (by omega)]; exact a1
  · rw [rd_up, if_neg (by omega)]; exact a2
  · rw [rd_up, if_neg (by omega)]; exact a3
  · rw [rd_up, if_pos ⟨rfl, rfl⟩]; rfl
  · rw [rd_up, if_neg (by omega)]; exact a5
  · rw [rd_up, if_neg (by omega)]; exact a6
  · rw [rd_up, if_neg (by omega)]; exact (a7 j hj).1
  · rw [rd_up, if_neg (by omega)]; exact (a7 j hj).2
  · rw [rd_up, if_neg (by omega)]; exact (a8 j hj).1
  · rw [rd_up, if_neg (by omega)]; exact (a8 j hj).2
theorem pl_M {V : qV} {m : vMH} {y : Nat} (F : FM V m) : FM (qs V 4 3 y) (v_up m 0 14 (nI y)) := by
  obtain ⟨a1, a2, a3, a4, a5, a6, a7, a8⟩ := F
  refine ⟨?_, ?_, ?_, ?_, ?_, ?_, fun j hj => ⟨?_, ?_⟩, fun j hj => ⟨?_, ?_⟩⟩
  · rw [rd_up, if_neg (by omega)]; exact a1
  · rw [rd_up, if_neg (by omega)]; exact a2
  · rw [rd_up, if_neg (by omega)]; exact a3
  · rw [rd_up, if_pos ⟨rfl, rfl⟩]; rfl
  · rw [rd_up, if_neg (by omega)]; exact a5
  · rw [rd_up, if_neg (by omega)]; exact a6
  · rw [rd_up, if_neg (by omega)]; exact (a7 j hj).1
  · rw [rd_up, if_neg (by omega)]; exact (a7 j hj).2
  · rw [rd_up, if_neg (by omega)]; exact (a8 j hj).1
  · rw [rd_up, if_neg (by omega)]; exact (a8 j hj).2
theorem wt_C {r : Nat} {V : qV} {c : vMH} {y : Nat} (hr : isF r) (F : FC r V c) : FC r (qs V 4 2 y) (v_up c r 6 (nI y)) := by
  have hr2 : 1 ≤ r ∧ r ≤ 4 := by rcases hr with rfl | rfl | rfl | rfl <;> decide
  obtain ⟨a1, a2, a3, a4, a5, a6, a7, a8⟩ := F
  refine ⟨?_, ?_, ?_, ?_, ?_, ?_, fun j hj => ⟨?_, ?_⟩, fun j hj => ⟨?_, ?_⟩⟩
  · rw [rd_up, if_neg (by omega)]; exact a1
  · rw [rd_up, if_neg (by omega)]; exact a2
  · rw [rd_up, if_pos ⟨rfl, rfl⟩]; rfl
  · rw [rd_up, if_neg (by omega)]; exact a4
  · rw [rd_up, if_neg (by omega)]; exact a5
  · rw [rd_up, if_neg (by omega)]; exact a6
  · rw [rd_up, if_neg (by omega)]; exact (a7 j hj).1
  · rw [rd_up, if_neg (by omega)]; exact (a7 j hj).2
  · rw [rd_up, if_neg (by omega)]; exact (a8 j hj).1
  · rw [rd_up, if_neg (by omega)]; exact (a8 j hj).2
theorem wt_M {V : qV} {m : vMH} {y : Nat} (F : FM V m) : FM (qs V 4 2 y) (v_up m 0 13 (nI y)) := by
  obtain ⟨a1, a2, a3, a4, a5, a6, a7, a8⟩ := F
  refine ⟨?_, ?_, ?_, ?_, ?_, ?_, fun j hj => ⟨?_, ?_⟩, fun j hj => ⟨?_, ?_⟩⟩
  · rw [rd_up, if_neg (by omega)]; exact a1
  · rw [rd_up, if_neg (by omega)]; exact a2
  · rw [rd_up, if_pos ⟨rfl, rfl⟩]; rfl
  · rw [rd_up, if_neg (by omega)]; exact a4
  · rw [rd_up, if_neg (by omega)]; exact a5
  · rw [rd_up, if_neg (by omega)]; exact a6
  · rw [rd_up, if_neg (by omega)]; exact (a7 j hj).1
  · rw [rd_up, if_neg (by omega)]; exact (a7 j hj).2
  · rw [rd_up, if_neg (by omega)]; exact (a8 j hj).1
  · rw [rd_up, if_neg (by omega)]; exact (a8 j hj).2
theorem pl_O {V : qV} {p : Nat} (O : OKV V) (hp : p ≤ 10) : OKV (qs V 4 3 p) := by
  obtain ⟨o1, o2, o3, o4, o5, o6, o7⟩ := O
  exact ⟨o1, o2, o3, by rw [qs_at]; exact hp, o5, o6, o7⟩
theorem wt_O {V : qV} {p : Nat} (O : OKV V) (hp : p ≤ 9) : OKV (qs V 4 2 p) := by
  obtain ⟨o1, o2, o3, o4, o5, o6, o7⟩ := O
  exact ⟨o1, o2, by rw [qs_at]; exact hp, o4, o5, o6, o7⟩

-- ===== dots =====
def dotP (V : qV) (x f : Nat) : Bool := (V 4 1).testBit f && decide (V 1 f = x)
def dotV (V : qV) (x : Nat) : Nat := cnt (dotP V x) (V 4 0)
theorem dots_C {r : Nat} {V : qV} {c : vMH} (F : FC r V c) (O : OKV V) {x : Nat} (hx : x < 2 ^ 31) : X0_dotsIn r (nI x) c = some (nI (dotV V x)) := by
  have key : ∀ k i : Nat, i + k = V 4 0 → ∀ N : Nat, k < N → lq2 N (X0_dotsIn_L4 r (nI x) c) (nI (cnt (dotP V x) i)) (nI i) = some (nI (dotV V x)) := by
    intro k
    induction k with
    | zero =>
      intro i hi N hN
      obtain ⟨N, rfl⟩ : ∃ M, N = M + 1 := ⟨N - 1, by omega⟩
      rw [lq2_s, X0_dotsIn_L4, F.n, if_pos (nI_le (by omega) (by have := O.n; omega)), show i = V 4 0 by omega]; rfl
    | succ k ih =>
      intro i hi N hN
      obtain ⟨N, rfl⟩ : ∃ M, N = M + 1 := ⟨N - 1, by omega⟩
      have hi' : i < V 4 0 := by omega
      have h12 := lt_n O hi'
      have hxx := O.x hi'
      have IH := ih (i + 1) (by omega) N (by omega)
      rw [lq2_s, X0_dotsIn_L4, F.n, if_neg (nI_ge hi' (by have := O.n; omega)), chk_t (inb_nI h12 (by decide)), F.x hi' h12, nI_1, nI_1]
      simp only [lies_z F O hi', nI_eqs (show V 1 i < 2 ^ 31 by omega) hx]
      rw [cnt] at IH
      unfold dotP at IH
      by_cases h1 : V 1 i = x
      · rw [if_pos h1]
        by_cases h2 : (V 4 1).testBit i = true
        · rw [if_pos h2]; rw [h2, decide_eq_true h1] at IH; exact IH
        · rw [if_neg h2]
          have h2' : (V 4 1).testBit i = false := by simpa using h2
          rw [h2'] at IH; exact IH
      · rw [if_neg h1]
        rw [decide_eq_false h1, Bool.and_false] at IH; exact IH
  have := key (V 4 0) 0 (by omega) 4096 (by have := O.n; omega)
  exact this
theorem dots_M {V : qV} {m : vMH} (F : FM V m) (O : OKV V) {x : Nat} (hx : x < 2 ^ 31) : X6_dotsOf (nI x) m = some (nI (dotV V x)) := by
  have key : ∀ k i : Nat, i + k = V 4 0 → ∀ N : Nat, k < N → lq2 N (X6_dotsOf_L4 (nI x) m) (nI (cnt (dotP V x) i)) (nI i) = some (nI (dotV V x)) := by
    intro k
    induction k with
    | zero =>
      intro i hi N hN
      obtain ⟨N, rfl⟩ : ∃ M, N = M + 1 := ⟨N - 1, by omega⟩
      rw [lq2_s, X6_dotsOf_L4, F.n, if_pos (nI_le (by omega) (by have := O.n; omega)), show i = V 4 0 by omega]; rfl
    | succ k ih =>
      intro i hi N hN
      obtain ⟨N, rfl⟩ : ∃ M, N = M + 1 := ⟨N - 1, by omega⟩
      have hi' : i < V 4 0 := by omega
      have h12 := lt_n O hi'
      have hxx := O.x hi'
      have IH := ih (i + 1) (by omega) N (by omega)
      rw [lq2_s, X6_dotsOf_L4, F.n, if_neg (nI_ge hi' (by have := O.n; omega))]
      simp only [wj0]
      rw [chk_t (inb_nI h12 (by decide)), F.x hi' h12, nI_1, nI_1, Int32.add_zero]
      simp only [liesM_z F O hi', nI_eqs (show V 1 i < 2 ^ 31 by omega) hx]
      rw [cnt] at IH
      unfold dotP at IH
      by_cases h2 : (V 4 1).testBit i = true
      · rw [if_pos h2]
        by_cases h1 : V 1 i = x
        · rw [if_pos h1]; rw [h2, decide_eq_true h1] at IH; exact IH
        · rw [if_neg h1]
          rw [decide_eq_false h1, Bool.and_false] at IH; exact IH
      · rw [if_neg h2]
        have h2' : (V 4 1).testBit i = false := by simpa using h2
        rw [h2'] at IH; exact IH
  have := key (V 4 0) 0 (by omega) 4096 (by have := O.n; omega)
  exact this
-- ===== how far =====
def adZ (a b : Nat) : Nat := (a - b) + (b - a)
def farZ (x p : Nat) : Nat := 3 * adZ (x / 8) (p / 8) + adZ (x % 8) (p % 8)
theorem far_tab : ∀ x, x < 48 → ∀ p, p < 48 → (3 * (jabs (nI x / 8 - nI p / 8))) + jabs (jr (nI x) 8 - jr (nI p) 8) = nI (farZ x p) ∧ ((3 * (X6_off (nI x / 8) (nI p / 8))) + (X6_off (jr (nI x) 8) (jr (nI p) 8))) = nI (farZ x p) ∧ farZ x p ≤ 22 := by decide +kernel
def farV (V : qV) (p : Nat) : Nat → Nat
  | 0 => 0
  | i + 1 => farV V p i + (if (V 4 1).testBit i = true then farZ (V 1 i) p else 0)
theorem farV_le {V : qV} {p : Nat} (O : OKV V) (hp : p < 48) : ∀ i, i ≤ V 4 0 → farV V p i ≤ 22 * i
  | 0, _ => Nat.le_refl _
  | i + 1, h => by
    have := farV_le O hp i (by omega)
    have h2 := (far_tab _ (O.x (show i < V 4 0 by omega)) p hp).2.2
    rw [farV]; split <;> omega
theorem far_C {r : Nat} {V : qV} {c : vMH} (F : FC r V c) (O : OKV V) {p : Nat} (hp : p < 48) : X0_farFrom r (nI p) c = some (nI (farV V p (V 4 0))) := by
  have key : ∀ k i : Nat, i + k = V 4 0 → ∀ N : Nat, k < N → lq2 N (X0_farFrom_L4 r (nI p) c) (nI (farV V p i)) (nI i) = some (nI (farV V p (V 4 0))) := by
    intro k
    induction k with
    | zero =>
      intro i hi N hN
      obtain ⟨N, rfl⟩ : ∃ M, N = M + 1 := ⟨N - 1, by omega⟩
      rw [lq2_s, X0_farFrom_L4, F.n, if_pos (nI_le (by omega) (by have := O.n; omega)), show i = V 4 0 by omega]
    | succ k ih =>
      intro i hi N hN
      obtain ⟨N, rfl⟩ : ∃ M, N = M + 1 := ⟨N - 1, by omega⟩
      have hi' : i < V 4 0 := by omega
      have h12 := lt_n O hi'
      have IH := ih (i + 1) (by omega) N (by omega)
      rw [lq2_s, X0_farFrom_L4, F.n, if_neg (nI_ge hi' (by have := O.n; omega)), chk_t (inb_nI h12 (by decide)), F.x hi' h12, nI_1]
      simp only [lies_z F O hi']
      rw [farV] at IH
      by_cases h2 : (V 4 1).testBit i = true
      · rw [if_pos h2] at IH ⊢
        rw [Int32.add_assoc, (far_tab _ (O.x hi') p hp).1, nI_add]; exact IH
      · rw [if_neg h2] at IH ⊢
        exact IH
  exact key (V 4 0) 0 (by omega) 4096 (by have := O.n; omega)
theorem far_M {V : qV} {m : vMH} (F : FM V m) (O : OKV V) {p : Nat} (hp : p < 48) (J : Int32 → Option Int32) : lq2 4096 (X6_pot_L30 m (nI p) J) 0 0 = J (nI (farV V p (V 4 0))) := by
  have key : ∀ k i : Nat, i + k = V 4 0 → ∀ N : Nat, k < N → lq2 N (X6_pot_L30 m (nI p) J) (nI (farV V p i)) (nI i) = J (nI (farV V p (V 4 0))) := by
    intro k
    induction k with
    | zero =>
      intro i hi N hN
      obtain ⟨N, rfl⟩ : ∃ M, N = M + 1 := ⟨N - 1, by omega⟩
      rw [lq2_s, X6_pot_L30, F.n, if_pos (nI_le (by omega) (by have := O.n; omega)), show i = V 4 0 by omega]
    | succ k ih =>
      intro i hi N hN
      obtain ⟨N, rfl⟩ : ∃ M, N = M + 1 := ⟨N - 1, by omega⟩
      have hi' : i < V 4 0 := by omega
      have h12 := lt_n O hi'
      have IH := ih (i + 1) (by omega) N (by omega)
      rw [lq2_s, X6_pot_L30, F.n, if_neg (nI_ge hi' (by have := O.n; omega)), chk_t (inb_nI h12 (by decide)), F.x hi' h12, nI_1]
      simp only [liesM_z F O hi']
      rw [farV] at IH
      by_cases h2 : (V 4 1).testBit i = true
      · rw [if_pos h2] at IH ⊢
        rw [(far_tab _ (O.x hi') p hp).2.1, nI_add]; exact IH
      · rw [if_neg h2] at IH ⊢
        exact IH
  exact key (V 4 0) 0 (by omega) 4096 (by have := O.n; omega)
-- ===== strips in which finds lie =====
theorem seen_ok {r : Nat} {V : qV} {c m : vMH} (F : FC r V c) (G : FM V m) (O : OKV V) (J : Int32 → Option Int32) : ∃ b, X0_stripsWithFinds r c = some b ∧ lq2 4096 (X6_unseen_L4 m J) 0 0 = J b := by
  have key : ∀ k i : Nat, i + k = V 4 0 → ∀ N : Nat, k < N → ∀ a : Int32, ∃ b, lq2 N (X0_stripsWithFinds_L4 r c) a (nI i) = some b ∧ lq2 N (X6_unseen_L4 m J) a (nI i) = J b := by
    intro k
    induction k with
    | zero =>
      intro i hi N hN a
      obtain ⟨N, rfl⟩ : ∃ M, N = M + 1 := ⟨N - 1, by omega⟩
      rw [lq2_s, lq2_s, X0_stripsWithFinds_L4, X6_unseen_L4, F.n, G.n, if_pos (nI_le (by omega) (by have := O.n; omega)), if_pos (nI_le (by omega) (by have := O.n; omega))]
      exact ⟨a, rfl, rfl⟩
    | succ k ih =>
      intro i hi N hN a
      obtain ⟨N, rfl⟩ : ∃ M, N = M + 1 := ⟨N - 1, by omega⟩
      have hi' : i < V 4 0 := by omega
      have h12 := lt_n O hi'
      rw [lq2_s, lq2_s, X0_stripsWithFinds_L4, X6_unseen_L4, F.n, G.n, if_neg (nI_ge hi' (by have := O.n; omega)), if_neg (nI_ge hi' (by have := O.n; omega)), chk_t (inb_nI h12 (by decide)), chk_t (inb_nI h12 (by decide)), F.x hi' h12, G.x hi' h12, nI_1]
      simp only [lies_z F O hi', liesM_z G O hi']
      by_cases h2 : (V 4 1).testBit i = true
      · rw [if_pos h2, if_pos h2]; exact ih (i + 1) (by omega) N (by omega) a
      · rw [if_neg h2, if_neg h2]; exact ih (i + 1) (by omega) N (by omega) _
  exact key (V 4 0) 0 (by omega) 4096 (by have := O.n; omega) 0
