/-! PURE PART, the plough, a seed; copies of a field; what is counted on a map -/
def PcP (r q k : Nat) : Prop := ((q = 4 * r + 6 ∨ q = 4 * r + 7) ∧ k < 12) ∨ (q = r ∧ k = 8)
def PmP (q k : Nat) : Prop := ((q = 5 ∨ q = 6) ∧ k < 12) ∨ (q = 0 ∧ k = 15)
def nxZ (x q : Nat) (ev : Bool) : Nat := if ev then (if x % 8 + q ≤ 7 then x + q else x / 8 * 8 + 7) else (if q ≤ x % 8 then x - q else x / 8 * 8)
def ndZ (d : Nat) : Nat := if 12 < d then d - 1 else 12 - d
theorem nx_tab : ∀ x, x < 48 → ∀ q, q ≤ 2 → nxZ x q true < 48 ∧ nxZ x q false < 48 ∧ nI x + ((X5_held (jr (nI x) 8 + nI q) 7) - (jr (nI x) 8)) = nI (nxZ x q true) ∧ nI x + ((X5_held (jr (nI x) 8 - nI q) 7) - (jr (nI x) 8)) = nI (nxZ x q false) ∧ (nI x / 8) * 8 + X6_within (jr (nI x) 8 + nI q) 0 7 = nI (nxZ x q true) ∧ (nI x / 8) * 8 + X6_within (jr (nI x) 8 + -nI q) 0 7 = nI (nxZ x q false) := by decide +kernel
theorem nd_tab : ∀ d, d ≤ 20 → ndZ d ≤ 20 ∧ (∀ {ρ : Type} (J : Int32 → ρ), (if 12 < nI d then J (nI d - 1) else J (12 - nI d)) = J (nI (ndZ d))) := by
  intro d hd
  refine ⟨by unfold ndZ; split <;> omega, fun J => ?_⟩
  unfold ndZ
  rw [show (12 : Int32) = nI 12 from rfl]
  simp only [nI_lts (show 12 < 2 ^ 31 by decide) (show d < 2 ^ 31 by omega)]
  by_cases h : 12 < d
  · rw [if_pos h, if_pos h]
    obtain ⟨e, rfl⟩ : ∃ e, d = e + 1 := ⟨d - 1, by omega⟩
    rw [nI_pred]; rfl
  · rw [if_neg h, if_neg h, pk_sub (by omega)]
theorem yr_tab : ∀ y, y ≤ 99 → jmin 99 (nI y + 1) = nI (min 99 (y + 1)) ∧ (if 99 ≤ nI y then (99 : Int32) else nI y + 1) = nI (min 99 (y + 1)) ∧ (jr (nI y) 2 = 0 ↔ y % 2 = 0) := by decide +kernel
/-- find i is turned -/
def plS (W : qV) (i : Nat) : qV := if (W 4 1).testBit i = true then W else qs (qs W 1 i (nxZ (W 1 i) (dragZ (W 0 i) (W 3 i) (W 2 i)) (decide (W 4 4 % 2 = 0)))) 2 i (ndZ (W 2 i))
def plR : Nat → Nat → qV → qV
  | 0, _, W => W
  | k + 1, i, W => plR k (i + 1) (plS W i)
def ploV (V : qV) : qV := qs (plR (V 4 0) 0 V) 4 4 (min 99 (V 4 4 + 1))
theorem cd_C {r : Nat} {V : qV} {c : vMH} {i x d : Nat} (hr : isF r) (F : FC r V c) (hi : i < 12) : FC r (qs (qs V 1 i x) 2 i d) (v_up (v_up c (4 * r + 6) (jn (nI i)) (nI x)) (4 * r + 7) (jn (nI i)) (nI d)) := by
  have hr2 : 1 ≤ r ∧ r ≤ 4 := by rcases hr with rfl | rfl | rfl | rfl <;> decide
  rw [jn_nI (by omega)]
  obtain ⟨a1, a2, a3, a4, a5, a6, a7, a8⟩ := F
  refine ⟨?_, ?_, ?_, ?_, ?_, ?_, fun j hj => ⟨?_, ?_⟩, fun j hj => ⟨?_, ?_⟩⟩
  · rw [rd_up, rd_up, if_neg (by omega), if_neg (by omega)]; exact a1
  · rw [rd_up, rd_up, if_neg (by omega), if_neg (by omega)]; exact a2
  · rw [rd_up, rd_up, if_neg (by omega), if_neg (by omega)]; exact a3
  · rw [rd_up, rd_up, if_neg (by omega), if_neg (by omega)]; exact a4
  · rw [rd_up, rd_up, if_neg (by omega), if_neg (by omega)]; exact a5
  · rw [rd_up, rd_up, if_neg (by omega), if_neg (by omega)]; exact a6
  · rw [rd_up, rd_up, if_neg (by omega), if_neg (by omega)]; exact (a7 j hj).1
  · rw [rd_up, rd_up, if_neg (by omega), if_neg (by omega)]; exact (a7 j hj).2
  · rw [rd_up, rd_up, if_neg (by omega)]
    by_cases h : j = i
    · subst h; simp [qs]
    · rw [if_neg (fun z => h z.2)]; simp only [qs, h, and_false, if_false]; exact (a8 j hj).1
  · rw [rd_up, rd_up]
    by_cases h : j = i
    · subst h; simp [qs]
    · rw [if_neg (fun z => h z.2), if_neg (fun z => h z.2)]; simp only [qs, h, and_false, if_false]; exact (a8 j hj).2
theorem cd_M {V : qV} {m : vMH} {i x d : Nat} (F : FM V m) (hi : i < 12) : FM (qs (qs V 1 i x) 2 i d) (v_up (v_up m 5 (jn (nI i)) (nI x)) 6 (jn (nI i)) (nI d)) := by
  rw [jn_nI (by omega)]
  obtain ⟨a1, a2, a3, a4, a5, a6, a7, a8⟩ := F
  refine ⟨?_, ?_, ?_, ?_, ?_, ?_, fun j hj => ⟨?_, ?_⟩, fun j hj => ⟨?_, ?_⟩⟩
  · rw [rd_up, rd_up, if_neg (by omega), if_neg (by omega)]; exact a1
  · rw [rd_up, rd_up, if_neg (by omega), if_neg (by omega)]; exact a2
  · rw [rd_up, rd_up, if_neg (by omega), if_neg (by omega)]; exact a3
  · rw [rd_up, rd_up, if_neg (by omega), if_neg (by omega)]; exact a4
  · rw [rd_up, rd_up, if_neg (by omega), if_neg (by omega)]; exact a5
  · rw [rd_up, rd_up, if_neg (by omega), if_neg (by omega)]; exact a6
  · rw [rd_up, rd_up, if_neg (by omega), if_neg (by omega)]; exact (a7 j hj).1
  · rw [rd_up, rd_up, if_neg (by omega), if_neg (by omega)]; exact (a7 j hj).2
  · rw [rd_up, rd_up, if_neg (by omega)]
    by_cases h : j = i
    · subst h; simp [qs]
    · rw [if_neg (fun z => h z.2)]; simp only [qs, h, and_false, if_false]; exact (a8 j hj).1
  · rw [rd_up, rd_up]
    by_cases h : j = i
    · subst h; simp [qs]
    · rw [if_neg (fun z => h z.2), if_neg (fun z => h z.2)]; simp only [qs, h, and_false, if_false]; exact (a8 j hj).2
theorem cd_O {V : qV} {i x d : Nat} (O : OKV V) (hx : x < 48) (hd : d ≤ 20) : OKV (qs (qs V 1 i x) 2 i d) := by
  obtain ⟨o1, o2, o3, o4, o5, o6, o7⟩ := O
  refine ⟨o1, o2, o3, o4, o5, o6, fun j hj => ⟨?_, ?_⟩⟩
  · show (if 1 = 2 ∧ j = i then d else if 1 = 1 ∧ j = i then x else V 1 j) < 48
    rw [if_neg (by omega)]
    split
    · exact hx
    · exact (o7 j hj).1
  · show (if 2 = 2 ∧ j = i then d else if 2 = 1 ∧ j = i then x else V 2 j) ≤ 20
    split
    · exact hd
    · rw [if_neg (by omega)]; exact (o7 j hj).2
theorem plS_4 (W : qV) (i a j : Nat) (h : a ≠ 1 ∧ a ≠ 2) : plS W i a j = W a j := by
  unfold plS
  split
  · rfl
  · unfold qs; rw [if_neg (by omega), if_neg (by omega)]
theorem plS_O {W : qV} {i : Nat} (O : OKV W) (hi : i < W 4 0) : OKV (plS W i) := by
  unfold plS
  split
  · exact O
  · have hq := (drag_tab _ (O.k hi) _ (O.s hi) _ (O.d hi)).2.2
    have hx := nx_tab _ (O.x hi) _ hq
    refine cd_O O ?_ (nd_tab _ (O.d hi)).1
    cases decide (W 4 4 % 2 = 0)
    · exact hx.2.1
    · exact hx.1
theorem plR_4 (a j : Nat) (h : a ≠ 1 ∧ a ≠ 2) : ∀ (k i : Nat) (W : qV), plR k i W a j = W a j
  | 0, _, _ => rfl
  | k + 1, i, W => by rw [plR, plR_4 a j h k (i + 1), plS_4 W i a j h]
theorem plR_O : ∀ (k i : Nat) (W : qV), OKV W → i + k = W 4 0 → OKV (plR k i W)
  | 0, _, _, O, _ => O
  | k + 1, i, W, O, h => plR_O k (i + 1) (plS W i) (plS_O O (by omega)) (by rw [plS_4 _ _ _ _ (by decide)]; omega)
theorem ploV_O {V : qV} (O : OKV V) : OKV (ploV V) := by
  obtain ⟨o1, o2, o3, o4, o5, o6, o7⟩ := plR_O (V 4 0) 0 V O (by omega)
  refine ⟨o1, o2, o3, o4, ?_, o6, o7⟩
  have : ploV V 4 4 = min 99 (V 4 4 + 1) := by simp [ploV, qs]
  omega
theorem turn_C_loop {r : Nat} (hr : isF r) (J : vMH → Option vMH) : ∀ k i : Nat, ∀ N : Nat, k < N → ∀ (W : qV) (c : vMH), FC r W c → OKV W → i + k = W 4 0 → ∃ c', lq2 N (X0_turnOver_L2 r J) (nI i) c = J c' ∧ FC r (plR k i W) c' ∧ Kp (PcP r) c c' := by
  intro k
  induction k with
  | zero =>
    intro i N hN W c F O hi
    obtain ⟨N, rfl⟩ : ∃ M, N = M + 1 := ⟨N - 1, by omega⟩
    refine ⟨c, ?_, F, Kp.rf⟩
    rw [lq2_s]; rw [X0_turnOver_L2]
    rw [F.n, if_pos (nI_le (by omega) (by have := O.n; omega))]
  | succ k ih =>
    intro i N hN W c F O hi
    obtain ⟨N, rfl⟩ : ∃ M, N = M + 1 := ⟨N - 1, by omega⟩
    have hi' : i < W 4 0 := by omega
    have h12 := lt_n O hi'
    have hO := plS_O O hi'
    have h4 : i + 1 + k = plS W i 4 0 := by rw [plS_4 _ _ _ _ (by decide)]; omega
    rw [lq2_s]; rw [X0_turnOver_L2]
    rw [F.n, if_neg (nI_ge hi' (by have := O.n; omega)), nI_1]
    simp only [lies_z F O hi']
    by_cases hl : (W 4 1).testBit i = true
    · rw [if_pos hl]
      have e : plS W i = W := by unfold plS; rw [if_pos hl]
      obtain ⟨c', g1, g2, g3⟩ := ih (i + 1) N (by omega) W c F O (by omega)
      refine ⟨c', g1, ?_, g3⟩
      rw [plR, e]; exact g2
    · rw [if_neg hl, chk_t (inb_nI h12 (by decide)), F.k h12, F.s h12, F.x hi' h12, F.d hi' h12, F.y]
      obtain ⟨d1, d2, d3⟩ := drag_tab _ (O.k hi') _ (O.s hi') _ (O.d hi')
      obtain ⟨n1, n2, n3, n4, n5, n6⟩ := nx_tab _ (O.x hi') _ d3
      simp only [wj1]
      rw [d1]
      simp only [(yr_tab _ O.2.2.2.2.1).2.2]
      have e : plS W i = qs (qs W 1 i (nxZ (W 1 i) (dragZ (W 0 i) (W 3 i) (W 2 i)) (decide (W 4 4 % 2 = 0)))) 2 i (ndZ (W 2 i)) := by unfold plS; rw [if_neg hl]
      have fin := ih (i + 1) N (by omega) (plS W i) (v_up (v_up c (4 * r + 6) (jn (nI i)) (nI (nxZ (W 1 i) (dragZ (W 0 i) (W 3 i) (W 2 i)) (decide (W 4 4 % 2 = 0))))) (4 * r + 7) (jn (nI i)) (nI (ndZ (W 2 i)))) (by rw [e]; exact cd_C hr F h12) hO h4
      obtain ⟨c', g1, g2, g3⟩ := fin
      refine ⟨c', ?_, g2, Kp.tr ((Kp.rf.up (Or.inl ⟨Or.inl rfl, by rw [jn_nI (by omega)]; exact h12⟩)).up (Or.inl ⟨Or.inr rfl, by rw [jn_nI (by omega)]; exact h12⟩)) g3⟩
      rw [← g1]
      by_cases hy : W 4 4 % 2 = 0
      · rw [if_pos hy, (nd_tab _ (O.d hi')).2 (fun s => lq2 N (X0_turnOver_L2 r J) (nI (i + 1)) (v_up (v_up c (4 * r + 6) (jn (nI i)) (nI (W 1 i) + (X5_held (jr (nI (W 1 i)) 8 + nI (dragZ (W 0 i) (W 3 i) (W 2 i))) 7 - jr (nI (W 1 i)) 8))) (4 * r + 7) (jn (nI i)) s)), n3, decide_eq_true hy]
      · rw [if_neg hy, (nd_tab _ (O.d hi')).2 (fun s => lq2 N (X0_turnOver_L2 r J) (nI (i + 1)) (v_up (v_up c (4 * r + 6) (jn (nI i)) (nI (W 1 i) + (X5_held (jr (nI (W 1 i)) 8 - nI (dragZ (W 0 i) (W 3 i) (W 2 i))) 7 - jr (nI (W 1 i)) 8))) (4 * r + 7) (jn (nI i)) s)), n4, decide_eq_false hy]
theorem yr_C {r : Nat} {V : qV} {c : vMH} {y : Nat} (hr : isF r) (F : FC r V c) : FC r (qs V 4 4 y) (v_up c r 8 (nI y)) := by
  have hr2 : 1 ≤ r ∧ r ≤ 4 := by rcases hr with rfl | rfl | rfl | rfl <;> decide
  obtain ⟨a1, a2, a3, a4, a5, a6, a7, a8⟩ := F
  refine ⟨?_, ?_, ?_, ?_, ?_, ?_, fun j hj => ⟨?_, ?_⟩, fun j hj => ⟨?_, ?_⟩⟩
  · rw [rd_up, if_neg (by omega)]; exact a1
  · rw [rd_up, if_neg (by omega)]; exact a2
  · rw [rd_up, if_neg (by omega)]; exact a3
  · rw [rd_up, if_neg (by omega)]; exact a4
  · rw [rd_up, if_pos ⟨rfl, rfl⟩]; rfl
  · rw [rd_up, if_neg (by omega)]; exact a6
  · rw [rd_up, if_neg (by omega)]; exact (a7 j hj).1
  · rw [rd_up, if_neg (by omega)]; exact (a7 j hj).2
  · rw [rd_up, if_neg (by omega)]; exact (a8 j hj).1
  · rw [rd_up, if_neg (by omega)]; exact (a8 j hj).2
theorem yr_M {V : qV} {m : vMH} {y : Nat} (F : FM V m) : FM (qs V 4 4 y) (v_up m 0 15 (nI y)) := by
  obtain ⟨a1, a2, a3, a4, a5, a6, a7, a8⟩ := F
  refine ⟨?_, ?_, ?_, ?_, ?_, ?_, fun j hj => ⟨?_, ?_⟩, fun j hj => ⟨?_, ?_⟩⟩
  · rw [rd_up, if_neg (by omega)]; exact a1
  · rw [rd_up, if_neg (by omega)]; exact a2
  · rw [rd_up, if_neg (by omega)]; exact a3
  · rw [rd_up, if_neg (by omega)]; exact a4
  · rw [rd_up, if_pos ⟨rfl, rfl⟩]; rfl
  · rw [rd_up, if_neg (by omega)]; exact a6
  · rw [rd_up, if_neg (by omega)]; exact (a7 j hj).1
  · rw [rd_up, if_neg (by omega)]; exact (a7 j hj).2
  · rw [rd_up, if_neg (by omega)]; exact (a8 j hj).1
  · rw [rd_up, if_neg (by omega)]; exact (a8 j hj).2
theorem turn_C {r : Nat} {V : qV} {c : vMH} (hr : isF r) (F : FC r V c) (O : OKV V) : ∃ c', X0_turnOver r c = some c' ∧ FC r (ploV V) c' ∧ Kp (PcP r) c c' := by
  have hn := O.n
  obtain ⟨c', g1, g2, g3⟩ := turn_C_loop hr (fun mh1 => some (v_up mh1 r 8 (jmin 99 ((mh1.1 r 8) + 1)))) (V 4 0) 0 4096 (by omega) V c F O (by omega)
  refine ⟨v_up c' r 8 (nI (min 99 (V 4 4 + 1))), ?_, yr_C hr g2, g3.up (Or.inr ⟨rfl, rfl⟩)⟩
  unfold X0_turnOver
  simp only [wj1]
  rw [show (0 : Int32) = nI 0 from rfl, g1, g2.y, plR_4 _ _ (by decide), (yr_tab _ O.2.2.2.2.1).1]
theorem turn_M_loop (J : vMH → Option vMH) : ∀ k i : Nat, ∀ N : Nat, k < N → ∀ (W : qV) (m : vMH), FM W m → OKV W → i + k = W 4 0 → ∃ m', lq2 N (X6_ploughs_L2 J) (nI i) m = J m' ∧ FM (plR k i W) m' ∧ Kp PmP m m' := by
  intro k
  induction k with
  | zero =>
    intro i N hN W m F O hi
    obtain ⟨N, rfl⟩ : ∃ M, N = M + 1 := ⟨N - 1, by omega⟩
    refine ⟨m, ?_, F, Kp.rf⟩
    rw [lq2_s]; rw [X6_ploughs_L2]
    rw [F.n, if_pos (nI_le (by omega) (by have := O.n; omega))]
  | succ k ih =>
    intro i N hN W m F O hi
    obtain ⟨N, rfl⟩ : ∃ M, N = M + 1 := ⟨N - 1, by omega⟩
    have hi' : i < W 4 0 := by omega
    have h12 := lt_n O hi'
    have hO := plS_O O hi'
    have h4 : i + 1 + k = plS W i 4 0 := by rw [plS_4 _ _ _ _ (by decide)]; omega
    rw [lq2_s]; rw [X6_ploughs_L2]
    rw [F.n, if_neg (nI_ge hi' (by have := O.n; omega)), nI_1]
    simp only [liesM_z F O hi']
    by_cases hl : (W 4 1).testBit i = true
    · rw [if_pos hl]
      have e : plS W i = W := by unfold plS; rw [if_pos hl]
      obtain ⟨c', g1, g2, g3⟩ := ih (i + 1) N (by omega) W m F O (by omega)
      refine ⟨c', g1, ?_, g3⟩
      rw [plR, e]; exact g2
    · rw [if_neg hl, chk_t (inb_nI h12 (by decide)), F.k h12, F.s h12, F.x hi' h12, F.d hi' h12, F.y]
      obtain ⟨d1, d2, d3⟩ := drag_tab _ (O.k hi') _ (O.s hi') _ (O.d hi')
      obtain ⟨n1, n2, n3, n4, n5, n6⟩ := nx_tab _ (O.x hi') _ d3
      simp only [wj1]
      rw [d2]
      simp only [(yr_tab _ O.2.2.2.2.1).2.2]
      have e : plS W i = qs (qs W 1 i (nxZ (W 1 i) (dragZ (W 0 i) (W 3 i) (W 2 i)) (decide (W 4 4 % 2 = 0)))) 2 i (ndZ (W 2 i)) := by unfold plS; rw [if_neg hl]
      have fin := ih (i + 1) N (by omega) (plS W i) (v_up (v_up m 5 (jn (nI i)) (nI (nxZ (W 1 i) (dragZ (W 0 i) (W 3 i) (W 2 i)) (decide (W 4 4 % 2 = 0))))) 6 (jn (nI i)) (nI (ndZ (W 2 i)))) (by rw [e]; exact cd_M F h12) hO h4
      obtain ⟨c', g1, g2, g3⟩ := fin
      refine ⟨c', ?_, g2, Kp.tr ((Kp.rf.up (Or.inl ⟨Or.inl rfl, by rw [jn_nI (by omega)]; exact h12⟩)).up (Or.inl ⟨Or.inr rfl, by rw [jn_nI (by omega)]; exact h12⟩)) g3⟩
      rw [← g1]
      by_cases hy : W 4 4 % 2 = 0
      · rw [if_pos hy, (nd_tab _ (O.d hi')).2 (fun s => lq2 N (X6_ploughs_L2 J) (nI (i + 1)) (v_up (v_up m 5 (jn (nI i)) (nI (W 1 i) / 8 * 8 + X6_within (jr (nI (W 1 i)) 8 + nI (dragZ (W 0 i) (W 3 i) (W 2 i))) 0 7)) 6 (jn (nI i)) s)), n5, decide_eq_true hy]
      · rw [if_neg hy, (nd_tab _ (O.d hi')).2 (fun s => lq2 N (X6_ploughs_L2 J) (nI (i + 1)) (v_up (v_up m 5 (jn (nI i)) (nI (W 1 i) / 8 * 8 + X6_within (jr (nI (W 1 i)) 8 + -nI (dragZ (W 0 i) (W 3 i) (W 2 i))) 0 7)) 6 (jn (nI i)) s)), n6, decide_eq_false hy]
theorem turn_M {V : qV} {m : vMH} (F : FM V m) (O : OKV V) : ∃ m', X6_ploughs m = some m' ∧ FM (ploV V) m' ∧ Kp PmP m m' := by
  have hn := O.n
  obtain ⟨c', g1, g2, g3⟩ := turn_M_loop (fun mh1 => (wj1 (fun (s3 : Int32) => (some (v_up mh1 0 15 s3))) fun J4 => (if 99 ≤ (mh1.1 0 15) then (J4 99) else (J4 ((mh1.1 0 15) + 1))))) (V 4 0) 0 4096 (by omega) V m F O (by omega)
  refine ⟨v_up c' 0 15 (nI (min 99 (V 4 4 + 1))), ?_, yr_M g2, g3.up (Or.inr ⟨rfl, rfl⟩)⟩
  unfold X6_ploughs
  simp only [wj1] at g1 ⊢
  rw [show (0 : Int32) = nI 0 from rfl, g1, g2.y, plR_4 _ _ (by decide), ← (yr_tab _ O.2.2.2.2.1).2.1]
  split <;> rfl
-- ===== drawn =====
def zxZ (z : Int32) : Nat := (jr (ju z 9) 48).toInt.toNat
def zdZ (z : Int32) : Nat := (jr (ju z 16) 21).toInt.toNat
def znx (z : Int32) : Int32 := z * 1103515245 + 12345
theorem zx_ok (z : Int32) : jr (ju z 9) 48 = nI (zxZ z) ∧ zxZ z < 48 ∧ jr (ju z 16) 21 = nI (zdZ z) ∧ zdZ z ≤ 20 := by
  obtain ⟨n, hn, rfl⟩ : ∃ n : Nat, n < 2 ^ 32 ∧ z = nI n := ⟨z.toBitVec.toNat, z.toBitVec.isLt, by
    apply Int32.toBitVec.inj
    apply BitVec.eq_of_toNat_eq
    rw [pk_tn z.toBitVec.isLt]⟩
  have e1 : ju (nI n) 9 = nI (n / 2 ^ 9) := pk_ushrN hn 9 9 (by decide)
  have e2 : ju (nI n) 16 = nI (n / 2 ^ 16) := pk_ushrN hn 16 16 (by decide)
  have e3 : jr (nI (n / 2 ^ 9)) 48 = nI (n / 2 ^ 9 % 48) := pk_rem (by omega) (by decide) (by decide)
  have e4 : jr (nI (n / 2 ^ 16)) 21 = nI (n / 2 ^ 16 % 21) := pk_rem (by omega) (by decide) (by decide)
  unfold zxZ zdZ
  rw [e1, e2, e3, e4, nI_toInt (by omega), nI_toInt (by omega)]
  refine ⟨by congr 1, by omega, by congr 1, by omega⟩
def scS (W : qV) (z : Int32) (i : Nat) : qV := if (W 4 1).testBit i = true then W else qs (qs W 1 i (zxZ (znx z))) 2 i (zdZ (znx z))
def scz (W : qV) (z : Int32) (i : Nat) : Int32 := if (W 4 1).testBit i = true then z else znx z
def scR : Nat → Nat → Int32 → qV → qV
  | 0, _, _, W => W
  | k + 1, i, z, W => scR k (i + 1) (scz W z i) (scS W z i)
theorem scS_4 (W : qV) (z : Int32) (i a j : Nat) (h : a ≠ 1 ∧ a ≠ 2) : scS W z i a j = W a j := by
  unfold scS
  split
  · rfl
  · unfold qs; rw [if_neg (by omega), if_neg (by omega)]
theorem scS_O {W : qV} {z : Int32} {i : Nat} (O : OKV W) : OKV (scS W z i) := by
  unfold scS
  split
  · exact O
  · exact cd_O O (zx_ok _).2.1 (zx_ok _).2.2.2
theorem scR_4 (a j : Nat) (h : a ≠ 1 ∧ a ≠ 2) : ∀ (k i : Nat) (z : Int32) (W : qV), scR k i z W a j = W a j
  | 0, _, _, _ => rfl
  | k + 1, i, z, W => by rw [scR, scR_4 a j h k (i + 1), scS_4 W z i a j h]
theorem scR_O : ∀ (k i : Nat) (z : Int32) (W : qV), OKV W → OKV (scR k i z W)
  | 0, _, _, _, O => O
  | k + 1, i, z, W, O => scR_O k (i + 1) _ (scS W z i) (scS_O O)
theorem scat_C_loop {r : Nat} (hr : isF r) : ∀ k i : Nat, ∀ N : Nat, k < N → ∀ (W : qV) (z : Int32) (c : vMH), FC r W c → OKV W → i + k = W 4 0 → ∃ c', lq3 N (X0_scatter_L4 r) z (nI i) c = some c' ∧ FC r (scR k i z W) c' ∧ Kp (PcP r) c c' := by
  intro k
  induction k with
  | zero =>
    intro i N hN W z c F O hi
    obtain ⟨N, rfl⟩ : ∃ M, N = M + 1 := ⟨N - 1, by omega⟩
    refine ⟨c, ?_, F, Kp.rf⟩
    rw [lq3_s]; rw [X0_scatter_L4]
    rw [F.n, if_pos (nI_le (by omega) (by have := O.n; omega))]
  | succ k ih =>
    intro i N hN W z c F O hi
    obtain ⟨N, rfl⟩ : ∃ M, N = M + 1 := ⟨N - 1, by omega⟩
    have hi' : i < W 4 0 := by omega
    have h12 := lt_n O hi'
    rw [lq3_s]; rw [X0_scatter_L4]
    rw [F.n, if_neg (nI_ge hi' (by have := O.n; omega)), nI_1, scR]
    simp only [lies_z F O hi']
    by_cases hl : (W 4 1).testBit i = true
    · rw [if_pos hl]
      have e : scS W z i = W := by unfold scS; rw [if_pos hl]
      have e2 : scz W z i = z := by unfold scz; rw [if_pos hl]
      rw [e, e2]
      exact ih (i + 1) N (by omega) W z c F O (by omega)
    · rw [if_neg hl, chk_t (inb_nI h12 (by decide))]
      have e : scS W z i = qs (qs W 1 i (zxZ (znx z))) 2 i (zdZ (znx z)) := by unfold scS; rw [if_neg hl]
      have e2 : scz W z i = znx z := by unfold scz; rw [if_neg hl]
      obtain ⟨c', g1, g2, g3⟩ := ih (i + 1) N (by omega) (scS W z i) (znx z) (v_up (v_up c (4 * r + 6) (jn (nI i)) (nI (zxZ (znx z)))) (4 * r + 7) (jn (nI i)) (nI (zdZ (znx z)))) (by rw [e]; exact cd_C hr F h12) (scS_O O) (by rw [scS_4 _ _ _ _ _ (by decide)]; omega)
      rw [e2]
      refine ⟨c', ?_, g2, Kp.tr ((Kp.rf.up (Or.inl ⟨Or.inl rfl, by rw [jn_nI (by omega)]; exact h12⟩)).up (Or.inl ⟨Or.inr rfl, by rw [jn_nI (by omega)]; exact h12⟩)) g3⟩
      rw [← g1, ← (zx_ok (znx z)).1, ← (zx_ok (znx z)).2.2.1]; rfl
theorem scat_M_loop (J : vMH → Option (Int32 × vMH)) : ∀ k i : Nat, ∀ N : Nat, k < N → ∀ (W : qV) (z : Int32) (m : vMH), FM W m → OKV W → i + k = W 4 0 → ∃ m', lq3 N (X6_drawn_L8 J) z (nI i) m = J m' ∧ FM (scR k i z W) m' ∧ Kp PmP m m' := by
  intro k
  induction k with
  | zero =>
    intro i N hN W z c F O hi
    obtain ⟨N, rfl⟩ : ∃ M, N = M + 1 := ⟨N - 1, by omega⟩
    refine ⟨c, ?_, F, Kp.rf⟩
    rw [lq3_s]; rw [X6_drawn_L8]
    rw [F.n, if_pos (nI_le (by omega) (by have := O.n; omega))]
  | succ k ih =>
    intro i N hN W z c F O hi
    obtain ⟨N, rfl⟩ : ∃ M, N = M + 1 := ⟨N - 1, by omega⟩
    have hi' : i < W 4 0 := by omega
    have h12 := lt_n O hi'
    rw [lq3_s]; rw [X6_drawn_L8]
    rw [F.n, if_neg (nI_ge hi' (by have := O.n; omega)), nI_1, scR]
    simp only [liesM_z F O hi']
    by_cases hl : (W 4 1).testBit i = true
    · rw [if_pos hl]
      have e : scS W z i = W := by unfold scS; rw [if_pos hl]
      have e2 : scz W z i = z := by unfold scz; rw [if_pos hl]
      rw [e, e2]
      exact ih (i + 1) N (by omega) W z c F O (by omega)
    · rw [if_neg hl, chk_t (inb_nI h12 (by decide))]
      have e : scS W z i = qs (qs W 1 i (zxZ (znx z))) 2 i (zdZ (znx z)) := by unfold scS; rw [if_neg hl]
      have e2 : scz W z i = znx z := by unfold scz; rw [if_neg hl]
      obtain ⟨c', g1, g2, g3⟩ := ih (i + 1) N (by omega) (scS W z i) (znx z) (v_up (v_up c 5 (jn (nI i)) (nI (zxZ (znx z)))) 6 (jn (nI i)) (nI (zdZ (znx z)))) (by rw [e]; exact cd_M F h12) (scS_O O) (by rw [scS_4 _ _ _ _ _ (by decide)]; omega)
      rw [e2]
      refine ⟨c', ?_, g2, Kp.tr ((Kp.rf.up (Or.inl ⟨Or.inl rfl, by rw [jn_nI (by omega)]; exact h12⟩)).up (Or.inl ⟨Or.inr rfl, by rw [jn_nI (by omega)]; exact h12⟩)) g3⟩
      rw [← g1, ← (zx_ok (znx z)).1, ← (zx_ok (znx z)).2.2.1]; rfl
