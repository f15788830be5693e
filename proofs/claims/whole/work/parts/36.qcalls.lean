/-! PURE PART, calls: text, thick, pot, came, taken, walk, left -/
theorem IMG.cg {T T' : Nat} {c m c' m' : vMH} (h : IMG T c m) (hT : T ≤ T') (hc : ∀ q k, (q = 0 ∧ k = 8) ∨ q = 2 ∨ q = 14 ∨ q = 15 → c'.1 q k = c.1 q k) (hm : ∀ q k, (q = 0 ∧ 41 ≤ k) ∨ q = 10 ∨ q = 11 → m'.1 q k = m.1 q k) : IMG T' c' m' := by
  have e2 : ∀ k, c'.1 2 k = c.1 2 k := fun k => hc _ _ (by omega)
  have e14 : ∀ k, c'.1 14 k = c.1 14 k := fun k => hc _ _ (by omega)
  have e15 : ∀ k, c'.1 15 k = c.1 15 k := fun k => hc _ _ (by omega)
  have em : ∀ k, 41 ≤ k → m'.1 0 k = m.1 0 k := fun k hk => hm _ _ (by omega)
  have m10 : ∀ k, m'.1 10 k = m.1 10 k := fun k => hm _ _ (by omega)
  have m11 : ∀ k, m'.1 11 k = m.1 11 k := fun k => hm _ _ (by omega)
  unfold IMG
  simp only [hc 0 8 (by omega), e2, e14, e15, m10, m11, em 41 (by decide), em 42 (by decide), em 43 (by decide), em 44 (by decide), em 45 (by decide), em 46 (by decide), em 47 (by decide)]
  rcases h with h | ⟨h, K, k1, k2, k3, k4, k5, k6, k7⟩
  · exact Or.inl h
  · exact Or.inr ⟨h, K, k1, k2, k3, k4, k5, by omega, k7⟩
theorem SHT.cg {c m c' m' : vMH} (h : SHT c m) (hc : ∀ q k, q = 30 ∨ q = 31 ∨ q = 32 → c'.1 q k = c.1 q k) (hm : ∀ q k, 12 ≤ q ∧ q ≤ 15 → m'.1 q k = m.1 q k) : SHT c' m' := by
  intro s hs
  have c30 : ∀ k, c'.1 30 k = c.1 30 k := fun k => hc _ _ (by omega)
  have c31 : ∀ k, c'.1 31 k = c.1 31 k := fun k => hc _ _ (by omega)
  have c32 : ∀ k, c'.1 32 k = c.1 32 k := fun k => hc _ _ (by omega)
  have m12 : ∀ k, m'.1 12 k = m.1 12 k := fun k => hm _ _ (by omega)
  have m13 : ∀ k, m'.1 13 k = m.1 13 k := fun k => hm _ _ (by omega)
  have m14 : ∀ k, m'.1 14 k = m.1 14 k := fun k => hm _ _ (by omega)
  have m15 : ∀ k, m'.1 15 k = m.1 15 k := fun k => hm _ _ (by omega)
  simp only [c30, c31, c32, m12, m13, m14, m15]
  exact h s hs
theorem TC.cg {t : Nat} {e : Nat → (Nat → Int32) → Int32} {c c' : vMH} (h : TC t e c) (h1 : ∀ i, i < 160 * t + 160 → c'.1 25 i = c.1 25 i) (h2 : ∀ k, k < 3 * t + 3 → c'.1 26 k = c.1 26 k) : TC t e c' := by
  obtain ⟨e0, e1, e2, b1, b2, b3, b4, b5, b6, b7, b8, b9, b10⟩ := h
  refine ⟨e0, e1, e2, b1, b2, b3, b4, by rw [h2 _ (by omega)]; exact b5, by rw [h2 _ (by omega)]; exact b6, by rw [h2 _ (by omega)]; exact b7, fun nv => ?_, fun nv => ?_, fun nv => ?_⟩
  · rw [seg_congr (g := c.1 25) _ _ (fun i _ _ => h1 i (by omega))]; exact b8 nv
  · rw [seg_congr (g := c.1 25) _ _ (fun i _ _ => h1 i (by omega))]; exact b9 nv
  · rw [seg_congr (g := c.1 25) _ _ (fun i _ _ => h1 i (by omega))]; exact b10 nv
theorem TM.cg {t : Nat} {e : Nat → (Nat → Int32) → Int32} {m m' : vMH} (h : TM t e m) (h1 : ∀ j, j < 160 → m'.1 1 (160 * t + j) = m.1 1 (160 * t + j)) (h2 : m'.1 2 t = m.1 2 t) : TM t e m' := by
  obtain ⟨z, b1, b2, b3⟩ := h
  refine ⟨z, b1, by rw [h2]; exact b2, fun m2 g1 g2 => b3 m2 (fun j hj => by rw [g1 j hj, h1 j hj]) g2⟩
section OPS3
variable {c m : vMH}
theorem copy_loop {T z : Nat} (hT : T < 6) (hz : z ≤ 160) (J : vMH → Option (Int32 × vMH)) : ∀ k i : Nat, i + k = z → ∀ N, k < N → ∀ m : vMH, m.1 0 6 = nI z → m.1 0 3 = nI T → ∃ m', lq2 N (X6_text_L14 J) (nI i) m = J m' ∧ Kp (fun q k => q = 1 ∧ 160 * T ≤ k ∧ k < 160 * T + 160) m m' ∧ (∀ j, j < i → m'.1 1 (160 * T + j) = m.1 1 (160 * T + j)) ∧ ∀ j, i ≤ j → j < z → m'.1 1 (160 * T + j) = m.1 3 j := by
  intro k
  induction k with
  | zero =>
    intro i hi N hN m h6 h3
    obtain ⟨N, rfl⟩ : ∃ M, N = M + 1 := ⟨N - 1, by omega⟩
    refine ⟨m, ?_, Kp.rf, fun _ _ => rfl, fun j h1 h2 => by omega⟩
    rw [lq2_s, X6_text_L14, h6, if_pos (nI_le (by omega) (by omega))]
  | succ k ih =>
    intro i hi N hN m h6 h3
    obtain ⟨N, rfl⟩ : ∃ M, N = M + 1 := ⟨N - 1, by omega⟩
    have k1 : Kp (fun q k => q = 1 ∧ 160 * T ≤ k ∧ k < 160 * T + 160) m (v_up m 1 (160 * T + i) (m.1 3 i)) := Kp.rf.up ⟨rfl, by omega, by omega⟩
    obtain ⟨m', g1, g2, g3, g4⟩ := ih (i + 1) (by omega) N (by omega) (v_up m 1 (160 * T + i) (m.1 3 i)) (by rw [k1 _ _ (by omega)]; exact h6) (by rw [k1 _ _ (by omega)]; exact h3)
    refine ⟨m', ?_, k1.tr g2, fun j hj => ?_, fun j h1 h2 => ?_⟩
    · rw [lq2_s, X6_text_L14, h6, if_neg (nI_ge (by omega) (by omega)), chk_t (inb_nI (by omega) (by decide)), chk_t (by rw [h3, show (160 : Int32) = nI 160 from rfl, pk_mul, nI_add]; exact inb_nI (by omega) (by decide)), h3, show (160 : Int32) = nI 160 from rfl, pk_mul, nI_add, jn_nI (by omega), jn_nI (by omega), nI_1]
      exact g1
    · rw [g3 j (by omega), rd_up, if_neg (by omega)]
    · by_cases e : j = i
      · subst e
        rw [g3 j (by omega), rd_up, if_pos ⟨rfl, rfl⟩]
      · rw [g4 j (by omega) h2, rd_up, if_neg (by omega)]
theorem op_text : OpOK Rel oC_text oM_text := by
  intro c m R
  have R' := R
  obtain ⟨V, T, E, O, F, G, hu, t1, t2, ⟨z, t3⟩, t4, t5, t6⟩ := R
  have hT6 := t1.2.1
  unfold oC_text oM_text X5_text X6_text X3_isFull
  rw [t1.2.2.1, t2.1]
  by_cases hT : T < 6
  · rw [if_pos (show (if nI T < 6 then (0 : Int32) else 1) = 0 by rw [if_pos (by rw [show (6 : Int32) = nI 6 from rfl]; exact nI_lt hT (by decide))]), if_neg (show ¬ nI T = 6 by rw [show (6 : Int32) = nI 6 from rfl]; exact fun q => by have := (nI_eq (by omega) (by decide)).mp q; omega)]
    simp only [wj1]
    obtain ⟨z1, z2, z3, z4⟩ := t3
    obtain ⟨m1, g1, g2, g3, g4⟩ := copy_loop hT z1 (fun (mh2 : vMH) => (chk (inb (mh2.1 0 3) 6) ((X6_read (mh2.1 0 3) 0 (v_up (v_up mh2 2 (jn (mh2.1 0 3)) (mh2.1 0 6)) 0 6 0)).bind fun q5 => (if (q5.2.1 0 30) = 0 then (some ((((q5.2.1 0 3) + 1) - 1), (v_up q5.2 0 3 ((q5.2.1 0 3) + 1)))) else (some (((-100) - (q5.2.1 0 31)), q5.2)))))) z 0 (by omega) 4096 (by omega) m z3 t2.1
    have g1' := g1
    rw [show (nI 0 : Int32) = 0 from rfl] at g1'
    rw [g1', g2 _ _ (by omega), t2.1, chk_t (inb_nI hT (by decide)), jn_nI (by omega), g2 _ _ (by omega), z3]
    generalize hm2 : v_up (v_up m1 2 T (nI z)) 0 6 0 = m2
    have k2 : Kp (fun q k => (q = 1 ∧ 160 * T ≤ k ∧ k < 160 * T + 160) ∨ (q = 2 ∧ k = T) ∨ (q = 0 ∧ k = 6)) m m2 := by
      rw [← hm2]
      exact ((g2.mono (fun q k h => Or.inl h)).up (by omega)).up (by omega)
    have r2 : m2.1 2 T = nI z := by rw [← hm2]; simp [rd_up]
    have rb : ∀ j, j < z → ∃ b : Nat, b ≤ 255 ∧ c.1 29 j = nI b ∧ m2.1 1 (160 * T + j) = nI b := by
      intro j hj
      obtain ⟨b, b1, b2, b3⟩ := z4 j hj
      refine ⟨b, b1, b2, ?_⟩
      rw [← hm2, rd_up, if_neg (by omega), rd_up, if_neg (by omega), g4 j (by omega) hj]
      exact b3
    obtain ⟨f, c', v0, v1, v2, m', y1, y2, y3, y4, y5, y6⟩ := read_ok hT z1 t1.2.2.1 z2 r2 rb
    rw [y1, bd_s, y2]
    dsimp only [selW]
    rw [if_pos rfl, bd_s]
    dsimp only
    have e50 : c'.1 5 0 = nI T := by rw [y4 _ _ (by unfold PcU PcT; omega)]; exact t1.2.2.1
    have e03 : m'.1 0 3 = nI T := by rw [y3 _ _ (by unfold PmU; omega), k2 _ _ (by omega)]; exact t2.1
    have e06 : m'.1 0 6 = 0 := by rw [y3 _ _ (by unfold PmU; omega), ← hm2]; simp [rd_up]
    have kc : Kp (PcU T) c c' := y4
    have km : Kp (fun q k => (q = 1 ∧ 160 * T ≤ k ∧ k < 160 * T + 160) ∨ (q = 2 ∧ k = T) ∨ (q = 0 ∧ (k = 6 ∨ (23 ≤ k ∧ k ≤ 31)))) m m' := (k2.mono (fun q k h => by omega)).tr (y3.mono (fun q k h => by unfold PmU at h; omega))
    have FC' : FC 1 V c' := F.kp kc (fun k _ _ _ => by unfold PcU PcT; omega) (fun q k _ _ => by unfold PcU PcT; omega)
    have FM' : FM V m' := G.kp km (fun k _ => by omega) (fun q k _ _ _ => by omega) O.n
    have tcO : ∀ t, t < T → TC t (E t) c' := fun t ht => (t1.2.2.2 t ht).cg (fun i hi => kc _ _ (by unfold PcU PcT; omega)) (fun k hk => kc _ _ (by unfold PcU PcT; omega))
    have tmO : ∀ t, t < T → TM t (E t) m' := fun t ht => (t2.2 t ht).cg (fun j hj => km _ _ (by omega)) (km _ _ (by omega))
    have tap : ∀ c2 m3 : vMH, c2.1 6 0 = 0 → m3.1 0 6 = 0 → TAP 0 c2 m3 := fun c2 m3 h1 h2 => ⟨by omega, h1, h2, fun j hj => by omega⟩
    rcases y6 with ⟨rfl, hb, -⟩ | ⟨q, hq, rfl, hb, hf⟩
    · obtain ⟨n1, n2⟩ := new_text hT z1 t1.2.2.1 z2 r2 rb y1
      rw [if_pos rfl, if_pos hb]
      unfold X3_keep
      rw [e50, e03, nI_1, nI_pred]
      refine ⟨_, _, _, rfl, rfl, V, T + 1, fun t => if t = T then valP T c' else E t, O, ?_, ?_, by omega, ⟨by omega, by omega, by simp [rd_up], fun t ht => ?_⟩, ⟨by simp [rd_up], fun t ht => ?_⟩, ⟨0, tap _ _ (by rw [rd_up, if_neg (by omega)]; exact y5) (by rw [rd_up, if_neg (by omega)]; exact e06)⟩, ?_, ?_, ?_⟩
      · exact FC'.kp (P := fun q k => q = 5 ∧ k = 0) (Kp.rf.up ⟨rfl, rfl⟩) (fun k _ _ _ => by omega) (fun q k _ _ => by omega)
      · exact FM'.kp (P := fun q k => q = 0 ∧ k = 3) (Kp.rf.up ⟨rfl, rfl⟩) (fun k _ => by omega) (fun q k _ _ _ => by omega) O.n
      · dsimp only
        by_cases e : t = T
        · subst e
          rw [if_pos rfl]
          exact n1.cg (fun i _ => by rw [rd_up, if_neg (by omega)]) (fun i _ => by rw [rd_up, if_neg (by omega)])
        · rw [if_neg e]
          exact (tcO t (by omega)).cg (fun i _ => by rw [rd_up, if_neg (by omega)]) (fun i _ => by rw [rd_up, if_neg (by omega)])
      · dsimp only
        by_cases e : t = T
        · subst e
          rw [if_pos rfl]
          exact n2.cg (fun j _ => by rw [rd_up, if_neg (by omega), y3 _ _ (by unfold PmU; omega)]) (by rw [rd_up, if_neg (by omega), y3 _ _ (by unfold PmU; omega)])
        · rw [if_neg e]
          exact (tmO t (by omega)).cg (fun i _ => by rw [rd_up, if_neg (by omega)]) (by rw [rd_up, if_neg (by omega)])
      · rw [rd_up, if_neg (by omega), rd_up, if_neg (by omega), kc _ _ (by unfold PcU PcT; omega), km _ _ (by omega)]; exact t4
      · exact t5.cg (by omega) (fun q k h => by rw [rd_up, if_neg (by omega), kc _ _ (by unfold PcU PcT; omega)]) (fun q k h => by rw [rd_up, if_neg (by omega), km _ _ (by omega)])
      · exact t6.cg (fun q k h => by rw [rd_up, if_neg (by omega), kc _ _ (by unfold PcU PcT; omega)]) (fun q k h => by rw [rd_up, if_neg (by omega), km _ _ (by omega)])
    · rw [if_neg (nIm1 (by omega)), if_neg (show ¬ m'.1 0 30 = 0 by rw [hb]; decide), hf]
      refine ⟨_, c', m', rfl, rfl, V, T, E, O, FC', FM', hu, ⟨t1.1, t1.2.1, e50, tcO⟩, ⟨e03, tmO⟩, ⟨0, tap _ _ y5 e06⟩, ?_, ?_, ?_⟩
      · rw [kc _ _ (by unfold PcU PcT; omega), km _ _ (by omega)]; exact t4
      · exact t5.cg (Nat.le_refl _) (fun q k h => by rw [kc _ _ (by unfold PcU PcT; omega)]) (fun q k h => by rw [km _ _ (by omega)])
      · exact t6.cg (fun q k h => by rw [kc _ _ (by unfold PcU PcT; omega)]) (fun q k h => by rw [km _ _ (by omega)])
  · have : T = 6 := by omega
    subst this
    rw [if_neg (by decide), if_pos (by decide)]
    exact ⟨-4, c, m, rfl, rfl, R'⟩
theorem op_thick : OpOK Rel oC_thick oM_thick := by
  intro c m R
  have R' := R
  obtain ⟨V, T, E, O, F, G, hu, RR⟩ := R
  have key : ∀ k i : Nat, i + k = 48 → ∀ N, k < N → ∀ v1 v2 : Int32, ∃ b, lq3 N (X5_thick_L6 c) v1 v2 (nI i) = some b ∧ lq3 N (X6_thick_L6 m) v1 v2 (nI i) = some b := by
    intro k
    induction k with
    | zero =>
      intro i hi N hN v1 v2
      obtain ⟨N, rfl⟩ : ∃ M, N = M + 1 := ⟨N - 1, by omega⟩
      have : i = 48 := by omega
      subst this
      rw [lq3_s, lq3_s, X5_thick_L6, X6_thick_L6, if_pos (by decide), if_pos (by decide)]
      exact ⟨v1, rfl, rfl⟩
    | succ k ih =>
      intro i hi N hN v1 v2
      obtain ⟨N, rfl⟩ : ∃ M, N = M + 1 := ⟨N - 1, by omega⟩
      have hn : ¬ (48 : Int32) ≤ nI i := by rw [show (48 : Int32) = nI 48 from rfl]; exact nI_ge (by omega) (by decide)
      rw [lq3_s, lq3_s, X5_thick_L6, X6_thick_L6, if_neg hn, if_neg hn, dots_C F O (by omega), dots_M G O (by omega), bd_s, bd_s, bd_s, nI_1]
      by_cases h : nI (dotV V i) ≤ v2
      · rw [if_pos h, if_pos h]; exact ih (i + 1) (by omega) N (by omega) _ _
      · rw [if_neg h, if_neg h]; exact ih (i + 1) (by omega) N (by omega) _ _
  obtain ⟨b, h1, h2⟩ := key 48 0 rfl 4096 (by decide) (-1) 0
  unfold oC_thick oM_thick X5_thick X6_thick
  rw [show (0 : Int32) = nI 0 from rfl] at h1 h2 ⊢
  rw [h1, h2]
  exact ⟨b, c, m, rfl, rfl, R'⟩
theorem op_pot : OpOK Rel oC_pot oM_pot := by
  intro c m R
  have R' := R
  obtain ⟨V, T, E, O, F, G, hu, RR⟩ := R
  have hn := O.n
  have hg := O.g
  unfold oC_pot oM_pot X5_pot X6_pot
  rw [F.g, G.g, bo_tab _ hg, bd_s]
  by_cases h0 : V 4 1 = 0
  · rw [if_pos (show nI (V 4 1) = 0 by rw [h0]; rfl), if_pos (show nI (pop (V 4 1)) = 0 by rw [(pop0 hg).mpr h0]; rfl)]
    exact ⟨-1, c, m, rfl, rfl, R'⟩
  · have hp : pop (V 4 1) ≠ 0 := fun z => h0 ((pop0 hg).mp z)
    have hp2 := pop_le (V 4 1)
    rw [if_neg (show ¬ nI (V 4 1) = 0 from nI_ne0 (by omega) (by omega)), if_neg (show ¬ nI (pop (V 4 1)) = 0 from nI_ne0 (by omega) (by omega))]
    have far : ∀ p, p < 48 → farV V p (V 4 0) < 2 ^ 31 := fun p hp => by have := farV_le O hp (V 4 0) (Nat.le_refl _); omega
    have key : ∀ k i : Nat, i + k = 48 → ∀ N M, k < N → k < M → ∀ (v1 : Int32) (l : Nat), l < 2 ^ 31 → ∃ b, lq3 N (X5_pot_L25 c) v1 (nI l) (nI i) = some b ∧ lq3 M (X6_pot_L18 m) v1 (nI l) (nI i) = some b := by
      intro k
      induction k with
      | zero =>
        intro i hi N M hN hM v1 l hl
        obtain ⟨N, rfl⟩ : ∃ M, N = M + 1 := ⟨N - 1, by omega⟩
        obtain ⟨M, rfl⟩ : ∃ N, M = N + 1 := ⟨M - 1, by omega⟩
        have : i = 48 := by omega
        subst this
        rw [lq3_s, lq3_s, X5_pot_L25, X6_pot_L18, if_pos (by decide), if_pos (by decide)]
        exact ⟨v1, rfl, rfl⟩
      | succ k ih =>
        intro i hi N M hN hM v1 l hl
        obtain ⟨N, rfl⟩ : ∃ M, N = M + 1 := ⟨N - 1, by omega⟩
        obtain ⟨M, rfl⟩ : ∃ N, M = N + 1 := ⟨M - 1, by omega⟩
        have hn : ¬ (48 : Int32) ≤ nI i := by rw [show (48 : Int32) = nI 48 from rfl]; exact nI_ge (by omega) (by decide)
        rw [lq3_s, lq3_s, X5_pot_L25, X6_pot_L18, if_neg hn, if_neg hn, far_C F O (by omega), bd_s]
        simp only [wj0, wj1]
        rw [far_M G O (by omega), nI_1, if_neg (show ¬ nI l = -1 from nIm1 hl)]
        by_cases h : nI l ≤ nI (farV V i (V 4 0))
        · rw [if_pos h, if_pos h]; exact ih (i + 1) (by omega) N M (by omega) (by omega) _ _ hl
        · rw [if_neg h, if_neg h]; exact ih (i + 1) (by omega) N M (by omega) (by omega) _ _ (far i (by omega))
    obtain ⟨b, h1, h2⟩ := key 47 1 rfl 4096 4095 (by decide) (by decide) 0 (farV V 0 (V 4 0)) (far 0 (by decide))
    have e1 : X0_farFrom 1 0 c = some (nI (farV V 0 (V 4 0))) := far_C F O (p := 0) (by decide)
    have e2 : lq3 4096 (X6_pot_L18 m) 0 (-1) 0 = lq3 4095 (X6_pot_L18 m) 0 (nI (farV V 0 (V 4 0))) (nI 1) := by
      rw [show (4096 : Nat) = 4095 + 1 from rfl, lq3_s, X6_pot_L18, if_neg (by decide)]
      simp only [wj0, wj1]
      rw [show (X6_pot_L30 m 0) = X6_pot_L30 m (nI 0) from rfl, far_M G O (p := 0) (by decide), if_pos trivial]
      rfl
    rw [e1, bd_s, e2, h2, show (1 : Int32) = nI 1 from rfl, h1]
    exact ⟨b, c, m, rfl, rfl, R'⟩
def cdZ (d : Nat) : Nat := if 12 < d then min 20 (d + 1) else 12 - d
theorem cd_tab : ∀ d, d ≤ 20 → cdZ d ≤ 20 ∧ (if 12 < nI d then jmin 20 (nI d + 1) else 12 - nI d) = nI (cdZ d) ∧ (if 12 < nI d then (if 20 ≤ nI d then (20 : Int32) else nI d + 1) else 12 - nI d) = nI (cdZ d) := by decide +kernel
theorem op_came (a1 a2 : Int32) : OpOK Rel (oC_came a1 a2) (oM_came a1 a2) := by
  intro c m R
  have R' := R
  obtain ⟨V, T, E, O, F, G, hu, RR⟩ := R
  have hn := O.n
  unfold oC_came oM_came X5_came X6_came
  by_cases h1 : 0 ≤ a1.toInt ∧ a1.toInt < V 4 0
  · obtain ⟨f, hf, rfl⟩ := nI_ofI (v := a1) (n := V 4 0) h1.1 (by omega) (by omega)
    rw [nI_toInt (by omega)] at h1
    have hf' : f < V 4 0 := by omega
    have h12 := lt_n O hf'
    rw [if_neg (has_f F O hf'), if_neg (show ¬ X6_isFind (nI f) m = 0 by rw [isf_z G O, nI_toInt (by omega)]; omega)]
    by_cases h2 : 0 ≤ a2.toInt ∧ a2.toInt ≤ 20
    · rw [if_neg (wi_n (by rfl) (by rfl) h2), if_neg (in_n (by rfl) (by rfl) h2), chk_t (inb_nI h12 (by decide)), chk_t (inb_nI h12 (by decide))]
      simp only [wj1]
      obtain ⟨n, hn2, rfl⟩ := nI_ofI (v := a2) (n := 20) h2.1 h2.2 (by decide)
      have key : ∀ (J J' : Int32 → Option Int32) (k i : Nat), i + k = n + 1 → ∀ N, k < N → ∀ (d : Nat) (x : Int32), d ≤ 20 → ∃ x', lq3 N (X5_came_L54 (nI f) (nI n) c J) (nI d) x (nI i) = J x' ∧ lq3 N (X6_came_L44 (nI f) (nI n) m J') (nI d) x (nI i) = J' x' := by
        intro J J' k
        induction k with
        | zero =>
          intro i hi N hN d x hd
          obtain ⟨N, rfl⟩ : ∃ M, N = M + 1 := ⟨N - 1, by omega⟩
          rw [lq3_s, lq3_s, X5_came_L54, X6_came_L44, if_pos (nI_lt (by omega) (by omega)), if_pos (nI_lt (by omega) (by omega))]
          exact ⟨x, rfl, rfl⟩
        | succ k ih =>
          intro i hi N hN d x hd
          obtain ⟨N, rfl⟩ : ∃ M, N = M + 1 := ⟨N - 1, by omega⟩
          have hlt : ¬ nI n < nI i := nI_nlt (by omega) (by omega)
          obtain ⟨t1, t2, t3⟩ := cd_tab d hd
          obtain ⟨d1, d2, -⟩ := drag_tab _ (O.k hf') _ (O.s hf') _ t1
          rw [lq3_s, lq3_s, X5_came_L54, X6_came_L44, if_neg hlt, if_neg hlt, F.y, G.y]
          simp only [wj1]
          rw [show c.1 9 (jn (nI f)) = _ from F.k h12, show c.1 12 (jn (nI f)) = _ from F.s h12, G.k h12, G.s h12, nI_1 i]
          have eC : ∀ (H : Int32 → Option Int32), (if 12 < nI d then H (jmin 20 (nI d + 1)) else H (12 - nI d)) = H (nI (cdZ d)) := by
            intro H; rw [← t2]; split <;> rfl
          have eM : ∀ (H : Int32 → Option Int32), (if 12 < nI d then (if 20 ≤ nI d then H 20 else H (nI d + 1)) else H (12 - nI d)) = H (nI (cdZ d)) := by
            intro H; rw [← t3]; split
            · split <;> rfl
            · rfl
          rw [eC (fun s11 => if jr (nI (V 4 4) - nI i) 2 = 0 then lq3 N (X5_came_L54 (nI f) (nI n) c J) s11 (x + -X5_dragsOf (nI (V 0 f)) (nI (V 3 f)) s11) (nI (i + 1)) else lq3 N (X5_came_L54 (nI f) (nI n) c J) s11 (x + X5_dragsOf (nI (V 0 f)) (nI (V 3 f)) s11) (nI (i + 1))), eM (fun s11 => if jr (nI (V 4 4) - nI i) 2 = 0 then lq3 N (X6_came_L44 (nI f) (nI n) m J') s11 (x + -X6_dragsAt (nI (V 0 f)) (nI (V 3 f)) s11) (nI (i + 1)) else lq3 N (X6_came_L44 (nI f) (nI n) m J') s11 (x + X6_dragsAt (nI (V 0 f)) (nI (V 3 f)) s11) (nI (i + 1)))]
          rw [d1, d2]
          by_cases h : jr (nI (V 4 4) - nI i) 2 = 0
          · rw [if_pos h, if_pos h]; exact ih (i + 1) (by omega) N (by omega) _ _ t1
          · rw [if_neg h, if_neg h]; exact ih (i + 1) (by omega) N (by omega) _ _ t1
      rw [show c.1 11 (jn (nI f)) = _ from F.d hf' h12, show c.1 10 (jn (nI f)) = _ from F.x hf' h12, G.d hf' h12, G.x hf' h12]
      obtain ⟨x', y1, y2⟩ := key (fun v5_4 => some ((nI (V 1 f) - jr (nI (V 1 f)) 8) + X5_held v5_4 7)) (fun v4_4 => some (((nI (V 1 f) / 8) * 8) + X6_within v4_4 0 7)) n 1 (by omega) 4096 (by omega) (V 2 f) (jr (nI (V 1 f)) 8) (O.d hf')
      rw [show (1 : Int32) = nI 1 from rfl, y1, y2]
      have hx := O.x hf'
      rw [cell_x hx, cell_y hx, pk_sub (by omega), show (8 : Int32) = nI 8 from rfl, pk_mul, show V 1 f - V 1 f % 8 = V 1 f / 8 * 8 by omega]
      exact ⟨_, c, m, rfl, rfl, R'⟩
    · rw [if_pos (wi_p (by rfl) (by rfl) h2), if_pos (in_p (by rfl) (by rfl) h2)]
      exact ⟨-2, c, m, rfl, rfl, R'⟩
  · rw [if_pos (show X0_has 1 a1 c = 0 by rw [has_z F O]; exact h1), if_pos (show X6_isFind a1 m = 0 by rw [isf_z G O]; exact h1)]
    exact ⟨-2, c, m, rfl, rfl, R'⟩
theorem under_tab : ∀ k, k ≤ 5 → ∀ j, j ≤ 5 → (X5_isUnder (nI k) (nI j) = some 0 ∧ lq1 4096 (X6_taken_L33 (nI j) some) (nI k) = some (-1)) ∨ (X5_isUnder (nI k) (nI j) = some 1 ∧ lq1 4096 (X6_taken_L33 (nI j) some) (nI k) = some (nI j)) := by decide +kernel
theorem taken_J (v2 : Int32) (J : Int32 → Option Int32) : ∀ (N : Nat) (x y : Int32), lq1 N (X6_taken_L33 v2 some) x = some y → lq1 N (X6_taken_L33 v2 J) x = J y := by
  intro N
  induction N with
  | zero => intro x y h; cases h
  | succ N ih =>
    intro x y h
    rw [lq1_s, X6_taken_L33] at h ⊢
    by_cases h1 : x = -1
    · rw [if_pos h1] at h ⊢; cases h; rfl
    · rw [if_neg h1] at h ⊢
      by_cases h2 : x = v2
      · rw [if_pos h2] at h ⊢; cases h; rfl
      · rw [if_neg h2] at h ⊢; exact ih _ _ h
theorem op_taken (a1 a2 : Int32) : OpOK Rel (oC_taken a1 a2) (oM_taken a1 a2) := by
  intro c m R
  have R' := R
  obtain ⟨V, T, E, O, F, G, hu, RR⟩ := R
  have hn := O.n
  unfold oC_taken oM_taken X5_taken X6_taken
  by_cases h2 : 0 ≤ a2.toInt ∧ a2.toInt ≤ 5
  · rw [if_neg (wi_n (by rfl) (by rfl) h2), if_neg (in_n (by rfl) (by rfl) h2)]
    obtain ⟨j, hj, rfl⟩ := nI_ofI (v := a2) (n := 5) h2.1 h2.2 (by decide)
    by_cases h1 : 0 ≤ a1.toInt ∧ a1.toInt < V 4 0
    · obtain ⟨f, hf, rfl⟩ := nI_ofI (v := a1) (n := V 4 0) h1.1 (by omega) (by omega)
      rw [nI_toInt (by omega)] at h1
      have hf' : f < V 4 0 := by omega
      have h12 := lt_n O hf'
      rw [if_neg (has_f F O hf'), if_neg (show ¬ X6_isFind (nI f) m = 0 by rw [isf_z G O, nI_toInt (by omega)]; omega), chk_t (inb_nI h12 (by decide)), chk_t (inb_nI h12 (by decide)), show c.1 9 (jn (nI f)) = _ from F.k h12, show c.1 12 (jn (nI f)) = _ from F.s h12, G.k h12, G.s h12]
      simp only [wj1]
      rcases under_tab _ (O.k hf') j hj with ⟨u1, u2⟩ | ⟨u1, u2⟩
      · rw [u1, bd_s, if_pos rfl, taken_J _ _ _ _ _ u2, if_neg (fun z => nIm1 (by omega) z.symm)]
        exact ⟨-13, c, m, rfl, rfl, R'⟩
      · rw [u1, bd_s, if_neg (by decide), taken_J _ _ _ _ _ u2, if_pos rfl]
        exact ⟨_, c, m, rfl, rfl, R'⟩
    · rw [if_pos (show X0_has 1 a1 c = 0 by rw [has_z F O]; exact h1), if_pos (show X6_isFind a1 m = 0 by rw [isf_z G O]; exact h1)]
      exact ⟨-11, c, m, rfl, rfl, R'⟩
  · rw [if_pos (wi_p (by rfl) (by rfl) h2), if_pos (in_p (by rfl) (by rfl) h2)]
    exact ⟨-2, c, m, rfl, rfl, R'⟩
theorem wl_skip {b : Nat} (hb : b < 64) : ∀ k y : Nat, y + k = 6 → (∀ j, y ≤ j → j < 6 → b.testBit j = false) → ∀ N, k < N → ∀ m : vMH, lq2 N (X6_walksAll_L2 (nI b)) (nI y) m = some m := by
  intro k
  induction k with
  | zero =>
    intro y hy ht N hN m
    obtain ⟨N, rfl⟩ : ∃ M, N = M + 1 := ⟨N - 1, by omega⟩
    rw [lq2_s, X6_walksAll_L2, if_pos (by rw [show y = 6 by omega]; decide)]
  | succ k ih =>
    intro y hy ht N hN m
    obtain ⟨N, rfl⟩ : ∃ M, N = M + 1 := ⟨N - 1, by omega⟩
    have hn : ¬ (6 : Int32) ≤ nI y := by rw [show (6 : Int32) = nI 6 from rfl]; exact nI_ge (by omega) (by decide)
    rw [lq2_s, X6_walksAll_L2, if_neg hn, nI_1]
    simp only [bit1 (show b < 4096 by omega) (show y < 12 by omega)]
    rw [if_neg (by rw [ht y (Nat.le_refl _) (by omega)]; decide)]
    exact ih (y + 1) (by omega) (fun j h1 h2 => ht j (by omega) h2) N (by omega) m
theorem wl_one {s : Nat} (hs : s < 6) (m : vMH) : X6_walksAll (nI (2 ^ s)) m = X6_walks (nI s) m := by
  have hb : 2 ^ s < 64 := Nat.lt_of_lt_of_le (Nat.pow_lt_pow_right (by decide) hs) (by decide)
  have key : ∀ k y : Nat, y + k = s → ∀ N, 7 + k < N → lq2 N (X6_walksAll_L2 (nI (2 ^ s))) (nI y) m = X6_walks (nI s) m := by
    intro k
    induction k with
    | zero =>
      intro y hy N hN
      obtain ⟨N, rfl⟩ : ∃ M, N = M + 1 := ⟨N - 1, by omega⟩
      have : y = s := by omega
      subst this
      have hn : ¬ (6 : Int32) ≤ nI y := by rw [show (6 : Int32) = nI 6 from rfl]; exact nI_ge (by omega) (by decide)
      rw [lq2_s, X6_walksAll_L2, if_neg hn, nI_1]
      simp only [bit1 (show 2 ^ y < 4096 by omega) (show y < 12 by omega)]
      rw [if_pos (by rw [Nat.testBit_two_pow]; simp)]
      have e : ∀ q : vMH, lq2 N (X6_walksAll_L2 (nI (2 ^ y))) (nI (y + 1)) q = some q := fun q => wl_skip hb (6 - (y + 1)) (y + 1) (by omega) (fun j h1 h2 => by rw [Nat.testBit_two_pow]; simp; omega) N (by omega) q
      simp only [e]
      cases X6_walks (nI y) m <;> rfl
    | succ k ih =>
      intro y hy N hN
      obtain ⟨N, rfl⟩ : ∃ M, N = M + 1 := ⟨N - 1, by omega⟩
      have hn : ¬ (6 : Int32) ≤ nI y := by rw [show (6 : Int32) = nI 6 from rfl]; exact nI_ge (by omega) (by decide)
      rw [lq2_s, X6_walksAll_L2, if_neg hn, nI_1]
      simp only [bit1 (show 2 ^ s < 4096 by omega) (show y < 12 by omega)]
      rw [if_neg (by rw [Nat.testBit_two_pow]; simp; omega)]
      exact ih (y + 1) (by omega) N (by omega)
  exact key s 0 (by omega) 4096 (by omega)
theorem op_walk (a1 : Int32) : OpOK Rel (oC_walk a1) (oM_walk a1) := by
  intro c m R
  unfold oC_walk oM_walk X5_walk X6_walk
  by_cases h : 0 ≤ a1.toInt ∧ a1.toInt ≤ 5
  · rw [if_neg (wi_n (by rfl) (by rfl) h), if_neg (in_n (by rfl) (by rfl) h)]
    obtain ⟨s, hs, rfl⟩ := nI_ofI (v := a1) (n := 5) h.1 h.2 (by decide)
    have hb : 2 ^ s < 64 := Nat.lt_of_lt_of_le (Nat.pow_lt_pow_right (by decide) (show s < 6 by omega)) (by decide)
    obtain ⟨V, T, E, O, F, G, hu, RR⟩ := R
    rw [jl1 s (by omega)]
    have kc : Kp (fun q k => q = 1 ∧ k = 9) c (v_up c 1 9 (c.1 1 9 ||| nI (2 ^ s))) := Kp.rf.up ⟨rfl, rfl⟩
    have km : Kp (fun q k => q = 0 ∧ k = 32) m (v_up m 0 32 0) := Kp.rf.up ⟨rfl, rfl⟩
    have K : WK 1 T E V (v_up c 1 9 (c.1 1 9 ||| nI (2 ^ s))) (v_up m 0 32 0) := ⟨O, F.kp kc (fun k _ _ _ => by omega) (fun q k _ _ => by omega), G.kp km (fun k _ => by omega) (fun q k _ _ _ => by omega) O.n, RR.1.kp kc (by omega) (fun j => by omega) (fun j => by omega), RR.2.1.kp km (by omega) (fun j => by omega) (fun j => by omega), hu⟩
    obtain ⟨d, c', m', g1, g2, g3⟩ := walk_ok isF1 hb K
    rw [wl_one (by omega)] at g2
    rw [g1, g2, bd_s, bd_s]
    obtain ⟨W, e, w0, w1, w2, w3, w4, w5, w6⟩ := g3
    have e32 : m'.1 0 32 = d := by rw [w4, rd_up, if_pos ⟨rfl, rfl⟩, Int32.zero_add]
    have kcc : Kp (fun q k => PcW 1 q k ∨ (q = 1 ∧ k = 9)) c c' := ((kc.mono (fun q k h => Or.inr h)).up (Or.inl (by unfold PcW; omega))).tr (w2.mono (fun q k h => Or.inl h))
    have c19 : c'.1 1 9 = c.1 1 9 ||| nI (2 ^ s) := by rw [w2 _ _ (by unfold PcW; omega), rd_up, if_neg (by omega), rd_up, if_pos ⟨rfl, rfl⟩]
    have m16 : m'.1 0 16 = m.1 0 16 := by rw [w3 _ _ (by unfold PmW; omega), km _ _ (by omega)]
    have kmm : Kp (fun q k => PmW q k ∨ (q = 0 ∧ k = 16)) m (v_up m' 0 16 (m'.1 0 16 ||| nI (2 ^ s))) := ((km.mono (fun q k h => Or.inl (by unfold PmW; omega))).tr (w3.mono (fun q k h => Or.inl h))).up (Or.inr ⟨rfl, rfl⟩)
    have kme : Kp (fun q k => q = 0 ∧ k = 16) m' (v_up m' 0 16 (m'.1 0 16 ||| nI (2 ^ s))) := Kp.rf.up ⟨rfl, rfl⟩
    obtain ⟨t1, t2, ⟨z, t3⟩, t4, t5, t6⟩ := RR
    refine ⟨d, c', _, rfl, by rw [e32], W, T, E, w1.1, w1.2.1, w1.2.2.1.kp kme (fun k _ => by omega) (fun q k _ _ _ => by omega) w1.1.n, w1.2.2.2.2.2, w1.2.2.2.1, w1.2.2.2.2.1.kp kme (by omega) (fun j => by omega) (fun j => by omega), ⟨z, ?_⟩, ?_, ?_, ?_⟩
    · obtain ⟨a1, a2, a3, a4⟩ := t3
      refine ⟨a1, by rw [kcc _ _ (by unfold PcW; omega)]; exact a2, by rw [kmm _ _ (by unfold PmW; omega)]; exact a3, fun j hj => ?_⟩
      rw [kcc _ _ (by unfold PcW; omega), kmm _ _ (by unfold PmW; omega)]
      exact a4 j hj
    · rw [c19, rd_up, if_pos ⟨rfl, rfl⟩, m16, t4]
    · exact t5.cg (Nat.le_refl _) (fun q k h => kcc _ _ (by unfold PcW; omega)) (fun q k h => kmm _ _ (by unfold PmW; omega))
    · exact t6.cg (fun q k h => kcc _ _ (by unfold PcW; omega)) (fun q k h => kmm _ _ (by unfold PmW; omega))
  · rw [if_pos (wi_p (by rfl) (by rfl) h), if_pos (in_p (by rfl) (by rfl) h)]
    exact ⟨-2, c, m, rfl, rfl, R⟩
theorem op_left (a1 : Int32) : OpOK Rel (oC_left a1) (oM_left a1) := by
  intro c m R
  have R' := R
  obtain ⟨V, T, E, O, F, G, hu, RR⟩ := R
  have hn := O.n
  unfold oC_left oM_left X5_left X6_left
  by_cases h : 0 ≤ a1.toInt ∧ a1.toInt ≤ 1
  · rw [if_neg (wi_n (by rfl) (by rfl) h), if_neg (in_n (by rfl) (by rfl) h)]
    by_cases h0 : a1 = 0
    · rw [if_pos h0, if_pos h0]
      unfold X0_lying
      rw [F.n, F.g, G.n, G.g, bc_tab _ O.g, bo_tab _ O.g, bd_s]
      exact ⟨_, c, m, rfl, rfl, R'⟩
    · rw [if_neg h0, if_neg h0]
      simp only [wj2]
      obtain ⟨c', g1, g2⟩ := never_C O hu F RR.1
      obtain ⟨m', k1, ⟨p, k2⟩, k3⟩ := never_M O hu (fun v2_3 mh4 => some (v2_3, v_up mh4 0 14 (m.1 0 14))) (V 4 0) 0 (by omega) 4096 (by omega) m ⟨V 4 3, by rw [qs_id]; exact G⟩ RR.2.1
      have k1' := k1
      rw [show cnt (neverP V E) 0 = 0 from rfl, show (nI 0 : Int32) = 0 from rfl] at k1'
      rw [g1, bd_s, k1', never_eq O, G.p]
      have kc : Kp PcY c c' := g2.mono (fun q k h => by unfold PcB PcS at h; unfold PcY; omega)
      have km : Kp PmY m (v_up m' 0 14 (nI (V 4 3))) := (k3.mono (fun q k h => by unfold PmS at h; unfold PmY; omega)).up (by unfold PmY; omega)
      refine ⟨_, c', _, rfl, rfl, V, T, E, O, F.kp g2 (fun k _ _ _ => by unfold PcB PcS; omega) (fun q k _ _ => by unfold PcB PcS; omega), ?_, hu, RR.kp kc km⟩
      have := pl_M (y := V 4 3) k2
      rw [qs_qs, qs_id] at this
      exact this
  · rw [if_pos (wi_p (by rfl) (by rfl) h), if_pos (in_p (by rfl) (by rfl) h)]
    exact ⟨-2, c, m, rfl, rfl, R'⟩
end OPS3
