/-! PURE PART, calls: odds, image, back -/
section HOST
variable {c m : vMH}
-- ===== odds =====
def gL : Nat → Int64 → Int64 → Option Int64
  | 0, _, _ => none
  | n + 1, a, b => if lg_cmp b 0 = 0 then some a else gL n b (jrl a b)
theorem gL_ok (J : Int64 → Option (Int64 × vMH)) : ∀ (N : Nat) (a b g : Int64), gL N a b = some g → lq2 N (X6_odds_L87 J) a b = J g
  | 0, _, _, _, h => by cases h
  | n + 1, a, b, g, h => by
    rw [lq2_s, X6_odds_L87]
    rw [gL] at h
    by_cases h0 : lg_cmp b 0 = 0
    · rw [if_pos h0] at h ⊢
      cases h; rfl
    · rw [if_neg h0] at h ⊢
      have hb : ¬ b = 0 := fun z => h0 (by rw [lg_eq0]; exact z)
      rw [chk_t hb]
      exact gL_ok J n b _ g h
def tabP (n a : Nat) : Bool := match gL 4096 (lN a) (Int32.toInt64 (nI (n + 1))) with
  | none => false
  | some g => decide (¬ g = 0) && (decide ((X5_lowered (nI a) (nI (n + 1))).map Int32.toInt64 = some (lN a / g)) && decide ((X5_lowered (nI (n + 1)) (nI a)).map Int32.toInt64 = some (Int32.toInt64 (nI (n + 1)) / g)))
theorem odds_tab0 : ∀ n, n < 20 → ∀ a, a ≤ n + 1 → tabP n a = true := by decide +kernel
theorem odds_tab (n : Nat) (hn : n < 20) (a : Nat) (ha : a ≤ n + 1) : ∃ g : Int64, gL 4096 (lN a) (Int32.toInt64 (nI (n + 1))) = some g ∧ ¬ g = 0 ∧ (X5_lowered (nI a) (nI (n + 1))).map Int32.toInt64 = some (lN a / g) ∧ (X5_lowered (nI (n + 1)) (nI a)).map Int32.toInt64 = some (Int32.toInt64 (nI (n + 1)) / g) := by
  have h := odds_tab0 n hn a ha
  unfold tabP at h
  cases hg : gL 4096 (lN a) (Int32.toInt64 (nI (n + 1))) with
  | none => rw [hg] at h; cases h
  | some g =>
    rw [hg] at h
    simp only [Bool.and_eq_true, decide_eq_true_eq] at h
    exact ⟨g, rfl, h.1, h.2.1, h.2.2⟩
theorem lN_one (a : Nat) : lN a + 1 = lN (a + 1) := by
  show Int64.ofNat a + 1 = Int64.ofNat (a + 1)
  rw [Int64.ofNat_add]; rfl
theorem map_bind {x : Option Int32} {v : Int64} {mh : vMH} (h : x.map Int32.toInt64 = some v) : (x.bind fun q => some (Int32.toInt64 q, mh)) = some (v, mh) := by
  cases x with
  | none => cases h
  | some y => cases h; rfl
theorem op_odds (a1 a2 a3 a4 : Int32) : OpOK Rel (oC_odds a1 a2 a3 a4) (oM_odds a1 a2 a3 a4) := by
  intro c m R
  unfold oC_odds oM_odds X5_odds X6_odds
  by_cases h1 : 1 ≤ a2.toInt ∧ a2.toInt ≤ 20
  · rw [if_neg (wi_n (by rfl) (by rfl) h1), if_neg (in_n (by rfl) (by rfl) h1)]
    by_cases h2 : 0 ≤ a3.toInt ∧ a3.toInt ≤ 12
    · rw [if_neg (wi_n (by rfl) (by rfl) h2), if_neg (in_n (by rfl) (by rfl) h2)]
      by_cases h3 : 0 ≤ a4.toInt ∧ a4.toInt ≤ 1
      · rw [if_neg (wi_n (by rfl) (by rfl) h3), if_neg (in_n (by rfl) (by rfl) h3)]
        obtain ⟨n, hn, rfl⟩ := nI_ofI (v := a2) (n := 20) (by omega) h1.2 (by decide)
        rw [nI_toInt (by omega)] at h1
        have key : ∀ (J : Int32 → vMH → Option (Int64 × vMH)) (J' : Int64 → vMH → Option (Int64 × vMH)) (k i : Nat), i + k = n → ∀ N, k < N → ∀ (a : Nat) (c m : vMH), a ≤ i → Rel c m → ∃ (b : Nat) (c' m' : vMH), b ≤ n ∧ lq3 N (X5_odds_L40 a1 (nI n) a3 J) (nI a) (nI i) c = J (nI b) c' ∧ lq3 N (X6_odds_L45 a1 (nI n) a3 J') (lN a) (nI i) m = J' (lN b) m' ∧ Rel c' m' := by
          intro J J' k
          induction k with
          | zero =>
            intro i hi N hN a c m ha R
            obtain ⟨N, rfl⟩ : ∃ M, N = M + 1 := ⟨N - 1, by omega⟩
            rw [lq3_s, lq3_s, X5_odds_L40, X6_odds_L45, if_pos (nI_le (by omega) (by omega)), if_pos (nI_le (by omega) (by omega))]
            exact ⟨a, c, m, by omega, rfl, rfl, R⟩
          | succ k ih =>
            intro i hi N hN a c m ha R
            obtain ⟨N, rfl⟩ : ∃ M, N = M + 1 := ⟨N - 1, by omega⟩
            obtain ⟨x, c1, m1, g1, g2, g3⟩ := drawn_ok R (a1 + nI i)
            rw [lq3_s, lq3_s, X5_odds_L40, X6_odds_L45, if_neg (nI_ge (by omega) (by omega)), if_neg (nI_ge (by omega) (by omega)), g1, bd_s, g2, bd_s]
            dsimp only
            rw [nI_1 i, Int64.add_zero, lN_one, nI_1 a]
            by_cases h : x < a3
            · rw [if_pos h, if_pos h]; exact ih (i + 1) (by omega) N (by omega) a c1 m1 (by omega) g3
            · rw [if_neg h, if_neg h]; exact ih (i + 1) (by omega) N (by omega) (a + 1) c1 m1 (by omega) g3
        simp only [wj1, wj2]
        obtain ⟨b, c', m', hb, y1, y2, y3⟩ := key (fun v5_4 mh5 => (if a4 = 0 then ((X5_lowered v5_4 (nI n)).bind fun q10 => (some ((Int32.toInt64 q10), mh5))) else ((X5_lowered (nI n) v5_4).bind fun q8 => (some ((Int32.toInt64 q8), mh5))))) (fun v5_4 mh5 => lq2 4096 (X6_odds_L87 (fun v7_7 => (if a4 = 0 then (chk (¬ v7_7 = 0) (some ((v5_4 / v7_7), mh5))) else (chk (¬ v7_7 = 0) (some (((Int32.toInt64 (nI n)) / v7_7), mh5)))))) v5_4 (Int32.toInt64 (nI n))) n 0 (by omega) 4096 (by omega) 0 c m (Nat.le_refl _) R
        obtain ⟨j, rfl⟩ : ∃ j, n = j + 1 := ⟨n - 1, by omega⟩
        obtain ⟨g, t1, t2, t3, t4⟩ := odds_tab j (by omega) b hb
        rw [show (nI 0 : Int32) = 0 from rfl] at y1 y2
        rw [show (lN 0 : Int64) = 0 from rfl] at y2
        rw [y1, y2, gL_ok _ _ _ _ _ t1, chk_t t2]
        by_cases h0 : a4 = 0
        · rw [if_pos h0, if_pos h0, map_bind t3]; exact ⟨_, c', m', rfl, rfl, y3⟩
        · rw [if_neg h0, if_neg h0, map_bind t4, chk_t t2]; exact ⟨_, c', m', rfl, rfl, y3⟩
      · rw [if_pos (wi_p (by rfl) (by rfl) h3), if_pos (in_p (by rfl) (by rfl) h3)]
        exact ⟨_, c, m, rfl, rfl, R⟩
    · rw [if_pos (wi_p (by rfl) (by rfl) h2), if_pos (in_p (by rfl) (by rfl) h2)]
      exact ⟨_, c, m, rfl, rfl, R⟩
  · rw [if_pos (wi_p (by rfl) (by rfl) h1), if_pos (in_p (by rfl) (by rfl) h1)]
    exact ⟨_, c, m, rfl, rfl, R⟩
-- ===== image, back =====
theorem op_image : OpOK Rel oC_image oM_image := by
  intro c m R
  obtain ⟨V, T, E, O, F, G, hu, RR⟩ := R
  have hn := O.n
  unfold oC_image oM_image X5_image X6_image
  simp only [wj1]
  obtain ⟨m1, g1, g2, g3⟩ := image_loop (fun (mh1 : vMH) => ((X6_bitsOf (mh1.1 0 12)).bind fun q3 => (some (((mh1.1 0 11) - q3), (v_up (v_up (v_up (v_up (v_up (v_up (v_up mh1 0 41 (mh1.1 0 11)) 0 42 (mh1.1 0 12)) 0 43 (mh1.1 0 13)) 0 44 (mh1.1 0 14)) 0 45 (mh1.1 0 15)) 0 46 (mh1.1 0 16)) 0 47 (mh1.1 0 4)))))) 12 0 rfl 4096 (by decide) m
  rw [show (nI 0 : Int32) = 0 from rfl] at g1
  have e : ∀ k, m1.1 0 k = m.1 0 k := fun k => g2 _ _ (by omega)
  rw [g1, e 12, e 11, e 13, e 14, e 15, e 16, e 4, G.g, bo_tab _ O.g, bd_s, G.n, G.w, G.p, G.y, G.u]
  have kc : Kp (fun q k => q = 2 ∨ q = 14 ∨ q = 15 ∨ (q = 0 ∧ k = 8)) c (v_up (X0_layAs 2 1 c) 0 8 1) := by
    unfold X0_layAs
    have hs : ∀ k, (fun q k => q = 2 ∨ q = 14 ∨ q = 15 ∨ (q = 0 ∧ k = 8)) 2 k := fun k => Or.inl rfl
    exact (((((((((Kp.rf.cp (fun k => Or.inr (Or.inl rfl))).cp (fun k => Or.inr (Or.inr (Or.inl rfl)))).up (hs _)).up (hs _)).up (hs _)).up (hs _)).up (hs _)).up (hs _)).up (hs _)).up (Or.inr (Or.inr (Or.inr ⟨rfl, rfl⟩)))
  have kc' := kc
  have r4 : ∀ k, 4 ≤ k → k ≤ 10 → (v_up (X0_layAs 2 1 c) 0 8 1).1 2 k = c.1 1 k := by
    intro k h1 h2
    have : k = 4 ∨ k = 5 ∨ k = 6 ∨ k = 7 ∨ k = 8 ∨ k = 9 ∨ k = 10 := by omega
    rcases this with rfl | rfl | rfl | rfl | rfl | rfl | rfl <;> simp [X0_layAs, rd_up, rd_cpq]
  have r14 : ∀ j, j < 12 → (v_up (X0_layAs 2 1 c) 0 8 1).1 14 j = c.1 10 j ∧ (v_up (X0_layAs 2 1 c) 0 8 1).1 15 j = c.1 11 j := by
    intro j hj
    constructor <;> simp [X0_layAs, rd_up, rd_cpq, show jn 0 = 0 from rfl, show jn 12 = 12 from rfl, hj]
  have r08 : (v_up (X0_layAs 2 1 c) 0 8 1).1 0 8 = 1 := by simp [rd_up]
  generalize v_up (X0_layAs 2 1 c) 0 8 1 = c' at kc kc' r4 r14 r08
  have km : Kp (fun q k => q = 10 ∨ q = 11 ∨ (q = 0 ∧ 41 ≤ k)) m (v_up (v_up (v_up (v_up (v_up (v_up (v_up m1 0 41 (nI (V 4 0))) 0 42 (nI (V 4 1))) 0 43 (nI (V 4 2))) 0 44 (nI (V 4 3))) 0 45 (nI (V 4 4))) 0 46 (m.1 0 16)) 0 47 (nI (V 4 5))) := (((((((g2.mono (fun q k h => by omega)).up (by omega)).up (by omega)).up (by omega)).up (by omega)).up (by omega)).up (by omega)).up (by omega)
  have F' : FC 1 V c' := F.kp kc (fun k _ _ _ => by omega) (fun q k _ _ => by omega)
  obtain ⟨t1, t2, ⟨z, t3⟩, t4, t5, t6⟩ := RR
  obtain ⟨o1, o2, o3, o4, o5, o6, o7⟩ := O
  refine ⟨_, c', _, ?_, rfl, V, T, E, ⟨o1, o2, o3, o4, o5, o6, o7⟩, F', G.kp km (fun k _ => by omega) (fun q k _ _ _ => by omega) hn, hu, t1.kp kc (by omega) (fun j => by omega) (fun j => by omega), t2.kp km (by omega) (fun j => by omega) (fun j => by omega), ⟨z, ?_⟩, ?_, Or.inr ⟨r08, V, o1, o2, o3, o4, o5, hu, fun j hj => ⟨(o7 j hj).1, (o7 j hj).2, ?_, ?_, ?_, ?_⟩, ?_, ?_, ?_, ?_, ?_, ?_, ?_, ?_, ?_, ?_, ?_, ?_, ?_⟩, ?_⟩
  · unfold X0_lying
    rw [F'.n, F'.g, bc_tab _ (Nat.lt_of_lt_of_le o2 (Nat.le_trans (Nat.pow_le_pow_right (by decide) o1) (by decide)))]
  · obtain ⟨a1, a2, a3, a4⟩ := t3
    refine ⟨a1, by rw [kc _ _ (by omega)]; exact a2, by rw [km _ _ (by omega)]; exact a3, fun j hj => ?_⟩
    rw [kc _ _ (by omega), km _ _ (by omega)]
    exact a4 j hj
  · rw [kc _ _ (by omega), km _ _ (by omega)]; exact t4
  · rw [(r14 j (by omega)).1]; exact (F.2.2.2.2.2.2.2 j hj).1
  · simp only [rd_up]; simp; rw [(g3 j (by omega) (by omega)).1]; exact (G.2.2.2.2.2.2.2 j hj).1
  · rw [(r14 j (by omega)).2]; exact (F.2.2.2.2.2.2.2 j hj).2
  · simp only [rd_up]; simp; rw [(g3 j (by omega) (by omega)).2]; exact (G.2.2.2.2.2.2.2 j hj).2
  · rw [r4 4 (by decide) (by decide)]; exact F.n
  · rw [r4 5 (by decide) (by decide)]; exact F.g
  · rw [r4 6 (by decide) (by decide)]; exact F.w
  · rw [r4 7 (by decide) (by decide)]; exact F.p
  · rw [r4 8 (by decide) (by decide)]; exact F.y
  · rw [r4 10 (by decide) (by decide)]; exact F.u
  · rw [r4 9 (by decide) (by decide), t4]; simp [rd_up]
  · simp [rd_up]
  · simp [rd_up]
  · simp [rd_up]
  · simp [rd_up]
  · simp [rd_up]
  · simp [rd_up]
  · exact t6.cg (fun q k h => kc _ _ (by omega)) (fun q k h => km _ _ (by omega))
theorem back_loop {n : Nat} (hn : n ≤ 12) (J : vMH → Option (Int32 × vMH)) : ∀ k i : Nat, i + k = n → ∀ N : Nat, k < N → ∀ m : vMH, m.1 0 41 = nI n → ∃ m', lq2 N (X6_back_L13 J) (nI i) m = J m' ∧ Kp (fun q k => (q = 5 ∨ q = 6) ∧ i ≤ k ∧ k < 12) m m' ∧ ∀ j, i ≤ j → j < n → m'.1 5 j = m.1 10 j ∧ m'.1 6 j = m.1 11 j := by
  intro k
  induction k with
  | zero =>
    intro i hi N hN m h41
    obtain ⟨N, rfl⟩ : ∃ M, N = M + 1 := ⟨N - 1, by omega⟩
    refine ⟨m, ?_, Kp.rf, fun j h1 h2 => by omega⟩
    rw [lq2_s, X6_back_L13, h41, if_pos (nI_le (by omega) (by omega))]
  | succ k ih =>
    intro i hi N hN m h41
    obtain ⟨N, rfl⟩ : ∃ M, N = M + 1 := ⟨N - 1, by omega⟩
    have k1 : Kp (fun q k => (q = 5 ∨ q = 6) ∧ i ≤ k ∧ k < 12) m (v_up (v_up m 5 i (m.1 10 i)) 6 i (m.1 11 i)) := (Kp.rf.up ⟨Or.inl rfl, by omega, by omega⟩).up ⟨Or.inr rfl, by omega, by omega⟩
    obtain ⟨m', g1, g2, g3⟩ := ih (i + 1) (by omega) N (by omega) (v_up (v_up m 5 i (m.1 10 i)) 6 i (m.1 11 i)) (by rw [k1 _ _ (by omega)]; exact h41)
    refine ⟨m', ?_, k1.tr (g2.mono (fun q k h => by omega)), ?_⟩
    · rw [lq2_s, X6_back_L13, h41, if_neg (nI_ge (by omega) (by omega)), chk_t (inb_nI (by omega) (by decide)), jn_nI (by omega), nI_1]
      exact g1
    · intro j h1 h2
      by_cases hj : j = i
      · subst hj
        rw [g2 _ _ (by omega), g2 _ _ (by omega), rd_up, rd_up, rd_up, rd_up]
        constructor
        · rw [if_neg (by omega), if_pos ⟨rfl, rfl⟩]
        · rw [if_pos ⟨rfl, rfl⟩]
      · obtain ⟨y1, y2⟩ := g3 j (by omega) h2
        rw [y1, y2, rd_up, rd_up, rd_up, rd_up, if_neg (by omega), if_neg (by omega), if_neg (by omega), if_neg (by omega)]
        exact ⟨rfl, rfl⟩
theorem op_back : OpOK Rel oC_back oM_back := by
  intro c m R
  have R' := R
  obtain ⟨V, T, E, O, F, G, hu, RR⟩ := R
  have hn := O.n
  obtain ⟨t1, t2, ⟨z, t3⟩, t4, t5, t6⟩ := RR
  unfold oC_back oM_back X5_back X6_back
  rcases t5 with ⟨i1, i2⟩ | ⟨i1, K, K1, K2, K3, K4, K5, K6, K7, c4, c5, c6, c7, c8, c10, c9, m41, m42, m43, m44, m45, m47⟩
  · rw [if_pos i1, if_pos i2]
    exact ⟨-3, c, m, rfl, rfl, R'⟩
  · rw [if_neg (show ¬ c.1 0 8 = 0 by rw [i1]; decide), if_neg (show ¬ m.1 0 41 = -1 by rw [m41]; exact nIm1 (by omega))]
    simp only [wj1]
    obtain ⟨m1, g1, g2, g3⟩ := back_loop K1 (fun (mh2 : vMH) => ((X6_bitsOf (mh2.1 0 42)).bind fun q4 => (some (((mh2.1 0 41) - q4), (v_up (v_up (v_up (v_up (v_up (v_up (v_up mh2 0 11 (mh2.1 0 41)) 0 12 (mh2.1 0 42)) 0 13 (mh2.1 0 43)) 0 14 (mh2.1 0 44)) 0 15 (mh2.1 0 45)) 0 16 (mh2.1 0 46)) 0 4 (mh2.1 0 47)))))) (K 4 0) 0 (by omega) 4096 (by omega) m m41
    rw [show (nI 0 : Int32) = 0 from rfl] at g1
    have e : ∀ k, m1.1 0 k = m.1 0 k := fun k => g2 _ _ (by omega)
    have hg : K 4 1 < 4096 := Nat.lt_of_lt_of_le K2 (Nat.le_trans (Nat.pow_le_pow_right (by decide) K1) (by decide))
    rw [g1, e 42, e 41, e 43, e 44, e 45, e 46, e 47, m41, m42, m43, m44, m45, m47, bo_tab _ hg, bd_s]
    have kc : Kp (fun q k => (q = 1 ∧ 4 ≤ k ∧ k ≤ 10) ∨ q = 10 ∨ q = 11) c (X0_layAs 1 2 c) := by
      unfold X0_layAs
      exact ((((((((Kp.rf.cp (fun k => Or.inr (Or.inl rfl))).cp (fun k => Or.inr (Or.inr rfl))).up (by omega)).up (by omega)).up (by omega)).up (by omega)).up (by omega)).up (by omega)).up (by omega)
    have r4 : ∀ k, 4 ≤ k → k ≤ 10 → (X0_layAs 1 2 c).1 1 k = c.1 2 k := by
      intro k h1 h2
      have : k = 4 ∨ k = 5 ∨ k = 6 ∨ k = 7 ∨ k = 8 ∨ k = 9 ∨ k = 10 := by omega
      rcases this with rfl | rfl | rfl | rfl | rfl | rfl | rfl <;> simp [X0_layAs, rd_up, rd_cpq]
    have r14 : ∀ j, j < 12 → (X0_layAs 1 2 c).1 10 j = c.1 14 j ∧ (X0_layAs 1 2 c).1 11 j = c.1 15 j := by
      intro j hj
      constructor <;> simp [X0_layAs, rd_up, rd_cpq, show jn 0 = 0 from rfl, show jn 12 = 12 from rfl, hj]
    generalize X0_layAs 1 2 c = c' at kc r4 r14
    have km : Kp (fun q k => ((q = 5 ∨ q = 6) ∧ k < 12) ∨ (q = 0 ∧ (k = 4 ∨ (11 ≤ k ∧ k ≤ 16)))) m (v_up (v_up (v_up (v_up (v_up (v_up (v_up m1 0 11 (nI (K 4 0))) 0 12 (nI (K 4 1))) 0 13 (nI (K 4 2))) 0 14 (nI (K 4 3))) 0 15 (nI (K 4 4))) 0 16 (m.1 0 46)) 0 4 (nI (K 4 5))) := (((((((g2.mono (fun q k h => by omega)).up (by omega)).up (by omega)).up (by omega)).up (by omega)).up (by omega)).up (by omega)).up (by omega)
    have v4 : ∀ j, (fun a j => if a = 0 ∨ a = 3 then V a j else K a j : qV) 4 j = K 4 j := fun j => if_neg (by omega)
    have v1 : ∀ j, (fun a j => if a = 0 ∨ a = 3 then V a j else K a j : qV) 1 j = K 1 j := fun j => if_neg (by omega)
    have v2 : ∀ j, (fun a j => if a = 0 ∨ a = 3 then V a j else K a j : qV) 2 j = K 2 j := fun j => if_neg (by omega)
    have v0 : ∀ j, (fun a j => if a = 0 ∨ a = 3 then V a j else K a j : qV) 0 j = V 0 j := fun j => if_pos (by omega)
    have v3 : ∀ j, (fun a j => if a = 0 ∨ a = 3 then V a j else K a j : qV) 3 j = V 3 j := fun j => if_pos (by omega)
    generalize (fun a j => if a = 0 ∨ a = 3 then V a j else K a j : qV) = W at v0 v1 v2 v3 v4
    have F' : FC 1 W c' := by
      refine ⟨?_, ?_, ?_, ?_, ?_, ?_, fun j hj => ⟨?_, ?_⟩, fun j hj => ?_⟩
      · rw [r4 4 (by decide) (by decide), v4]; exact c4
      · rw [r4 5 (by decide) (by decide), v4]; exact c5
      · rw [r4 6 (by decide) (by decide), v4]; exact c6
      · rw [r4 7 (by decide) (by decide), v4]; exact c7
      · rw [r4 8 (by decide) (by decide), v4]; exact c8
      · rw [r4 10 (by decide) (by decide), v4]; exact c10
      · rw [kc _ _ (by omega), v0]; exact (F.2.2.2.2.2.2.1 j hj).1
      · rw [kc _ _ (by omega), v3]; exact (F.2.2.2.2.2.2.1 j hj).2
      · rw [v4] at hj
        obtain ⟨y1, y2⟩ := r14 j (by omega)
        obtain ⟨x1, x2, x3, x4, x5, x6⟩ := K7 j hj
        rw [show 4 * 1 + 6 = 10 from rfl, show 4 * 1 + 7 = 11 from rfl, y1, y2, v1, v2]
        exact ⟨x3, x5⟩
    refine ⟨_, c', _, ?_, rfl, W, T, E, ?_, F', ?_, by rw [v4]; exact K6, t1.kp kc (by omega) (fun j => by omega) (fun j => by omega), t2.kp km (by omega) (fun j => by omega) (fun j => by omega), ⟨z, ?_⟩, ?_, ?_, ?_⟩
    · unfold X0_lying
      rw [F'.n, F'.g, v4, v4, bc_tab _ hg]
    · refine ⟨by rw [v4]; exact K1, by rw [v4, v4]; exact K2, by rw [v4]; exact K3, by rw [v4]; exact K4, by rw [v4]; exact K5, fun j hj => by rw [v0, v3]; exact O.2.2.2.2.2.1 j hj, fun j hj => ?_⟩
      rw [v4] at hj
      rw [v1, v2]
      exact ⟨(K7 j hj).1, (K7 j hj).2.1⟩
    · refine ⟨by simp [rd_up, v4], by simp [rd_up, v4], by simp [rd_up, v4], by simp [rd_up, v4], by simp [rd_up, v4], by simp [rd_up, v4], fun j hj => ⟨?_, ?_⟩, fun j hj => ?_⟩
      · rw [km _ _ (by omega), v0]; exact (G.2.2.2.2.2.2.1 j hj).1
      · rw [km _ _ (by omega), v3]; exact (G.2.2.2.2.2.2.1 j hj).2
      · rw [v4] at hj
        obtain ⟨x1, x2, x3, x4, x5, x6⟩ := K7 j hj
        obtain ⟨y1, y2⟩ := g3 j (Nat.zero_le _) hj
        rw [v1, v2]
        simp only [rd_up]
        simp
        rw [y1, y2]
        exact ⟨x4, x6⟩
    · obtain ⟨a1, a2, a3, a4⟩ := t3
      refine ⟨a1, by rw [kc _ _ (by omega)]; exact a2, by rw [km _ _ (by omega)]; exact a3, fun j hj => ?_⟩
      rw [kc _ _ (by omega), km _ _ (by omega)]
      exact a4 j hj
    · rw [r4 9 (by decide) (by decide), c9]; simp [rd_up]
    · have h5 : IMG T c m := Or.inr ⟨i1, K, K1, K2, K3, K4, K5, K6, K7, c4, c5, c6, c7, c8, c10, c9, m41, m42, m43, m44, m45, m47⟩
      exact h5.cg (Nat.le_refl _) (fun q k h => kc _ _ (by omega)) (fun q k h => km _ _ (by omega))
    · exact t6.cg (fun q k h => kc _ _ (by omega)) (fun q k h => km _ _ (by omega))
end HOST
