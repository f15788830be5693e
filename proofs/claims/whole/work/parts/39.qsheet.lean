/-! PURE PART, calls: sheets -/
section SHEETS
variable {c m : vMH}
theorem shC {s : Nat} (hs : s < 4) : ¬ X5_isSheet (nI s) = 0 := by
  rw [sh_z, nI_toInt (by omega)]; omega
theorem shM {s : Nat} (hs : s < 4) : ¬ X6_isSheet (nI s) = 0 := by
  unfold X6_isSheet
  exact in_n (lo := 0) (hi := 3) (by rfl) (by rfl) (by rw [nI_toInt (by omega)]; omega)
theorem shC0 {v : Int32} (h : ¬ (0 ≤ v.toInt ∧ v.toInt ≤ 3)) : X5_isSheet v = 0 := by rw [sh_z]; exact h
theorem shM0 {v : Int32} (h : ¬ (0 ≤ v.toInt ∧ v.toInt ≤ 3)) : X6_isSheet v = 0 := by
  unfold X6_isSheet
  exact in_p (by rfl) (by rfl) h
theorem sort_C {s : Nat} (hs : s < 4) : X2_sortOf (nI s) c = some (c.1 30 s) := by
  unfold X2_sortOf
  rw [if_neg (shC hs), chk_t (inb_nI hs (by decide)), jn_nI (by omega)]
theorem size_C {s : Nat} (hs : s < 4) : X2_sizeOf (nI s) c = some (c.1 31 s) := by
  unfold X2_sizeOf
  rw [if_neg (shC hs), chk_t (inb_nI hs (by decide)), jn_nI (by omega)]
def rngP (k : Nat) (i n : Int32) : Prop := 0 ≤ i.toInt ∧ 0 ≤ n.toInt ∧ i.toInt + n.toInt ≤ k
theorem range_C {s k : Nat} (hs : s < 4) (hk : k ≤ 40) (e : c.1 31 s = nI k) (v2 v3 : Int32) : (rngP k v2 v3 → X2_hasRange (nI s) v2 v3 c = some 1) ∧ (¬ rngP k v2 v3 → X2_hasRange (nI s) v2 v3 c = some 0) := by
  have z0 : ((0 : Int32)).toInt = 0 := rfl
  have hkt : (nI k).toInt = k := nI_toInt (by omega)
  unfold X2_hasRange rngP
  rw [size_C hs, e]
  simp only [bd_s, Int32.lt_iff_toInt_lt, z0, hkt]
  by_cases h1 : v2.toInt < 0
  · rw [if_pos h1]; exact ⟨fun h => by omega, fun _ => rfl⟩
  · rw [if_neg h1]
    by_cases h2 : v3.toInt < 0
    · rw [if_pos h2]; exact ⟨fun h => by omega, fun _ => rfl⟩
    · rw [if_neg h2]
      by_cases h3 : (k : Int) < v2.toInt
      · rw [if_pos h3]; exact ⟨fun h => by omega, fun _ => rfl⟩
      · rw [if_neg h3]
        have e4 : (nI k - v2).toInt = k - v2.toInt := by rw [qi_sub] <;> rw [hkt] <;> omega
        rw [e4]
        by_cases h4 : (k : Int) - v2.toInt < v3.toInt
        · rw [if_pos h4]; exact ⟨fun h => by omega, fun _ => rfl⟩
        · rw [if_neg h4]; exact ⟨fun _ => rfl, fun h => absurd ⟨by omega, by omega, by omega⟩ h⟩
theorem zero_C {s : Nat} (hs : s < 4) : ∀ k i : Nat, i + k = 40 → ∀ N, k < N → ∀ c : vMH, ∃ c', lq2 N (X2_make_L30 (nI s)) (nI i) c = some c' ∧ Kp (fun q k => q = 32 ∧ 40 * s + i ≤ k ∧ k < 40 * s + 40) c c' ∧ ∀ j, i ≤ j → j < 40 → c'.1 32 (40 * s + j) = 0 := by
  intro k
  induction k with
  | zero =>
    intro i hi N hN c
    obtain ⟨N, rfl⟩ : ∃ M, N = M + 1 := ⟨N - 1, by omega⟩
    rw [lq2_s, X2_make_L30, if_pos (by rw [show i = 40 by omega]; decide)]
    exact ⟨c, rfl, Kp.rf, fun j h1 h2 => by omega⟩
  | succ k ih =>
    intro i hi N hN c
    obtain ⟨N, rfl⟩ : ∃ M, N = M + 1 := ⟨N - 1, by omega⟩
    obtain ⟨c', g1, g2, g3⟩ := ih (i + 1) (by omega) N (by omega) (v_up c 32 (40 * s + i) 0)
    have e : nI s * 40 + nI i = nI (40 * s + i) := by rw [show (40 : Int32) = nI 40 from rfl, pk_mul, nI_add, Nat.mul_comm]
    refine ⟨c', ?_, (Kp.rf.up ⟨rfl, by omega, by omega⟩).tr (g2.mono (fun q k h => by omega)), fun j h1 h2 => ?_⟩
    · rw [lq2_s, X2_make_L30, if_neg (by rw [show (40 : Int32) = nI 40 from rfl]; exact nI_ge (by omega) (by decide)), chk_t (by rw [e]; exact inb_nI (by omega) (by decide)), e, jn_nI (by omega), nI_1]
      exact g1
    · by_cases hj : j = i
      · subst hj
        rw [g2 _ _ (by omega), rd_up, if_pos ⟨rfl, rfl⟩]
      · exact g3 j (by omega) h2
theorem zero_M {s n : Nat} (hs : s < 4) (hn : n ≤ 40) {a2 : Int32} (h2 : ¬ a2 < 0) : ∀ k i : Nat, i + k = n → ∀ N, k < N → ∀ m : vMH, ∃ m', lq2 N (X6_sheet_L77 (nI s) a2 (nI n)) (nI i) m = some (1, m') ∧ Kp (fun q k => q = 15 ∧ 40 * s + i ≤ k ∧ k < 40 * s + 40) m m' ∧ ∀ j, i ≤ j → j < n → m'.1 15 (40 * s + j) = 0 := by
  intro k
  induction k with
  | zero =>
    intro i hi N hN m
    obtain ⟨N, rfl⟩ : ∃ M, N = M + 1 := ⟨N - 1, by omega⟩
    rw [lq2_s, X6_sheet_L77, if_pos (nI_le (by omega) (by omega))]
    exact ⟨m, rfl, Kp.rf, fun j h1 h2 => by omega⟩
  | succ k ih =>
    intro i hi N hN m
    obtain ⟨N, rfl⟩ : ∃ M, N = M + 1 := ⟨N - 1, by omega⟩
    obtain ⟨m', g1, g2, g3⟩ := ih (i + 1) (by omega) N (by omega) (v_up m 15 (40 * s + i) 0)
    have e : 40 * nI s + nI i = nI (40 * s + i) := by rw [show (40 : Int32) = nI 40 from rfl, pk_mul, nI_add]
    refine ⟨m', ?_, (Kp.rf.up ⟨rfl, by omega, by omega⟩).tr (g2.mono (fun q k h => by omega)), fun j h1 h2 => ?_⟩
    · rw [lq2_s, X6_sheet_L77, if_neg (nI_ge (by omega) (by omega)), if_neg h2, chk_t (by rw [e]; exact inb_nI (by omega) (by decide)), e, jn_nI (by omega), nI_1]
      exact g1
    · by_cases hj : j = i
      · subst hj
        rw [g2 _ _ (by omega), rd_up, if_pos ⟨rfl, rfl⟩]
      · exact g3 j (by omega) h2
/-- only sheets have changed -/
theorem rel_sheet {c' m' : vMH} (R : Rel c m) (kc : Kp (fun q _ => 30 ≤ q ∧ q ≤ 32) c c') (km : Kp (fun q _ => 12 ≤ q ∧ q ≤ 15) m m') (hS : SHT c' m') : Rel c' m' := by
  obtain ⟨V, T, E, O, F, G, hu, t1, t2, ⟨z, t3⟩, t4, t5, t6⟩ := R
  refine ⟨V, T, E, O, F.kp kc (fun k _ _ _ => by omega) (fun q k _ _ => by omega), G.kp km (fun k _ => by omega) (fun q k _ _ _ => by omega) O.n, hu, t1.kp kc (by omega) (fun j => by omega) (fun j => by omega), t2.kp km (by omega) (fun j => by omega) (fun j => by omega), ⟨z, ?_⟩, ?_, ?_, hS⟩
  · obtain ⟨a1, a2, a3, a4⟩ := t3
    refine ⟨a1, by rw [kc _ _ (by omega)]; exact a2, by rw [km _ _ (by omega)]; exact a3, fun j hj => ?_⟩
    rw [kc _ _ (by omega), km _ _ (by omega)]
    exact a4 j hj
  · rw [kc _ _ (by omega), km _ _ (by omega)]; exact t4
  · exact t5.cg (Nat.le_refl _) (fun q k h => kc _ _ (by omega)) (fun q k h => km _ _ (by omega))
theorem Rel.sh (R : Rel c m) : SHT c m := by
  obtain ⟨V, T, E, O, F, G, hu, t1, t2, t3, t4, t5, t6⟩ := R
  exact t6
theorem SHT.other {c' m' : vMH} {s : Nat} (h : SHT c m) (kc : Kp (fun q k => (q = 30 ∧ k = s) ∨ (q = 31 ∧ k = s) ∨ (q = 32 ∧ 40 * s ≤ k ∧ k < 40 * s + 40)) c c') (km : Kp (fun q k => (q = 12 ∧ k = s) ∨ (q = 13 ∧ k = s) ∨ (q = 14 ∧ k = s) ∨ (q = 15 ∧ 40 * s ≤ k ∧ k < 40 * s + 40)) m m') (hs : (c'.1 30 s = -1 ∧ m'.1 12 s = 0) ∨ (m'.1 12 s = 1 ∧ ∃ q k : Nat, q ≤ 2 ∧ k ≤ 40 ∧ c'.1 30 s = nI q ∧ m'.1 13 s = nI q ∧ c'.1 31 s = nI k ∧ m'.1 14 s = nI k ∧ ∀ j, j < k → c'.1 32 (40 * s + j) = m'.1 15 (40 * s + j))) : SHT c' m' := by
  intro i hi
  by_cases e : i = s
  · subst e; exact hs
  · rcases h i hi with ⟨h1, h2⟩ | ⟨h1, q, k, g1, g2, g3, g4, g5, g6, g7⟩
    · exact Or.inl ⟨by rw [kc _ _ (by omega)]; exact h1, by rw [km _ _ (by omega)]; exact h2⟩
    · refine Or.inr ⟨by rw [km _ _ (by omega)]; exact h1, q, k, g1, g2, by rw [kc _ _ (by omega)]; exact g3, by rw [km _ _ (by omega)]; exact g4, by rw [kc _ _ (by omega)]; exact g5, by rw [km _ _ (by omega)]; exact g6, fun j hj => ?_⟩
      rw [kc _ _ (by omega), km _ _ (by omega)]
      exact g7 j hj
theorem make_C {s : Nat} (hs : s < 4) (a2 a3 : Int32) : ∃ c', X2_make (nI s) a2 a3 c = some c' ∧ c'.1 30 s = a2 ∧ c'.1 31 s = X5_held a3 40 ∧ (∀ j, j < 40 → c'.1 32 (40 * s + j) = 0) ∧ Kp (fun q k => (q = 30 ∧ k = s) ∨ (q = 31 ∧ k = s) ∨ (q = 32 ∧ 40 * s ≤ k ∧ k < 40 * s + 40)) c c' := by
  obtain ⟨c', g1, g2, g3⟩ := zero_C hs 40 0 rfl 4096 (by decide) (v_up (v_up c 30 s a2) 31 s (X5_held a3 40))
  unfold X2_make
  rw [if_neg (shC hs), chk_t (inb_nI hs (by decide)), jn_nI (by omega), show (0 : Int32) = nI 0 from rfl, g1]
  refine ⟨c', rfl, ?_, ?_, fun j hj => g3 j (Nat.zero_le _) hj, ((Kp.rf.up (by omega)).up (by omega)).tr (g2.mono (fun q k h => by omega))⟩
  · rw [g2 _ _ (by omega), rd_up, if_neg (by omega), rd_up, if_pos ⟨rfl, rfl⟩]
  · rw [g2 _ _ (by omega), rd_up, if_pos ⟨rfl, rfl⟩]
theorem op_sheet (a1 a2 a3 : Int32) : OpOK Rel (oC_sheet a1 a2 a3) (oM_sheet a1 a2 a3) := by
  intro c m R
  unfold oC_sheet oM_sheet X5_sheet X6_sheet
  by_cases h1 : 0 ≤ a1.toInt ∧ a1.toInt ≤ 3
  · obtain ⟨s, hs, rfl⟩ := nI_ofI (v := a1) (n := 3) h1.1 h1.2 (by decide)
    have hs4 : s < 4 := by omega
    rw [if_neg (shC hs4), if_neg (shM hs4)]
    by_cases h2 : -1 ≤ a2.toInt ∧ a2.toInt ≤ 2
    · rw [if_neg (wi_n (by rfl) (by rfl) h2), if_neg (in_n (by rfl) (by rfl) h2)]
      simp only [wj0, wj1]
      by_cases h3 : a2 = -1
      · have hlt : a2 < 0 := by rw [h3]; decide
        rw [if_pos h3, if_pos hlt, if_pos hlt, if_pos hlt]
        obtain ⟨c', g1, g2, g3, g4, g5⟩ := make_C (c := c) hs4 (-1) 0
        unfold X2_remove
        rw [g1, bd_s, bd_s, chk_t (inb_nI hs4 (by decide)), chk_t (Or.inl trivial), jn_nI (by omega)]
        have hM : lq2 4096 (X6_sheet_L77 (nI s) a2 a3) 0 (v_up (v_up (v_up m 12 s 0) 13 s a2) 14 s a3) = some (1, v_up (v_up (v_up m 12 s 0) 13 s a2) 14 s a3) := by
          rw [show (4096 : Nat) = 4095 + 1 from rfl, lq2_s, X6_sheet_L77]
          split
          · rfl
          · first
            | rfl
            | rw [if_pos hlt]
        rw [hM]
        have km : Kp (fun q k => (q = 12 ∧ k = s) ∨ (q = 13 ∧ k = s) ∨ (q = 14 ∧ k = s) ∨ (q = 15 ∧ 40 * s ≤ k ∧ k < 40 * s + 40)) m (v_up (v_up (v_up m 12 s 0) 13 s a2) 14 s a3) := ((Kp.rf.up (by omega)).up (by omega)).up (by omega)
        exact ⟨1, c', _, rfl, rfl, rel_sheet R (g5.mono (fun q k h => by omega)) (km.mono (fun q k h => by omega)) (R.sh.other g5 km (Or.inl ⟨g2, by simp [rd_up]⟩))⟩
      · have hge : 0 ≤ a2.toInt := by
          by_cases e : a2.toInt = -1
          · exact absurd (Int32.toInt_inj.mp (e.trans (show -1 = ((-1 : Int32)).toInt from rfl))) h3
          · omega
        have hlt : ¬ a2 < 0 := by rw [Int32.lt_iff_toInt_lt]; show ¬ a2.toInt < 0; omega
        rw [if_neg h3, if_neg hlt, if_neg hlt, if_neg hlt]
        by_cases h4 : a3 ≤ 40
        · rw [if_pos h4, if_pos h4]
          by_cases h5 : 0 ≤ a3
          · rw [if_pos h5, if_pos h5]
            rw [Int32.le_iff_toInt_le] at h4 h5
            obtain ⟨n, hn, rfl⟩ := nI_ofI (v := a3) (n := 40) h5 h4 (by decide)
            obtain ⟨q, hq, rfl⟩ := nI_ofI (v := a2) (n := 2) hge h2.2 (by decide)
            obtain ⟨c', g1, g2, g3, g4, g5⟩ := make_C (c := c) hs4 (nI q) (nI n)
            rw [g1, bd_s, chk_t (inb_nI hs4 (by decide)), chk_t (Or.inr trivial), jn_nI (by omega)]
            obtain ⟨m', k1, k2, k3⟩ := zero_M (n := n) hs4 hn hlt n 0 (by omega) 4096 (by omega) (v_up (v_up (v_up m 12 s 1) 13 s (nI q)) 14 s (nI n))
            rw [show (nI 0 : Int32) = 0 from rfl] at k1
            rw [k1]
            have eh : X5_held (nI n) 40 = nI n := by
              unfold X5_held
              rw [if_pos (nI_pos' (by omega)), if_pos (by rw [show (40 : Int32) = nI 40 from rfl]; exact nI_le hn (by decide))]
            rw [eh] at g3
            have km : Kp (fun q k => (q = 12 ∧ k = s) ∨ (q = 13 ∧ k = s) ∨ (q = 14 ∧ k = s) ∨ (q = 15 ∧ 40 * s ≤ k ∧ k < 40 * s + 40)) m m' := (((Kp.rf.up (by omega)).up (by omega)).up (by omega)).tr (k2.mono (fun q k h => by omega))
            refine ⟨1, c', m', rfl, rfl, rel_sheet R (g5.mono (fun q k h => by omega)) (km.mono (fun q k h => by omega)) (R.sh.other g5 km (Or.inr ⟨?_, q, n, hq, hn, g2, ?_, g3, ?_, fun j hj => by rw [g4 j (by omega), k3 j (Nat.zero_le _) hj]⟩))⟩
            · rw [k2 _ _ (by omega)]; simp [rd_up]
            · rw [k2 _ _ (by omega)]; simp [rd_up]
            · rw [k2 _ _ (by omega)]; simp [rd_up]
          · rw [if_neg h5, if_neg h5]; exact ⟨-14, c, m, rfl, rfl, R⟩
        · rw [if_neg h4, if_neg h4]; exact ⟨-2, c, m, rfl, rfl, R⟩
    · rw [if_pos (wi_p (by rfl) (by rfl) h2), if_pos (in_p (by rfl) (by rfl) h2)]
      exact ⟨-2, c, m, rfl, rfl, R⟩
  · rw [if_pos (shC0 h1), if_pos (shM0 h1)]
    exact ⟨-2, c, m, rfl, rfl, R⟩
theorem op_cell (a1 a2 a3 : Int32) : OpOK Rel (oC_cell a1 a2 a3) (oM_cell a1 a2 a3) := by
  intro c m R
  unfold oC_cell oM_cell X5_cell X6_cell
  by_cases h1 : 0 ≤ a1.toInt ∧ a1.toInt ≤ 3
  · obtain ⟨s, hs, rfl⟩ := nI_ofI (v := a1) (n := 3) h1.1 h1.2 (by decide)
    have hs4 : s < 4 := by omega
    rw [if_neg (shC hs4), if_neg (shM hs4), sort_C hs4, bd_s, chk_t (inb_nI hs4 (by decide)), jn_nI (by omega)]
    rcases R.sh s hs4 with ⟨e1, e2⟩ | ⟨e1, q, k, hq, hk, e2, e3, e4, e5, e6⟩
    · rw [if_pos e1, if_pos e2]; exact ⟨-11, c, m, rfl, rfl, R⟩
    · rw [if_neg (show ¬ c.1 30 s = -1 by rw [e2]; exact nIm1 (by omega)), if_neg (show ¬ m.1 12 s = 0 by rw [e1]; decide), size_C hs4, bd_s, e4, e5]
      have hkt : (nI k).toInt = k := nI_toInt (by omega)
      have hk1 : (nI k - 1).toInt = (k : Int) - 1 := by rw [qi_sub] <;> rw [hkt, show ((1 : Int32)).toInt = 1 from rfl] <;> omega
      have hM : (X6_in (Int32.toInt64 a2) 0 (Int32.toInt64 (nI k - 1)) = 0) = ¬ (0 ≤ a2.toInt ∧ a2.toInt ≤ (k : Int) - 1) := by
        rw [in_z, il, il, hk1]; rfl
      by_cases h2 : a2.toInt < 0
      · rw [if_pos (by rw [Int32.lt_iff_toInt_lt]; exact h2), if_pos (by rw [hM]; omega)]; exact ⟨-12, c, m, rfl, rfl, R⟩
      · rw [if_neg (by rw [Int32.lt_iff_toInt_lt]; exact h2)]
        by_cases h3 : a2.toInt < k
        · rw [if_pos (show a2 < nI k by rw [Int32.lt_iff_toInt_lt, hkt]; exact h3), if_neg (by rw [hM]; omega)]
          obtain ⟨i, hi, rfl⟩ := nI_ofI (v := a2) (n := k) (by omega) (by omega) (by omega)
          rw [nI_toInt (by omega)] at h3
          have hik : i < k := by omega
          have hr := (range_C hs4 hk e4 (nI i) 1).1 ⟨by rw [nI_toInt (by omega)]; omega, by decide, by rw [nI_toInt (by omega), show ((1 : Int32)).toInt = 1 from rfl]; omega⟩
          unfold X2_put
          simp only [wj1]
          have ec : nI s * 40 + nI i = nI (40 * s + i) := by rw [show (40 : Int32) = nI 40 from rfl, pk_mul, nI_add, Nat.mul_comm]
          have em : 40 * nI s + nI i = nI (40 * s + i) := by rw [show (40 : Int32) = nI 40 from rfl, pk_mul, nI_add]
          rw [hr, bd_s, if_neg (show ¬ (1 : Int32) = 0 by decide), chk_t (inb_nI hs4 (by decide)), jn_nI (show s < 2 ^ 31 by omega), e2, e3]
          have fin : ∀ x : Int32, ∃ (y : Int32) (c' m' : vMH), ((chk (inb (nI s * 40 + nI i) 160) (some (v_up c 32 (jn (nI s * 40 + nI i)) x))).bind fun q9 => some ((1 : Int32), q9)) = some (y, c') ∧ chk (inb (40 * nI s + nI i) 160) (some ((1 : Int32), v_up m 15 (jn (40 * nI s + nI i)) x)) = some (y, m') ∧ Rel c' m' := by
            intro x
            rw [chk_t (by rw [ec]; exact inb_nI (by omega) (by decide)), chk_t (by rw [em]; exact inb_nI (by omega) (by decide)), ec, em, jn_nI (by omega), bd_s]
            have kc : Kp (fun q k => (q = 30 ∧ k = s) ∨ (q = 31 ∧ k = s) ∨ (q = 32 ∧ 40 * s ≤ k ∧ k < 40 * s + 40)) c (v_up c 32 (40 * s + i) x) := Kp.rf.up (by omega)
            have km : Kp (fun q k => (q = 12 ∧ k = s) ∨ (q = 13 ∧ k = s) ∨ (q = 14 ∧ k = s) ∨ (q = 15 ∧ 40 * s ≤ k ∧ k < 40 * s + 40)) m (v_up m 15 (40 * s + i) x) := Kp.rf.up (by omega)
            refine ⟨1, _, _, rfl, rfl, rel_sheet R (kc.mono (fun q k h => by omega)) (km.mono (fun q k h => by omega)) (R.sh.other kc km (Or.inr ⟨by rw [rd_up, if_neg (by omega)]; exact e1, q, k, hq, hk, by rw [rd_up, if_neg (by omega)]; exact e2, by rw [rd_up, if_neg (by omega)]; exact e3, by rw [rd_up, if_neg (by omega)]; exact e4, by rw [rd_up, if_neg (by omega)]; exact e5, fun j hj => ?_⟩))⟩
            rw [rd_up, rd_up]
            by_cases hji : j = i
            · rw [if_pos ⟨rfl, by omega⟩, if_pos ⟨rfl, by omega⟩]
            · rw [if_neg (by omega), if_neg (by omega)]; exact e6 j hj
          have hqq : q = 0 ∨ q = 1 ∨ q = 2 := by omega
          rcases hqq with rfl | rfl | rfl
          · rw [if_pos (show nI 0 = 0 from rfl), if_pos (show nI 0 = 0 from rfl)]; exact fin _
          · rw [if_neg (show ¬ nI 1 = 0 by decide), if_neg (show ¬ nI 1 = 0 by decide), if_pos (show nI 1 = 1 from rfl), if_pos (show nI 1 = 1 from rfl)]; exact fin _
          · rw [if_neg (show ¬ nI 2 = 0 by decide), if_neg (show ¬ nI 2 = 0 by decide), if_neg (show ¬ nI 2 = 1 by decide), if_neg (show ¬ nI 2 = 1 by decide)]; exact fin _
        · rw [if_neg (show ¬ a2 < nI k by rw [Int32.lt_iff_toInt_lt, hkt]; exact h3), if_pos (by rw [hM]; omega)]; exact ⟨-12, c, m, rfl, rfl, R⟩
  · rw [if_pos (shC0 h1), if_pos (shM0 h1)]
    exact ⟨-2, c, m, rfl, rfl, R⟩
/-- items are copied in one direction or the other -/
theorem copy_M {s o i j n ks ko : Nat} (hs : s < 4) (ho : o < 4) (hks : ks ≤ 40) (hko : ko ≤ 40) (hi : i + n ≤ ks) (hj : j + n ≤ ko) (up : Bool) (hu : up = (decide (s = o) && decide (i < j))) : ∀ r k : Nat, k + r = n → ∀ N, r < N → ∀ m0 m : vMH, Kp (fun q x => q = 15 ∧ 40 * o + j ≤ x ∧ x < 40 * o + j + n) m0 m → (∀ q, q < n → m.1 15 (40 * o + j + (if up = true then n - 1 - q else q)) = if q < k then m0.1 15 (40 * s + i + (if up = true then n - 1 - q else q)) else m0.1 15 (40 * o + j + (if up = true then n - 1 - q else q))) → ∃ m', lq2 N (X6_copy_L121 (nI s) (nI i) (nI o) (nI j) (nI n) (if up = true then 1 else 0)) (nI k) m = some (nI n, m') ∧ Kp (fun q x => q = 15 ∧ 40 * o + j ≤ x ∧ x < 40 * o + j + n) m0 m' ∧ ∀ q, q < n → m'.1 15 (40 * o + j + q) = m0.1 15 (40 * s + i + q) := by
  intro r
  induction r with
  | zero =>
    intro k hk N hN m0 m K H
    obtain ⟨N, rfl⟩ : ∃ M, N = M + 1 := ⟨N - 1, by omega⟩
    rw [lq2_s, X6_copy_L121, if_pos (nI_le (by omega) (by omega))]
    refine ⟨m, rfl, K, fun q hq => ?_⟩
    cases up with
    | true =>
      have := H (n - 1 - q) (by omega)
      simp only [if_true] at this
      rw [if_pos (by omega), show n - 1 - (n - 1 - q) = q by omega] at this
      exact this
    | false =>
      have := H q hq
      simp only [Bool.false_eq_true, if_false] at this
      rw [if_pos (by omega)] at this
      exact this
  | succ r ih =>
    intro k hk N hN m0 m K H
    obtain ⟨N, rfl⟩ : ∃ M, N = M + 1 := ⟨N - 1, by omega⟩
    have hkn : k < n := by omega
    -- which one
    obtain ⟨w, hw, hwn, hJ⟩ : ∃ w : Nat, w = (if up = true then n - 1 - k else k) ∧ w < n ∧ ∀ {ρ : Type} (J : Int32 → ρ), (if (if up = true then (1 : Int32) else 0) = 0 then J (nI k) else J (nI n - 1 - nI k)) = J (nI w) := by
      cases up with
      | true =>
        refine ⟨n - 1 - k, rfl, by omega, fun J => ?_⟩
        rw [if_pos rfl, if_neg (by decide)]
        obtain ⟨x, rfl⟩ : ∃ x, n = x + 1 := ⟨n - 1, by omega⟩
        rw [nI_pred, pk_sub (by omega), show x + 1 - 1 - k = x - k by omega]
      | false =>
        refine ⟨k, rfl, hkn, fun J => ?_⟩
        rw [if_neg (by decide : ¬ (false = true)), if_pos rfl]
    have es : 40 * nI s + nI i + nI w = nI (40 * s + i + w) := by rw [show (40 : Int32) = nI 40 from rfl, pk_mul, nI_add, nI_add]
    have eo : 40 * nI o + nI j + nI w = nI (40 * o + j + w) := by rw [show (40 : Int32) = nI 40 from rfl, pk_mul, nI_add, nI_add]
    have src : m.1 15 (40 * s + i + w) = m0.1 15 (40 * s + i + w) := by
      by_cases hin : 40 * o + j ≤ 40 * s + i + w ∧ 40 * s + i + w < 40 * o + j + n
      · -- the same sheet: it is not written yet
        have hso : s = o := by omega
        subst hso
        cases up with
        | true =>
          have hij : i < j := by
            have h := hu.symm
            simp at h
            exact h
          simp only [if_true] at hw
          have := H (n - 1 - (i + w - j)) (by omega)
          simp only [if_true] at this
          rw [if_neg (by omega), show n - 1 - (n - 1 - (i + w - j)) = i + w - j by omega, show 40 * s + j + (i + w - j) = 40 * s + i + w by omega] at this
          exact this
        | false =>
          have hij : j ≤ i := by
            have h := hu.symm
            simp at h
            exact h
          simp only [Bool.false_eq_true, if_false] at hw
          have := H (i + w - j) (by omega)
          simp only [Bool.false_eq_true, if_false] at this
          rw [if_neg (by omega), show 40 * s + j + (i + w - j) = 40 * s + i + w by omega] at this
          exact this
      · exact K _ _ (by omega)
    obtain ⟨m', g1, g2, g3⟩ := ih (k + 1) (by omega) N (by omega) m0 (v_up m 15 (40 * o + j + w) (m.1 15 (40 * s + i + w))) (K.up ⟨rfl, by omega, by omega⟩) (fun q hq => by
      have hH := H q hq
      rw [rd_up]
      by_cases e : q = k
      · subst e
        rw [← hw, if_pos ⟨rfl, rfl⟩, if_pos (by omega)]
        exact src
      · have hne : ¬ (15 = 15 ∧ 40 * o + j + (if up = true then n - 1 - q else q) = 40 * o + j + w) := by
          cases up with
          | true =>
            simp only [if_true] at hw ⊢
            omega
          | false =>
            simp only [Bool.false_eq_true, if_false] at hw ⊢
            omega
        rw [if_neg hne, hH]
        by_cases hqk : q < k
        · rw [if_pos hqk, if_pos (show q < k + 1 by omega)]
        · rw [if_neg hqk, if_neg (show ¬ q < k + 1 by omega)])
    refine ⟨m', ?_, g2, g3⟩
    rw [lq2_s, X6_copy_L121, if_neg (nI_ge hkn (by omega))]
    simp only [wj1]
    rw [hJ (fun s19 => chk (inb (40 * nI s + nI i + s19) 160) (chk (inb (40 * nI o + nI j + s19) 160) (lq2 N (X6_copy_L121 (nI s) (nI i) (nI o) (nI j) (nI n) (if up = true then 1 else 0)) (nI k + 1) (v_up m 15 (jn (40 * nI o + nI j + s19)) (m.1 15 (jn (40 * nI s + nI i + s19))))))), chk_t (by rw [es]; exact inb_nI (by omega) (by decide)), chk_t (by rw [eo]; exact inb_nI (by omega) (by decide)), es, eo, jn_nI (by omega), jn_nI (by omega), nI_1]
    exact g1
theorem op_copy (a1 a2 a3 a4 a5 : Int32) : OpOK Rel (oC_copy a1 a2 a3 a4 a5) (oM_copy a1 a2 a3 a4 a5) := by
  intro c m R
  have z0 : ((0 : Int32)).toInt = 0 := rfl
  unfold oC_copy oM_copy X5_copy X6_copy
  by_cases h1 : 0 ≤ a1.toInt ∧ a1.toInt ≤ 3
  · obtain ⟨s, hs, rfl⟩ := nI_ofI (v := a1) (n := 3) h1.1 h1.2 (by decide)
    have hs4 : s < 4 := by omega
    rw [if_neg (shC hs4), if_neg (shM hs4)]
    by_cases h2 : 0 ≤ a3.toInt ∧ a3.toInt ≤ 3
    · obtain ⟨o, ho, rfl⟩ := nI_ofI (v := a3) (n := 3) h2.1 h2.2 (by decide)
      have ho4 : o < 4 := by omega
      rw [if_neg (shC ho4), if_neg (shM ho4), sort_C hs4, sort_C ho4, chk_t (inb_nI hs4 (by decide)), jn_nI (show s < 2 ^ 31 by omega)]
      simp only [bd_s]
      rcases R.sh s hs4 with ⟨e1, e2⟩ | ⟨e1, q, ks, hq, hks, e2, e3, e4, e5, e6⟩
      · rw [if_pos e1, if_pos e2]; exact ⟨-11, c, m, rfl, rfl, R⟩
      · rw [if_neg (show ¬ c.1 30 s = -1 by rw [e2]; exact nIm1 (by omega)), if_neg (show ¬ m.1 12 s = 0 by rw [e1]; decide), chk_t (inb_nI ho4 (by decide)), jn_nI (show o < 2 ^ 31 by omega)]
        rcases R.sh o ho4 with ⟨f1, f2⟩ | ⟨f1, q2, ko, hq2, hko, f2, f3, f4, f5, f6⟩
        · rw [if_pos f1, if_pos f2]; exact ⟨-11, c, m, rfl, rfl, R⟩
        · rw [if_neg (show ¬ c.1 30 o = -1 by rw [f2]; exact nIm1 (by omega)), if_neg (show ¬ m.1 12 o = 0 by rw [f1]; decide), e2, e3, f2, f3]
          by_cases hqq : nI q = nI q2
          · rw [if_pos hqq, if_pos hqq]
            obtain ⟨rs1, rs0⟩ := range_C hs4 hks e4 a2 a5
            obtain ⟨ro1, ro0⟩ := range_C ho4 hko f4 a4 a5
            have hkst : (nI ks).toInt = ks := nI_toInt (by omega)
            have hkot : (nI ko).toInt = ko := nI_toInt (by omega)
            rw [e5, f5]
            simp only [Int32.lt_iff_toInt_lt, Int32.le_iff_toInt_le, z0]
            by_cases g5 : a5.toInt < 0
            · rw [if_pos g5, rs0 (fun z => by have := z.2.1; omega), bd_s, if_pos rfl]; exact ⟨-12, c, m, rfl, rfl, R⟩
            · rw [if_neg g5]
              by_cases g2 : a2.toInt < 0
              · rw [if_pos g2, rs0 (fun z => by have := z.1; omega), bd_s, if_pos rfl]; exact ⟨-12, c, m, rfl, rfl, R⟩
              · rw [if_neg g2]
                have s1 : (nI ks - a5).toInt = ks - a5.toInt := by rw [qi_sub] <;> rw [hkst] <;> have := a5.toInt_lt <;> omega
                have s2 : (nI ko - a5).toInt = ko - a5.toInt := by rw [qi_sub] <;> rw [hkot] <;> have := a5.toInt_lt <;> omega
                rw [s1, s2]
                by_cases g4 : a4.toInt < 0
                · rw [if_pos g4]
                  by_cases gr : rngP ks a2 a5
                  · rw [rs1 gr, bd_s, if_neg (by decide), ro0 (fun z => by have := z.1; omega), bd_s, if_pos rfl]; exact ⟨-12, c, m, rfl, rfl, R⟩
                  · rw [rs0 gr, bd_s, if_pos rfl]; exact ⟨-12, c, m, rfl, rfl, R⟩
                · rw [if_neg g4]
                  by_cases gr : (ks : Int) - a5.toInt < a2.toInt
                  · rw [if_pos gr, rs0 (fun z => by have := z.2.2; omega), bd_s, if_pos rfl]; exact ⟨-12, c, m, rfl, rfl, R⟩
                  · rw [if_neg gr, rs1 ⟨by omega, by omega, by omega⟩, bd_s, if_neg (show ¬ (1 : Int32) = 0 by decide)]
                    by_cases go : a4.toInt ≤ (ko : Int) - a5.toInt
                    · rw [if_pos go, ro1 ⟨by omega, by omega, by omega⟩, bd_s, if_neg (show ¬ (1 : Int32) = 0 by decide)]
                      obtain ⟨n, hn, rfl⟩ := nI_ofI (v := a5) (n := 40) (by omega) (by omega) (by decide)
                      obtain ⟨i, hi, rfl⟩ := nI_ofI (v := a2) (n := 40) (by omega) (by omega) (by decide)
                      obtain ⟨j, hj, rfl⟩ := nI_ofI (v := a4) (n := 40) (by omega) (by omega) (by decide)
                      rw [nI_toInt (by omega)] at g5 g2 g4 go gr
                      rw [nI_toInt (by omega)] at go gr
                      unfold X2_move
                      have ecs : nI s * 40 + nI i = nI (40 * s + i) := by rw [show (40 : Int32) = nI 40 from rfl, pk_mul, nI_add, Nat.mul_comm]
                      have eco : nI o * 40 + nI j = nI (40 * o + j) := by rw [show (40 : Int32) = nI 40 from rfl, pk_mul, nI_add, Nat.mul_comm]
                      rw [rs1 ⟨by rw [nI_toInt (by omega)]; omega, by rw [nI_toInt (by omega)]; omega, by rw [nI_toInt (by omega), nI_toInt (by omega)]; omega⟩, bd_s, if_neg (show ¬ (1 : Int32) = 0 by decide), ro1 ⟨by rw [nI_toInt (by omega)]; omega, by rw [nI_toInt (by omega)]; omega, by rw [nI_toInt (by omega), nI_toInt (by omega)]; omega⟩, bd_s, if_neg (show ¬ (1 : Int32) = 0 by decide), if_neg (shC hs4), if_neg (shC ho4), chk_t (by
                        rw [ecs, eco]
                        show ¬ nI (40 * s + i) < 0 ∧ ¬ nI (40 * o + j) < 0 ∧ ¬ nI n < 0 ∧ jn (nI (40 * s + i)) + jn (nI n) ≤ 160 ∧ jn (nI (40 * o + j)) + jn (nI n) ≤ 160
                        rw [jn_nI (by omega), jn_nI (by omega), jn_nI (by omega)]
                        exact ⟨nI_pos (by omega), nI_pos (by omega), nI_pos (by omega), by omega, by omega⟩), bd_s, ecs, eco, jn_nI (show 40 * s + i < 2 ^ 31 by omega), jn_nI (show 40 * o + j < 2 ^ 31 by omega), jn_nI (show n < 2 ^ 31 by omega)]
                      simp only [wj0, wj1]
                      obtain ⟨m', y1, y2, y3⟩ := copy_M (i := i) (j := j) (n := n) hs4 ho4 hks hko (by omega) (by omega) (decide (s = o) && decide (i < j)) rfl n 0 (by omega) 4096 (by omega) m m Kp.rf (fun q hq => by rw [if_neg (Nat.not_lt_zero _)])
                      have hC : (if nI s = nI o then (if (nI j).toInt ≤ (nI i).toInt then lq2 4096 (X6_copy_L121 (nI s) (nI i) (nI o) (nI j) (nI n) 0) 0 m else lq2 4096 (X6_copy_L121 (nI s) (nI i) (nI o) (nI j) (nI n) 1) 0 m) else lq2 4096 (X6_copy_L121 (nI s) (nI i) (nI o) (nI j) (nI n) 0) 0 m) = some (nI n, m') := by
                        rw [← y1]
                        by_cases e : s = o
                        · subst e
                          rw [if_pos rfl, nI_toInt (by omega), nI_toInt (by omega)]
                          by_cases hij : i < j
                          · rw [if_neg (by omega), decide_eq_true hij, decide_eq_true rfl]; rfl
                          · rw [if_pos (by omega), decide_eq_false hij, Bool.and_false]; rfl
                        · rw [if_neg (fun z => e ((nI_eq (by omega) (by omega)).mp z)), decide_eq_false e, Bool.false_and]; rfl
                      rw [hC]
                      have kc : Kp (fun q k => (q = 30 ∧ k = o) ∨ (q = 31 ∧ k = o) ∨ (q = 32 ∧ 40 * o ≤ k ∧ k < 40 * o + 40)) c (v_cp c 32 32 (40 * s + i) (40 * o + j) n) := by
                        intro q k h
                        rw [rd_cpq, if_neg (by omega)]
                      have km : Kp (fun q k => (q = 12 ∧ k = o) ∨ (q = 13 ∧ k = o) ∨ (q = 14 ∧ k = o) ∨ (q = 15 ∧ 40 * o ≤ k ∧ k < 40 * o + 40)) m m' := y2.mono (fun q k h => by omega)
                      refine ⟨nI n, _, m', rfl, rfl, rel_sheet R (kc.mono (fun q k h => by omega)) (km.mono (fun q k h => by omega)) (R.sh.other kc km (Or.inr ⟨by rw [y2 _ _ (by omega)]; exact f1, q2, ko, hq2, hko, by rw [rd_cpq, if_neg (by omega)]; exact f2, by rw [y2 _ _ (by omega)]; exact f3, by rw [rd_cpq, if_neg (by omega)]; exact f4, by rw [y2 _ _ (by omega)]; exact f5, fun x hx => ?_⟩))⟩
                      rw [rd_cpq]
                      by_cases hin : j ≤ x ∧ x < j + n
                      · rw [if_pos ⟨rfl, by omega, by omega⟩, show 40 * o + x = 40 * o + j + (x - j) by omega, y3 (x - j) (by omega), show 40 * s + i + (40 * o + j + (x - j) - (40 * o + j)) = 40 * s + (i + (x - j)) by omega, e6 _ (by omega), Nat.add_assoc]
                      · rw [if_neg (by omega), y2 _ _ (by omega)]; exact f6 x hx
                    · rw [if_neg go, ro0 (fun z => by have := z.2.2; omega), bd_s, if_pos rfl]; exact ⟨-12, c, m, rfl, rfl, R⟩
          · rw [if_neg hqq, if_neg hqq]; exact ⟨-13, c, m, rfl, rfl, R⟩
    · rw [if_pos (shC0 h2), if_pos (shM0 h2)]
      exact ⟨-2, c, m, rfl, rfl, R⟩
  · rw [if_pos (shC0 h1), if_pos (shM0 h1)]
    exact ⟨-2, c, m, rfl, rfl, R⟩
end SHEETS
