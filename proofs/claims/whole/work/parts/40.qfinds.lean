/-! PURE PART, calls: judge, finds -/
section FINDS
variable {c m : vMH}
theorem item_C {s k i : Nat} (hs : s < 4) (hk : k ≤ 40) (e : c.1 31 s = nI k) (hi : i < k) : X2_itemOf (nI s) (nI i) c = some (c.1 32 (40 * s + i)) := by
  have ec : nI s * 40 + nI i = nI (40 * s + i) := by rw [show (40 : Int32) = nI 40 from rfl, pk_mul, nI_add, Nat.mul_comm]
  unfold X2_itemOf
  rw [(range_C hs hk e (nI i) 1).1 ⟨by rw [nI_toInt (by omega)]; omega, by decide, by rw [nI_toInt (by omega), show ((1 : Int32)).toInt = 1 from rfl]; omega⟩, bd_s, if_neg (show ¬ (1 : Int32) = 0 by decide), chk_t (by rw [ec]; exact inb_nI (by omega) (by decide)), ec, jn_nI (by omega)]
theorem op_judge (a1 a2 : Int32) : OpOK Rel (oC_judge a1 a2) (oM_judge a1 a2) := by
  intro c m R
  unfold oC_judge oM_judge X5_judge X6_judge
  by_cases h1 : 0 ≤ a1.toInt ∧ a1.toInt ≤ 3
  · obtain ⟨s, hs, rfl⟩ := nI_ofI (v := a1) (n := 3) h1.1 h1.2 (by decide)
    have hs4 : s < 4 := by omega
    rw [if_neg (shC hs4), if_neg (shM hs4)]
    by_cases h2 : 0 ≤ a2.toInt ∧ a2.toInt ≤ 1
    · rw [if_neg (wi_n (by rfl) (by rfl) h2), if_neg (in_n (by rfl) (by rfl) h2), sort_C hs4, bd_s, chk_t (inb_nI hs4 (by decide)), jn_nI (show s < 2 ^ 31 by omega)]
      rcases R.sh s hs4 with ⟨e1, e2⟩ | ⟨e1, q, k, hq, hk, e2, e3, e4, e5, e6⟩
      · rw [if_pos e1, if_pos e2]; exact ⟨-11, c, m, rfl, rfl, R⟩
      · rw [if_neg (show ¬ c.1 30 s = -1 by rw [e2]; exact nIm1 (by omega)), if_neg (show ¬ m.1 12 s = 0 by rw [e1]; decide)]
        have R' := R
        obtain ⟨V, T, E, O, F, G, hu, RR⟩ := R
        have key : ∀ (J J' : Int32 → Int32 → Option Int32) (r i : Nat), i + r = k → ∀ N, r < N → ∀ a b : Int32, ∃ a' b' : Int32, lq3 N (X5_judge_L42 (nI s) c J) a b (nI i) = J a' b' ∧ lq3 N (X6_judge_L40 (nI s) m J') a b (nI i) = J' a' b' := by
          intro J J' r
          induction r with
          | zero =>
            intro i hi N hN a b
            obtain ⟨N, rfl⟩ : ∃ M, N = M + 1 := ⟨N - 1, by omega⟩
            rw [lq3_s, lq3_s, X5_judge_L42, X6_judge_L40, size_C hs4, e4, bd_s, jn_nI (show s < 2 ^ 31 by omega), e5, if_pos (nI_le (by omega) (by omega)), if_pos (nI_le (by omega) (by omega))]
            exact ⟨a, b, rfl, rfl⟩
          | succ r ih =>
            intro i hi N hN a b
            obtain ⟨N, rfl⟩ : ∃ M, N = M + 1 := ⟨N - 1, by omega⟩
            have hik : i < k := by omega
            have em : 40 * nI s + nI i = nI (40 * s + i) := by rw [show (40 : Int32) = nI 40 from rfl, pk_mul, nI_add]
            rw [lq3_s, lq3_s, X5_judge_L42, X6_judge_L40, size_C hs4, e4, bd_s, jn_nI (show s < 2 ^ 31 by omega), e5, if_neg (nI_ge hik (by omega)), if_neg (nI_ge hik (by omega)), item_C hs4 hk e4 hik, bd_s, dots_C F O (by omega), bd_s, chk_t (by rw [em]; exact inb_nI (by omega) (by decide)), em, jn_nI (show 40 * s + i < 2 ^ 31 by omega), dots_M G O (by omega), bd_s, e6 i hik, nI_1]
            simp only [wj1]
            by_cases h : m.1 15 (40 * s + i) = nI (dotV V i)
            · rw [if_pos h, if_pos h]; exact ih (i + 1) (by omega) N (by omega) a b
            · rw [if_neg h, if_neg h]
              by_cases h3 : a = -1
              · rw [if_pos h3, if_pos h3]; exact ih (i + 1) (by omega) N (by omega) _ _
              · rw [if_neg h3, if_neg h3]; exact ih (i + 1) (by omega) N (by omega) _ _
        simp only [wj2]
        obtain ⟨a', b', y1, y2⟩ := key (fun v3_6 v4_7 => (if a2 = 0 then (some v3_6) else (some v4_7))) (fun v3_6 v4_7 => (if a2 = 0 then (some v3_6) else (some v4_7))) k 0 (by omega) 4096 (by omega) (-1) 0
        rw [show (nI 0 : Int32) = 0 from rfl] at y1 y2
        rw [y1, y2]
        by_cases h0 : a2 = 0
        · rw [if_pos h0]; exact ⟨a', c, m, rfl, rfl, R'⟩
        · rw [if_neg h0]; exact ⟨b', c, m, rfl, rfl, R'⟩
    · rw [if_pos (wi_p (by rfl) (by rfl) h2), if_pos (in_p (by rfl) (by rfl) h2)]
      exact ⟨-2, c, m, rfl, rfl, R⟩
  · rw [if_pos (shC0 h1), if_pos (shM0 h1)]
    exact ⟨-2, c, m, rfl, rfl, R⟩
theorem op_finds (a1 a2 a3 a4 : Int32) : OpOK Rel (oC_finds a1 a2 a3 a4) (oM_finds a1 a2 a3 a4) := by
  intro c m R
  unfold oC_finds oM_finds X5_finds X6_finds
  by_cases h1 : 0 ≤ a1.toInt ∧ a1.toInt ≤ 3
  · obtain ⟨s, hs, rfl⟩ := nI_ofI (v := a1) (n := 3) h1.1 h1.2 (by decide)
    have hs4 : s < 4 := by omega
    rw [if_neg (shC hs4), if_neg (shM hs4)]
    by_cases h2 : 0 ≤ a2.toInt ∧ a2.toInt ≤ 2
    · rw [if_neg (wi_n (by rfl) (by rfl) h2), if_neg (in_n (by rfl) (by rfl) h2)]
      by_cases h3 : 0 ≤ a4.toInt ∧ a4.toInt ≤ 12
      · rw [if_neg (wi_n (by rfl) (by rfl) h3), if_neg (in_n (by rfl) (by rfl) h3), sort_C hs4, bd_s, chk_t (inb_nI hs4 (by decide)), jn_nI (show s < 2 ^ 31 by omega)]
        simp only [wj0]
        rcases R.sh s hs4 with ⟨e1, e2⟩ | ⟨e1, q, k, hq, hk, e2, e3, e4, e5, e6⟩
        · rw [if_pos e1, if_pos e2, if_pos e2]; exact ⟨-11, c, m, rfl, rfl, R⟩
        · have n12 : ¬ m.1 12 s = 0 := by rw [e1]; decide
          rw [if_neg (show ¬ c.1 30 s = -1 by rw [e2]; exact nIm1 (by omega)), if_neg n12, if_neg n12, e2, e3]
          by_cases hqq : nI q = a2
          · rw [if_pos hqq, if_pos hqq]
            obtain ⟨n, hn, rfl⟩ := nI_ofI (v := a4) (n := 12) h3.1 h3.2 (by decide)
            have key : ∀ r i : Nat, i + r = n → ∀ N, r < N → ∀ (a : Int32) (c m : vMH), Rel c m → c.1 31 s = nI k → m.1 14 s = nI k → (∀ j, j < k → c.1 32 (40 * s + j) = m.1 15 (40 * s + j)) → (i = 0 ∨ (0 ≤ a3.toInt ∧ a3.toInt + 3 * i ≤ k)) → ∃ (x : Int32) (c' m' : vMH), lq3 N (X5_finds_L64 (nI s) a3 (nI n)) a (nI i) c = some (x, c') ∧ lq3 N (X6_finds_L75 (nI s) a3 (nI n)) a (nI i) m = some (x, m') ∧ Rel c' m' := by
              intro r
              induction r with
              | zero =>
                intro i hi N hN a c m R e4 e5 e6 hI
                obtain ⟨N, rfl⟩ : ∃ M, N = M + 1 := ⟨N - 1, by omega⟩
                rw [lq3_s, lq3_s, X5_finds_L64, X6_finds_L75, if_pos (nI_le (by omega) (by omega)), if_pos (nI_le (by omega) (by omega))]
                exact ⟨a, c, m, rfl, rfl, R⟩
              | succ r ih =>
                intro i hi N hN a c m R e4 e5 e6 hI
                obtain ⟨N, rfl⟩ : ∃ M, N = M + 1 := ⟨N - 1, by omega⟩
                have hin : i < 12 := by omega
                have hkt : (nI k).toInt = k := nI_toInt (by omega)
                have e3i : 3 * nI i = nI (3 * i) := by rw [show (3 : Int32) = nI 3 from rfl, pk_mul]
                have lo := a3.le_toInt
                have hi3 := a3.toInt_lt
                rw [lq3_s, lq3_s, X5_finds_L64, X6_finds_L75, if_neg (nI_ge (by omega) (by omega)), if_neg (nI_ge (by omega) (by omega)), jn_nI (show s < 2 ^ 31 by omega), e5, e3i]
                have hM : (nI k - nI (3 * i) - 3).toInt = (k : Int) - 3 * i - 3 := by
                  have y1 : (nI k - nI (3 * i)).toInt = (k : Int) - 3 * i := by rw [qi_sub] <;> rw [hkt, nI_toInt (by omega)] <;> omega
                  rw [qi_sub] <;> rw [y1, show ((3 : Int32)).toInt = 3 from rfl] <;> omega
                by_cases hlt : a3.toInt < 0
                · rw [if_pos (show a3 < 0 by rw [Int32.lt_iff_toInt_lt]; exact hlt)]
                  have hi0 : i = 0 := by omega
                  have hr : ¬ rngP k (a3 + nI (3 * i)) 3 := by
                    rw [hi0, show a3 + nI (3 * 0) = a3 from Int32.add_zero a3]
                    exact fun z => by have := z.1; omega
                  rw [(range_C hs4 hk e4 _ 3).2 hr, bd_s, if_pos rfl]; exact ⟨-12, c, m, rfl, rfl, R⟩
                · rw [if_neg (show ¬ a3 < 0 by rw [Int32.lt_iff_toInt_lt]; exact hlt)]
                  have hle : (a3 ≤ nI k - nI (3 * i) - 3) = (a3.toInt + 3 * i + 3 ≤ k) := by
                    rw [Int32.le_iff_toInt_le, hM]
                    apply propext
                    constructor <;> intro h <;> omega
                  by_cases hfit : a3.toInt + 3 * i + 3 ≤ k
                  · rw [if_pos (by rw [hle]; exact hfit)]
                    obtain ⟨p, hp, rfl⟩ := nI_ofI (v := a3) (n := 40) (by omega) (by omega) (by decide)
                    rw [nI_toInt (by omega)] at hfit
                    have eCi : nI p + nI (3 * i) = nI (p + 3 * i) := nI_add _ _
                    have eMi : 40 * nI s + nI p + nI (3 * i) = nI (40 * s + (p + 3 * i)) := by rw [show (40 : Int32) = nI 40 from rfl, pk_mul, nI_add, nI_add, Nat.add_assoc]
                    have hr : rngP k (nI (p + 3 * i)) 3 := ⟨by rw [nI_toInt (by omega)]; omega, by decide, by rw [nI_toInt (by omega), show ((3 : Int32)).toInt = 3 from rfl]; omega⟩
                    rw [eCi, (range_C hs4 hk e4 _ 3).1 hr, bd_s, if_neg (show ¬ (1 : Int32) = 0 by decide), eMi, show nI (p + 3 * i) + 1 = nI (p + 3 * i + 1) from nI_1 _, show nI (p + 3 * i) + 2 = nI (p + 3 * i + 2) from nI_add _ 2, show nI (40 * s + (p + 3 * i)) + 1 = nI (40 * s + (p + 3 * i + 1)) from nI_1 _, show nI (40 * s + (p + 3 * i)) + 2 = nI (40 * s + (p + 3 * i + 2)) from nI_add _ 2, item_C hs4 hk e4 (show p + 3 * i < k by omega), bd_s, item_C hs4 hk e4 (show p + 3 * i + 1 < k by omega), bd_s, item_C hs4 hk e4 (show p + 3 * i + 2 < k by omega), bd_s, chk_t (inb_nI (by omega) (by decide)), chk_t (inb_nI (by omega) (by decide)), chk_t (inb_nI (by omega) (by decide)), jn_nI (show 40 * s + (p + 3 * i) < 2 ^ 31 by omega), jn_nI (show 40 * s + (p + 3 * i + 1) < 2 ^ 31 by omega), jn_nI (show 40 * s + (p + 3 * i + 2) < 2 ^ 31 by omega), e6 _ (show p + 3 * i < k by omega), e6 _ (show p + 3 * i + 1 < k by omega), e6 _ (show p + 3 * i + 2 < k by omega)]
                    obtain ⟨x, c1, m1, f1, f2, f3, f4, f5⟩ := find_ok R (m.1 15 (40 * s + (p + 3 * i))) (m.1 15 (40 * s + (p + 3 * i + 1))) (m.1 15 (40 * s + (p + 3 * i + 2)))
                    rw [f1, f2, bd_s, bd_s, nI_1 i, Int32.add_zero]
                    dsimp only
                    have hstep : ∀ a : Int32, ∃ (x : Int32) (c' m' : vMH), lq3 N (X5_finds_L64 (nI s) (nI p) (nI n)) a (nI (i + 1)) c1 = some (x, c') ∧ lq3 N (X6_finds_L75 (nI s) (nI p) (nI n)) a (nI (i + 1)) m1 = some (x, m') ∧ Rel c' m' := fun a => ih (i + 1) (by omega) N (by omega) a c1 m1 f3 (by rw [f4 _ _ (by omega)]; exact e4) (by rw [f5 _ _ (by omega)]; exact e5) (fun j hj => by rw [f4 _ _ (by omega), f5 _ _ (by omega)]; exact e6 j hj) (Or.inr ⟨by rw [nI_toInt (by omega)]; omega, by rw [nI_toInt (by omega)]; omega⟩)
                    by_cases hx : x < 0
                    · rw [if_pos hx, if_pos hx]; exact hstep a
                    · rw [if_neg hx, if_neg hx]; exact hstep (a + 1)
                  · rw [if_neg (by rw [hle]; exact hfit)]
                    have hr : ¬ rngP k (a3 + nI (3 * i)) 3 := by
                      intro z
                      have z1 := z.1
                      have z3 := z.2.2
                      rw [show ((3 : Int32)).toInt = 3 from rfl] at z3
                      rcases hI with h0 | ⟨h0, h9⟩
                      · rw [h0, show a3 + nI (3 * 0) = a3 from Int32.add_zero a3] at z3
                        omega
                      · have y1 : (a3 + nI (3 * i)).toInt = a3.toInt + 3 * i := by rw [qi_add] <;> rw [nI_toInt (by omega)] <;> omega
                        omega
                    rw [(range_C hs4 hk e4 _ 3).2 hr, bd_s, if_pos rfl]; exact ⟨-12, c, m, rfl, rfl, R⟩
            obtain ⟨x, c', m', y1, y2, y3⟩ := key n 0 (by omega) 4096 (by omega) 0 c m R e4 e5 e6 (Or.inl rfl)
            rw [show (nI 0 : Int32) = 0 from rfl] at y1 y2
            rw [y1, y2]
            exact ⟨x, c', m', rfl, rfl, y3⟩
          · rw [if_neg hqq, if_neg hqq]; exact ⟨-13, c, m, rfl, rfl, R⟩
      · rw [if_pos (wi_p (by rfl) (by rfl) h3), if_pos (in_p (by rfl) (by rfl) h3)]
        exact ⟨-2, c, m, rfl, rfl, R⟩
    · rw [if_pos (wi_p (by rfl) (by rfl) h2), if_pos (in_p (by rfl) (by rfl) h2)]
      exact ⟨-2, c, m, rfl, rfl, R⟩
  · rw [if_pos (shC0 h1), if_pos (shM0 h1)]
    exact ⟨-2, c, m, rfl, rfl, R⟩
end FINDS
