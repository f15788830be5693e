/-! PURE PART, calls: finds, texts, one walk, maps -/
theorem wi_n {v a b : Int32} {lo hi : Int} (ha : a.toInt = lo) (hb : b.toInt = hi) (h : lo ≤ v.toInt ∧ v.toInt ≤ hi) : ¬ X5_isWithin v a b = 0 := by
  rw [wi_z, ha, hb]; exact fun z => z h
theorem wi_p {v a b : Int32} {lo hi : Int} (ha : a.toInt = lo) (hb : b.toInt = hi) (h : ¬ (lo ≤ v.toInt ∧ v.toInt ≤ hi)) : X5_isWithin v a b = 0 := by
  rw [wi_z, ha, hb]; exact h
theorem in_n {v : Int32} {a b : Int64} {lo hi : Int} (ha : a.toInt = lo) (hb : b.toInt = hi) (h : lo ≤ v.toInt ∧ v.toInt ≤ hi) : ¬ X6_in (Int32.toInt64 v) a b = 0 := by
  rw [in_z, il, ha, hb]; exact fun z => z h
theorem in_p {v : Int32} {a b : Int64} {lo hi : Int} (ha : a.toInt = lo) (hb : b.toInt = hi) (h : ¬ (lo ≤ v.toInt ∧ v.toInt ≤ hi)) : X6_in (Int32.toInt64 v) a b = 0 := by
  rw [in_z, il, ha, hb]; exact h
theorem gm_ok {n g : Nat} (hn : n < 12) (hg : g < 2 ^ n) : nI g &&& ((jl 1 (nI n)) ^^^ (-1)) = nI g := by
  rw [jl1 n hn]
  apply Int32.toBitVec.inj
  show (BitVec.ofNat 32 g) &&& ((BitVec.ofNat 32 (2 ^ n)) ^^^ ((-1 : Int32)).toBitVec) = BitVec.ofNat 32 g
  rw [show ((-1 : Int32)).toBitVec = BitVec.allOnes 32 by decide]
  apply BitVec.eq_of_getLsbD_eq
  intro i hi
  rw [BitVec.getLsbD_and, BitVec.getLsbD_xor, BitVec.getLsbD_allOnes, BitVec.getLsbD_ofNat, BitVec.getLsbD_ofNat, Nat.testBit_two_pow]
  by_cases e : n = i
  · subst e
    rw [Nat.testBit_lt_two_pow hg]; simp
  · simp [hi, e]
section OPS
variable {c m : vMH}
theorem find_ok (R : Rel c m) (a1 a2 a3 : Int32) : ∃ (x : Int32) (c' m' : vMH), X5_find a1 a2 a3 c = some (x, c') ∧ X6_find a1 a2 a3 m = some (x, m') ∧ Rel c' m' ∧ Kp (fun q k => q = 1 ∨ (9 ≤ q ∧ q ≤ 12)) c c' ∧ Kp (fun q k => (q = 0 ∧ (k = 11 ∨ k = 12)) ∨ (4 ≤ q ∧ q ≤ 7)) m m' := by
  unfold X5_find X6_find X6_isCell
  by_cases h1 : 0 ≤ a1.toInt ∧ a1.toInt ≤ 5
  · rw [if_neg (wi_n (by rfl) (by rfl) h1), if_neg (in_n (by rfl) (by rfl) h1)]
    by_cases h2 : 0 ≤ a2.toInt ∧ a2.toInt ≤ 47
    · rw [if_neg (by rw [ce_z]; exact fun z => z h2), if_neg (in_n (by rfl) (by rfl) h2)]
      by_cases h3 : 0 ≤ a3.toInt
      · obtain ⟨w, hw, rfl⟩ : ∃ w : Nat, w < 2 ^ 31 ∧ a3 = nI w := nI_of (by rw [Int32.lt_iff_toInt_lt]; show ¬ a3.toInt < 0; omega)
        have hwi : (nI w).toInt = w := nI_toInt hw
        have e1 : nI w / 10 = nI (w / 10) := pk_div hw (by decide) (by decide)
        have e2 : jr (nI w) 10 = nI (w % 10) := pk_rem hw (by decide) (by decide)
        rw [if_pos (nI_pos' hw), e1, e2]
        by_cases h4 : w ≤ 209
        · rw [if_neg (show ¬ (20 : Int32) < nI (w / 10) by rw [show (20 : Int32) = nI 20 from rfl]; exact nI_nlt (by omega) (by omega))]
          by_cases h5 : w % 10 = 0
          · rw [h5, if_pos (show nI 0 = 0 from rfl)]
            have : (if X6_in (Int32.toInt64 (nI w)) 1 209 = 0 then some ((-2 : Int32), m) else if nI 0 = 0 then some (-2, m) else if m.1 0 11 = 12 then some (-4, m) else chk (inb (m.1 0 11) 12) (some (m.1 0 11 + 1 - 1, v_up (v_up (v_up (v_up (v_up (v_up m 4 (jn (m.1 0 11)) a1) 5 (jn (m.1 0 11)) a2) 6 (jn (m.1 0 11)) (nI (w / 10))) 7 (jn (m.1 0 11)) (nI 0)) 0 12 (m.1 0 12 &&& jl 1 (m.1 0 11) ^^^ -1)) 0 11 (m.1 0 11 + 1)))) = some (-2, m) := by
              rw [if_pos (show nI 0 = 0 from rfl)]
              split <;> rfl
            exact ⟨-2, c, m, rfl, this, R, Kp.rf, Kp.rf⟩
          · rw [if_neg (show ¬ nI (w % 10) = 0 from nI_ne0 (by omega) (by omega)), if_neg (in_n (by rfl) (by rfl) (show (1 : Int) ≤ (nI w).toInt ∧ (nI w).toInt ≤ 209 by omega)), if_neg (show ¬ nI (w % 10) = 0 from nI_ne0 (by omega) (by omega))]
            obtain ⟨V, T, E, O, F, G, hu, RR⟩ := R
            have hn := O.n
            unfold X0_lay
            rw [F.n, G.n]
            by_cases h6 : V 4 0 < 12
            · rw [if_pos (by rw [show (12 : Int32) = nI 12 from rfl]; exact nI_lt h6 (by decide)), if_neg (show ¬ nI (V 4 0) = 12 by rw [show (12 : Int32) = nI 12 from rfl]; exact fun z => by have := (nI_eq (by omega) (by decide)).mp z; omega), chk_t (inb_nI h6 (by decide)), chk_t (inb_nI h6 (by decide)), bd_s, jn_nI (by omega), G.g, gm_ok h6 O.2.1, nI_1]
              obtain ⟨k, hk, rfl⟩ := nI_ofI (v := a1) (n := 5) h1.1 h1.2 (by decide)
              obtain ⟨y, hy, rfl⟩ := nI_ofI (v := a2) (n := 47) h2.1 h2.2 (by decide)
              have kc : Kp (fun q k => q = 1 ∨ (9 ≤ q ∧ q ≤ 12)) c (v_up (v_up (v_up (v_up (v_up c (4 * 1 + 5) (V 4 0) (nI k)) (4 * 1 + 6) (V 4 0) (nI y)) (4 * 1 + 7) (V 4 0) (nI (w / 10))) (4 * 1 + 8) (V 4 0) (nI (w % 10))) 1 4 (nI (V 4 0 + 1))) := ((((Kp.rf.up (by omega)).up (by omega)).up (by omega)).up (by omega)).up (by omega)
              have km : Kp (fun q k => (q = 0 ∧ (k = 11 ∨ k = 12)) ∨ (4 ≤ q ∧ q ≤ 7)) m (v_up (v_up (v_up (v_up (v_up (v_up m 4 (V 4 0) (nI k)) 5 (V 4 0) (nI y)) 6 (V 4 0) (nI (w / 10))) 7 (V 4 0) (nI (w % 10))) 0 12 (nI (V 4 1))) 0 11 (nI (V 4 0 + 1))) := (((((Kp.rf.up (by omega)).up (by omega)).up (by omega)).up (by omega)).up (by omega)).up (by omega)
              refine ⟨_, _, _, rfl, rfl, ⟨qs (qs (qs (qs (qs V 0 (V 4 0) k) 1 (V 4 0) y) 2 (V 4 0) (w / 10)) 3 (V 4 0) (w % 10)) 4 0 (V 4 0 + 1), T, E, ?_, ?_, ?_, ?_, ?_⟩, ?_, ?_⟩
              · obtain ⟨o1, o2, o3, o4, o5, o6, o7⟩ := O
                refine ⟨by simp [qs]; omega, ?_, by simp [qs]; exact o3, by simp [qs]; exact o4, by simp [qs]; exact o5, fun j hj => ?_, fun j hj => ?_⟩
                · simp [qs]
                  exact Nat.lt_trans o2 (Nat.pow_lt_pow_right (by decide) (by omega))
                · by_cases e : j = V 4 0
                  · subst e; simp [qs]; omega
                  · simp [qs, e]; exact o6 j hj
                · simp [qs] at hj
                  by_cases e : j = V 4 0
                  · subst e; simp [qs]; omega
                  · simp [qs, e]; exact o7 j (by omega)
              · obtain ⟨b1, b2, b3, b4, b5, b6, b7, b8⟩ := F
                refine ⟨by simp [rd_up, qs], by simp [rd_up, qs]; exact b2, by simp [rd_up, qs]; exact b3, by simp [rd_up, qs]; exact b4, by simp [rd_up, qs]; exact b5, by simp [rd_up, qs]; exact b6, fun j hj => ?_, fun j hj => ?_⟩
                · by_cases e : j = V 4 0
                  · subst e; simp [rd_up, qs]
                  · simp [rd_up, qs, e]; exact b7 j hj
                · simp [qs] at hj
                  by_cases e : j = V 4 0
                  · subst e; simp [rd_up, qs]
                  · simp [rd_up, qs, e]; exact b8 j (by omega)
              · obtain ⟨b1, b2, b3, b4, b5, b6, b7, b8⟩ := G
                refine ⟨by simp [rd_up, qs], by simp [rd_up, qs], by simp [rd_up, qs]; exact b3, by simp [rd_up, qs]; exact b4, by simp [rd_up, qs]; exact b5, by simp [rd_up, qs]; exact b6, fun j hj => ?_, fun j hj => ?_⟩
                · by_cases e : j = V 4 0
                  · subst e; simp [rd_up, qs]
                  · simp [rd_up, qs, e]; exact b7 j hj
                · simp [qs] at hj
                  by_cases e : j = V 4 0
                  · subst e; simp [rd_up, qs]
                  · simp [rd_up, qs, e]; exact b8 j (by omega)
              · simp [qs]; exact hu
              · refine RST.kp RR ?_ ?_
                · exact ((((Kp.rf.up (by unfold PcY; omega)).up (by unfold PcY; omega)).up (by unfold PcY; omega)).up (by unfold PcY; omega)).up (by unfold PcY; omega)
                · exact (((((Kp.rf.up (by unfold PmY; omega)).up (by unfold PmY; omega)).up (by unfold PmY; omega)).up (by unfold PmY; omega)).up (by unfold PmY; omega)).up (by unfold PmY; omega)
              · exact kc
              · exact km
            · have h12 : V 4 0 = 12 := by omega
              rw [if_neg (by rw [h12]; decide), if_pos (by rw [h12]; rfl), bd_s]
              exact ⟨-4, c, m, rfl, rfl, ⟨V, T, E, O, F, G, hu, RR⟩, Kp.rf, Kp.rf⟩
        · rw [if_pos (show (20 : Int32) < nI (w / 10) by rw [show (20 : Int32) = nI 20 from rfl]; exact nI_lt (by omega) (by omega)), if_pos (in_p (by rfl) (by rfl) (show ¬ ((1 : Int) ≤ (nI w).toInt ∧ (nI w).toInt ≤ 209) by omega))]
          exact ⟨-2, c, m, rfl, rfl, R, Kp.rf, Kp.rf⟩
      · rw [if_neg (by rw [Int32.le_iff_toInt_le]; exact h3), if_pos (in_p (by rfl) (by rfl) (show ¬ ((1 : Int) ≤ a3.toInt ∧ a3.toInt ≤ 209) by omega))]
        exact ⟨-2, c, m, rfl, rfl, R, Kp.rf, Kp.rf⟩
    · rw [if_pos (by rw [ce_z]; exact h2), if_pos (in_p (by rfl) (by rfl) h2)]
      exact ⟨-2, c, m, rfl, rfl, R, Kp.rf, Kp.rf⟩
  · rw [if_pos (wi_p (by rfl) (by rfl) h1), if_pos (in_p (by rfl) (by rfl) h1)]
    exact ⟨-2, c, m, rfl, rfl, R, Kp.rf, Kp.rf⟩
theorem op_find (a1 a2 a3 : Int32) : OpOK Rel (oC_find a1 a2 a3) (oM_find a1 a2 a3) := by
  intro c m R
  obtain ⟨x, c', m', h1, h2, h3, -⟩ := find_ok R a1 a2 a3
  exact ⟨x, c', m', h1, h2, h3⟩
theorem op_beep (a1 : Int32) : OpOK Rel (oC_beep a1) (oM_beep a1) := by
  intro c m R
  unfold oC_beep oM_beep X5_beep X6_beep X6_isCell
  by_cases h : 0 ≤ a1.toInt ∧ a1.toInt ≤ 47
  · rw [if_neg (by rw [ce_z]; exact fun z => z h), if_neg (in_n (by rfl) (by rfl) h)]
    obtain ⟨y, hy, rfl⟩ := nI_ofI (v := a1) (n := 47) h.1 h.2 (by decide)
    obtain ⟨V, T, E, O, F, G, hu, RR⟩ := R
    obtain ⟨b, c', m', g1, g2, g3, g4, -⟩ := beep_ok isF1 ⟨O, F, G, RR.1, RR.2.1, hu⟩ (show y < 2 ^ 31 by omega)
    rw [g1, g2, bd_s, bd_s]
    exact ⟨b, c', m', rfl, rfl, Rel.S ⟨V, T, E, O, F, G, hu, RR⟩ g3 g4⟩
  · rw [if_pos (by rw [ce_z]; exact h), if_pos (in_p (by rfl) (by rfl) h)]
    exact ⟨-2, c, m, rfl, rfl, R⟩
theorem op_plough : OpOK Rel oC_plough oM_plough := by
  intro c m R
  obtain ⟨V, T, E, O, F, G, hu, RR⟩ := R
  obtain ⟨c', g1, g2, g3⟩ := turn_C isF1 F O
  obtain ⟨m', k1, k2, k3⟩ := turn_M G O
  unfold oC_plough oM_plough X5_plough X6_plough
  rw [g1, k1, bd_s, bd_s, g2.y, k2.y]
  refine ⟨_, c', m', rfl, rfl, ploV V, T, E, ploV_O O, g2, k2, ?_, RR.kp (g3.mono (fun q k h => by unfold PcP at h; unfold PcY; omega)) (k3.mono (fun q k h => by unfold PmP at h; unfold PmY; omega))⟩
  have := (SV.plo (V := V)).2.2.1
  omega
theorem op_dots (a1 : Int32) : OpOK Rel (oC_dots a1) (oM_dots a1) := by
  intro c m R
  unfold oC_dots oM_dots X5_dots X6_dots X6_isCell
  by_cases h : 0 ≤ a1.toInt ∧ a1.toInt ≤ 47
  · rw [if_neg (by rw [ce_z]; exact fun z => z h), if_neg (in_n (by rfl) (by rfl) h)]
    obtain ⟨y, hy, rfl⟩ := nI_ofI (v := a1) (n := 47) h.1 h.2 (by decide)
    have R' := R
    obtain ⟨V, T, E, O, F, G, hu, RR⟩ := R
    rw [dots_C F O (by omega), dots_M G O (by omega)]
    exact ⟨_, c, m, rfl, rfl, R'⟩
  · rw [if_pos (by rw [ce_z]; exact h), if_pos (in_p (by rfl) (by rfl) h)]
    exact ⟨-2, c, m, rfl, rfl, R⟩
theorem op_unseen : OpOK Rel oC_unseen oM_unseen := by
  intro c m R
  have R' := R
  obtain ⟨V, T, E, O, F, G, hu, RR⟩ := R
  obtain ⟨b, g1, g2⟩ := seen_ok F G O (fun v1_1 => (some (v1_1 &&& ((m.1 0 16) ^^^ (-1)))))
  unfold oC_unseen oM_unseen X5_unseen X6_unseen
  simp only [wj1]
  rw [g1, bd_s, g2, RR.2.2.2.1]
  exact ⟨_, c, m, rfl, rfl, R'⟩
theorem op_count (a1 : Int32) : OpOK Rel (oC_count a1) (oM_count a1) := by
  intro c m R
  have R' := R
  obtain ⟨V, T, E, O, F, G, hu, RR⟩ := R
  obtain ⟨t1, t2, ⟨z, t3⟩, t4, -⟩ := RR
  have hn := O.n
  have hb := bo_tab _ O.g
  have hb2 := bc_tab _ O.g
  have hpop : pop (V 4 1) ≤ V 4 0 := by rw [pop_n O.2.1 hn]; exact cnt_le _ _
  have key : ∃ x, X5_count a1 c = x ∧ X6_count a1 m = some x := by
    unfold X5_count X6_count X0_lying
    by_cases h : 0 ≤ a1.toInt ∧ a1.toInt ≤ 8
    · rw [if_neg (in_n (by rfl) (by rfl) h)]
      obtain ⟨y, hy, rfl⟩ := nI_ofI (v := a1) (n := 8) h.1 h.2 (by decide)
      have : y = 0 ∨ y = 1 ∨ y = 2 ∨ y = 3 ∨ y = 4 ∨ y = 5 ∨ y = 6 ∨ y = 7 ∨ y = 8 := by omega
      rcases this with rfl | rfl | rfl | rfl | rfl | rfl | rfl | rfl | rfl
      · exact ⟨_, rfl, by rw [show c.1 1 4 = m.1 0 11 by rw [F.n, G.n]]; rfl⟩
      · refine ⟨nI (pop (V 4 1)), ?_, ?_⟩
        · show c.1 1 4 - (c.1 1 4 - J6_bitCount_0f7a4 (c.1 1 5)) = _
          rw [F.n, F.g, hb2, pk_sub hpop, pk_sub (by omega)]
          congr 1; omega
        · show ((X6_bitsOf (m.1 0 12)).bind fun q10 => some q10) = _
          rw [G.g, hb]; rfl
      · exact ⟨_, rfl, by rw [show c.1 1 6 = m.1 0 13 by rw [F.w, G.w]]; rfl⟩
      · exact ⟨_, rfl, by rw [show c.1 1 7 = m.1 0 14 by rw [F.p, G.p]]; rfl⟩
      · exact ⟨_, rfl, by rw [show c.1 1 8 = m.1 0 15 by rw [F.y, G.y]]; rfl⟩
      · exact ⟨_, rfl, by rw [t4]; rfl⟩
      · exact ⟨_, rfl, by rw [show c.1 5 0 = m.1 0 3 by rw [t1.2.2.1, t2.1]]; rfl⟩
      · exact ⟨_, rfl, by rw [show c.1 6 0 = m.1 0 6 by rw [t3.2.1, t3.2.2.1]]; rfl⟩
      · exact ⟨_, rfl, by rw [show c.1 1 10 = m.1 0 4 by rw [F.u, G.u]]; rfl⟩
    · rw [if_pos (in_p (by rfl) (by rfl) h)]
      refine ⟨-2, ?_, rfl⟩
      have ne : ∀ (j : Int32) (n : Nat), j = nI n → n ≤ 8 → ¬ a1 = j := by
        intro j n hj hn z
        rw [z, hj, nI_toInt (by omega)] at h
        omega
      rw [if_neg (ne 0 0 rfl (by decide)), if_neg (ne 1 1 rfl (by decide)), if_neg (ne 2 2 rfl (by decide)), if_neg (ne 3 3 rfl (by decide)), if_neg (ne 4 4 rfl (by decide)), if_neg (ne 5 5 rfl (by decide)), if_neg (ne 6 6 rfl (by decide)), if_neg (ne 7 7 rfl (by decide)), if_neg (ne 8 8 rfl (by decide))]
  obtain ⟨x, h1, h2⟩ := key
  exact ⟨x, c, m, by unfold oC_count; rw [h1], by unfold oM_count; rw [h2]; rfl, R'⟩
theorem op_feed (a1 : Int32) : OpOK Rel (oC_feed a1) (oM_feed a1) := by
  intro c m R
  unfold oC_feed oM_feed X5_feed X6_feed X1_append
  by_cases h : 0 ≤ a1.toInt ∧ a1.toInt ≤ 255
  · rw [if_neg (wi_n (by rfl) (by rfl) h), if_neg (in_n (by rfl) (by rfl) h)]
    obtain ⟨y, hy, rfl⟩ := nI_ofI (v := a1) (n := 255) h.1 h.2 (by decide)
    have R' := R
    obtain ⟨V, T, E, O, F, G, hu, RR⟩ := R
    obtain ⟨t1, t2, ⟨z, t3⟩, t4, t5, t6⟩ := RR
    obtain ⟨z1, z2, z3, z4⟩ := t3
    rw [z2, z3]
    by_cases h2 : z < 160
    · rw [if_pos (by rw [show (160 : Int32) = nI 160 from rfl]; exact nI_lt h2 (by decide)), if_neg (show ¬ nI z = 160 by rw [show (160 : Int32) = nI 160 from rfl]; exact fun q => by have := (nI_eq (by omega) (by decide)).mp q; omega), chk_t (inb_nI h2 (by decide)), chk_t (inb_nI h2 (by decide)), bd_s, jn_nI (by omega), nI_1]
      have kc : Kp (fun q k => q = 29 ∨ (q = 6 ∧ k = 0)) c (v_up (v_up c 29 z (nI y)) 6 0 (nI (z + 1))) := (Kp.rf.up (by omega)).up (by omega)
      have km : Kp (fun q k => q = 3 ∨ (q = 0 ∧ k = 6)) m (v_up (v_up m 3 z (nI y)) 0 6 (nI (z + 1))) := (Kp.rf.up (by omega)).up (by omega)
      refine ⟨_, _, _, rfl, rfl, V, T, E, O, F.kp kc (fun k _ _ _ => by omega) (fun q k _ _ => by omega), G.kp km (fun k _ => by omega) (fun q k _ _ _ => by omega) O.n, hu, t1.kp kc (by omega) (fun j => by omega) (fun j => by omega), t2.kp km (by omega) (fun j => by omega) (fun j => by omega), ⟨z + 1, by omega, by simp [rd_up], by simp [rd_up], fun j hj => ?_⟩, by rw [kc _ _ (by omega), km _ _ (by omega)]; exact t4, ?_, ?_⟩
      · by_cases e : j = z
        · subst e; exact ⟨y, hy, by simp [rd_up], by simp [rd_up]⟩
        · obtain ⟨b, b1, b2, b3⟩ := z4 j (by omega)
          exact ⟨b, b1, by simp [rd_up, e]; exact b2, by simp [rd_up, e]; exact b3⟩
      · have e0 : ∀ q k, ¬ (q = 29 ∨ (q = 6 ∧ k = 0)) → (v_up (v_up c 29 z (nI y)) 6 0 (nI (z + 1))).1 q k = c.1 q k := kc
        unfold IMG
        simp only [rd_up]
        exact t5
      · intro s hs
        simp only [rd_up]
        exact t6 s hs
    · have : z = 160 := by omega
      subst this
      rw [if_neg (by decide), if_pos (by decide), bd_s]
      exact ⟨-4, c, m, rfl, rfl, R'⟩
  · rw [if_pos (wi_p (by rfl) (by rfl) h), if_pos (in_p (by rfl) (by rfl) h)]
    exact ⟨-2, c, m, rfl, rfl, R⟩
end OPS
