/-! PURE PART, calls: set, told, texts, maps -/
section OPS2
variable {c m : vMH}
theorem qs_id {V : qV} {a j : Nat} : qs V a j (V a j) = V := by
  funext a' j'
  unfold qs
  split
  · rename_i h; rw [h.1, h.2]
  · rfl

theorem setg_0 (a1 a2 a3 : Int32) (hin : ¬ X6_in (Int32.toInt64 a1) 0 4 = 0) (h1 : a1 ≤ 1) (e0 : a1 = 0) (n1 : ¬ a1 = 1) (n2 : ¬ a1 = 2) (n3 : ¬ a1 = 3) (n4 : ¬ a1 = 4) : X6_set a1 a2 a3 m = (if X6_in (Int32.toInt64 a3) 0 9 = 0 then some (-2, m) else some (m.1 0 13, v_up m 0 13 a3)) := by
  unfold X6_set
  rw [if_neg hin]
  simp only [wj0, wj1]
  rw [if_pos h1, if_neg n1, if_neg n4, if_neg n2, if_neg n3]
  by_cases h : X6_in (Int32.toInt64 a3) 0 9 = 0
  · rw [if_pos h, if_pos h]
  · rw [if_neg h, if_neg h, if_pos h1, if_pos e0, if_pos e0]
theorem set_0 (a2 a3 : Int32) : X6_set (nI 0) a2 a3 m = (if X6_in (Int32.toInt64 a3) 0 9 = 0 then some (-2, m) else some (m.1 0 13, v_up m 0 13 a3)) := setg_0 (nI 0) a2 a3 (by decide) (by decide) rfl (by decide) (by decide) (by decide) (by decide)
theorem setg_1 (a1 a2 a3 : Int32) (hin : ¬ X6_in (Int32.toInt64 a1) 0 4 = 0) (h1 : a1 ≤ 1) (n0 : ¬ a1 = 0) (e1 : a1 = 1) (n2 : ¬ a1 = 2) (n3 : ¬ a1 = 3) (n4 : ¬ a1 = 4) : X6_set a1 a2 a3 m = (if X6_in (Int32.toInt64 a3) 1 9 = 0 then some (-2, m) else some (m.1 0 14, v_up m 0 14 a3)) := by
  unfold X6_set
  rw [if_neg hin]
  simp only [wj0, wj1]
  rw [if_pos h1, if_pos e1, if_neg n2, if_neg n3]
  by_cases h : X6_in (Int32.toInt64 a3) 1 9 = 0
  · rw [if_pos h, if_pos h]
  · rw [if_neg h, if_neg h, if_pos h1, if_neg n0, if_pos e1, if_neg n0, if_pos e1]
theorem set_1 (a2 a3 : Int32) : X6_set (nI 1) a2 a3 m = (if X6_in (Int32.toInt64 a3) 1 9 = 0 then some (-2, m) else some (m.1 0 14, v_up m 0 14 a3)) := setg_1 (nI 1) a2 a3 (by decide) (by decide) (by decide) rfl (by decide) (by decide) (by decide)
theorem set_2 (a2 a3 : Int32) : X6_set (nI 2) a2 a3 m = (if X6_isFind a2 m = 0 then some (-2, m) else if X6_in (Int32.toInt64 a3) 0 47 = 0 then some (-2, m) else if X6_lies a2 m = 0 then some (-3, m) else chk (inb a2 12) (chk (inb a2 12) (some (m.1 5 (jn a2), v_up m 5 (jn a2) a3)))) := by
  unfold X6_set
  rw [if_neg (show ¬ X6_in (Int32.toInt64 (nI 2)) 0 4 = 0 by decide)]
  simp only [wj0, wj1, show (nI 2 ≤ (1 : Int32)) = False from eq_false (by decide), show (nI 2 = (0 : Int32)) = False from eq_false (by decide), show (nI 2 = (1 : Int32)) = False from eq_false (by decide), show (nI 2 = (2 : Int32)) = True from eq_true (by decide), show (nI 2 = (3 : Int32)) = False from eq_false (by decide), show (nI 2 = (4 : Int32)) = False from eq_false (by decide), if_true, if_false]
theorem set_3 (a2 a3 : Int32) : X6_set (nI 3) a2 a3 m = (if X6_isFind a2 m = 0 then some (-2, m) else if X6_in (Int32.toInt64 a3) 0 20 = 0 then some (-2, m) else if X6_lies a2 m = 0 then some (-3, m) else chk (inb a2 12) (chk (inb a2 12) (some (m.1 6 (jn a2), v_up m 6 (jn a2) a3)))) := by
  unfold X6_set
  rw [if_neg (show ¬ X6_in (Int32.toInt64 (nI 3)) 0 4 = 0 by decide)]
  simp only [wj0, wj1, show (nI 3 ≤ (1 : Int32)) = False from eq_false (by decide), show (nI 3 = (0 : Int32)) = False from eq_false (by decide), show (nI 3 = (1 : Int32)) = False from eq_false (by decide), show (nI 3 = (2 : Int32)) = False from eq_false (by decide), show (nI 3 = (3 : Int32)) = True from eq_true (by decide), show (nI 3 = (4 : Int32)) = False from eq_false (by decide), if_true, if_false]
theorem set_4 (a2 a3 : Int32) : X6_set (nI 4) a2 a3 m = (if X6_isFind a2 m = 0 then some (-2, m) else if X6_in (Int32.toInt64 a3) 1 9 = 0 then some (-2, m) else if X6_lies a2 m = 0 then some (-3, m) else chk (inb a2 12) (chk (inb a2 12) (some (m.1 7 (jn a2), v_up m 7 (jn a2) a3)))) := by
  unfold X6_set
  rw [if_neg (show ¬ X6_in (Int32.toInt64 (nI 4)) 0 4 = 0 by decide)]
  simp only [wj0, wj1, show (nI 4 ≤ (1 : Int32)) = False from eq_false (by decide), show (nI 4 = (0 : Int32)) = False from eq_false (by decide), show (nI 4 = (1 : Int32)) = False from eq_false (by decide), show (nI 4 = (2 : Int32)) = False from eq_false (by decide), show (nI 4 = (3 : Int32)) = False from eq_false (by decide), show (nI 4 = (4 : Int32)) = True from eq_true (by decide), if_true, if_false]

theorem chg_1 (R : Rel c m) (a2 a3 : Int32) : ∃ (x : Int32) (c' m' : vMH), X5_changeFind 10 a2 a3 (X5_isCell a3) c = some (x, c') ∧ (if X6_isFind a2 m = 0 then some (-2, m) else if X6_in (Int32.toInt64 a3) 0 47 = 0 then some (-2, m) else if X6_lies a2 m = 0 then some (-3, m) else chk (inb a2 12) (chk (inb a2 12) (some (m.1 5 (jn a2), v_up m 5 (jn a2) a3)))) = some (x, m') ∧ Rel c' m' := by
  have R' := R
  obtain ⟨V, T, E, O, F, G, hu, RR⟩ := R
  have hn := O.n
  unfold X5_changeFind
  have bad : (some ((-2 : Int32), c) = some (-2, c)) := rfl
  by_cases h1 : 0 ≤ a3.toInt ∧ a3.toInt ≤ 47
  · rw [if_neg (show ¬ X5_isCell a3 = 0 by rw [ce_z]; exact fun z => z h1)]
    by_cases h2 : 0 ≤ a2.toInt ∧ a2.toInt < V 4 0
    · obtain ⟨f, hf, rfl⟩ := nI_ofI (v := a2) (n := V 4 0) h2.1 (by omega) (by omega)
      rw [nI_toInt (by omega)] at h2
      have hf' : f < V 4 0 := by omega
      have h12 := lt_n O hf'
      rw [if_neg (has_f F O hf'), if_pos (by rw [show (12 : Int32) = nI 12 from rfl]; exact nI_lt h12 (by decide)), if_neg (show ¬ X6_isFind (nI f) m = 0 by rw [isf_z G O, nI_toInt (by omega)]; omega), if_neg (in_n (by rfl) (by rfl) h1)]
      by_cases h3 : (V 4 1).testBit f = true
      · rw [if_pos (by rw [lies_z F O hf']; exact h3), if_pos (by rw [liesM_z G O hf']; exact h3)]
        exact ⟨-3, c, m, rfl, rfl, R'⟩
      · rw [if_neg (by rw [lies_z F O hf']; exact h3), if_neg (by rw [liesM_z G O hf']; exact h3), chk_t (inb_nI h12 (by decide)), chk_t (inb_nI h12 (by decide)), chk_t (inb_nI h12 (by decide)), jn_nI (by omega)]
        obtain ⟨y, hy, rfl⟩ := nI_ofI (v := a3) (n := 47) (by omega) h1.2 (by decide)
        rw [nI_toInt (by omega)] at h1
        have e1 : c.1 10 f = nI (V 1 f) := by have := F.2.2.2.2.2.2.2 f hf'; exact this.1
        have e2 : m.1 5 f = nI (V 1 f) := by have := G.2.2.2.2.2.2.2 f hf'; exact this.1
        rw [e1, e2]
        have kc : Kp (fun q k => q = 10) c (v_up c 10 f (nI y)) := Kp.rf.up rfl
        have km : Kp (fun q k => q = 5) m (v_up m 5 f (nI y)) := Kp.rf.up rfl
        refine ⟨_, _, _, rfl, rfl, qs V 1 f y, T, E, ?_, ?_, ?_, hu, RR.kp (kc.mono (fun q k h => by unfold PcY; omega)) (km.mono (fun q k h => by unfold PmY; omega))⟩
        · obtain ⟨o1, o2, o3, o4, o5, o6, o7⟩ := O
          refine ⟨o1, o2, o3, o4, o5, fun j hj => ?_, fun j hj => ?_⟩
          · by_cases e : j = f
            · subst e; simp [qs]; exact o6 j hj
            · simp [qs, e]; exact o6 j hj
          · by_cases e : j = f
            · subst e; simp [qs]; exact ⟨by omega, (o7 j hj).2⟩
            · simp [qs, e]; exact o7 j hj
        · obtain ⟨b1, b2, b3, b4, b5, b6, b7, b8⟩ := F
          refine ⟨by simp [rd_up, qs]; exact b1, by simp [rd_up, qs]; exact b2, by simp [rd_up, qs]; exact b3, by simp [rd_up, qs]; exact b4, by simp [rd_up, qs]; exact b5, by simp [rd_up, qs]; exact b6, fun j hj => ?_, fun j hj => ?_⟩
          · by_cases e : j = f
            · subst e; simp [rd_up, qs]; exact b7 j hj
            · simp [rd_up, qs, e]; exact b7 j hj
          · by_cases e : j = f
            · subst e; simp [rd_up, qs]; exact (b8 j hj).2
            · simp [rd_up, qs, e]; exact b8 j hj
        · obtain ⟨b1, b2, b3, b4, b5, b6, b7, b8⟩ := G
          refine ⟨by simp [rd_up, qs]; exact b1, by simp [rd_up, qs]; exact b2, by simp [rd_up, qs]; exact b3, by simp [rd_up, qs]; exact b4, by simp [rd_up, qs]; exact b5, by simp [rd_up, qs]; exact b6, fun j hj => ?_, fun j hj => ?_⟩
          · by_cases e : j = f
            · subst e; simp [rd_up, qs]; exact b7 j hj
            · simp [rd_up, qs, e]; exact b7 j hj
          · by_cases e : j = f
            · subst e; simp [rd_up, qs]; exact (b8 j hj).2
            · simp [rd_up, qs, e]; exact b8 j hj
    · rw [if_pos (show X0_has 1 a2 c = 0 by rw [has_z F O]; exact h2), if_pos (show X6_isFind a2 m = 0 by rw [isf_z G O]; exact h2)]
      exact ⟨-2, c, m, rfl, rfl, R'⟩
  · rw [if_pos (show X5_isCell a3 = 0 by rw [ce_z]; exact h1), if_pos (show X6_in (Int32.toInt64 a3) 0 47 = 0 from in_p (by rfl) (by rfl) h1)]
    refine ⟨-2, c, m, rfl, ?_, R'⟩
    split <;> rfl

theorem chg_2 (R : Rel c m) (a2 a3 : Int32) : ∃ (x : Int32) (c' m' : vMH), X5_changeFind 11 a2 a3 (X5_isWithin a3 0 20) c = some (x, c') ∧ (if X6_isFind a2 m = 0 then some (-2, m) else if X6_in (Int32.toInt64 a3) 0 20 = 0 then some (-2, m) else if X6_lies a2 m = 0 then some (-3, m) else chk (inb a2 12) (chk (inb a2 12) (some (m.1 6 (jn a2), v_up m 6 (jn a2) a3)))) = some (x, m') ∧ Rel c' m' := by
  have R' := R
  obtain ⟨V, T, E, O, F, G, hu, RR⟩ := R
  have hn := O.n
  unfold X5_changeFind
  have bad : (some ((-2 : Int32), c) = some (-2, c)) := rfl
  by_cases h1 : 0 ≤ a3.toInt ∧ a3.toInt ≤ 20
  · rw [if_neg (show ¬ X5_isWithin a3 0 20 = 0 by exact wi_n (by rfl) (by rfl) h1)]
    by_cases h2 : 0 ≤ a2.toInt ∧ a2.toInt < V 4 0
    · obtain ⟨f, hf, rfl⟩ := nI_ofI (v := a2) (n := V 4 0) h2.1 (by omega) (by omega)
      rw [nI_toInt (by omega)] at h2
      have hf' : f < V 4 0 := by omega
      have h12 := lt_n O hf'
      rw [if_neg (has_f F O hf'), if_pos (by rw [show (12 : Int32) = nI 12 from rfl]; exact nI_lt h12 (by decide)), if_neg (show ¬ X6_isFind (nI f) m = 0 by rw [isf_z G O, nI_toInt (by omega)]; omega), if_neg (in_n (by rfl) (by rfl) h1)]
      by_cases h3 : (V 4 1).testBit f = true
      · rw [if_pos (by rw [lies_z F O hf']; exact h3), if_pos (by rw [liesM_z G O hf']; exact h3)]
        exact ⟨-3, c, m, rfl, rfl, R'⟩
      · rw [if_neg (by rw [lies_z F O hf']; exact h3), if_neg (by rw [liesM_z G O hf']; exact h3), chk_t (inb_nI h12 (by decide)), chk_t (inb_nI h12 (by decide)), chk_t (inb_nI h12 (by decide)), jn_nI (by omega)]
        obtain ⟨y, hy, rfl⟩ := nI_ofI (v := a3) (n := 20) (by omega) h1.2 (by decide)
        rw [nI_toInt (by omega)] at h1
        have e1 : c.1 11 f = nI (V 2 f) := by have := F.2.2.2.2.2.2.2 f hf'; exact this.2
        have e2 : m.1 6 f = nI (V 2 f) := by have := G.2.2.2.2.2.2.2 f hf'; exact this.2
        rw [e1, e2]
        have kc : Kp (fun q k => q = 11) c (v_up c 11 f (nI y)) := Kp.rf.up rfl
        have km : Kp (fun q k => q = 6) m (v_up m 6 f (nI y)) := Kp.rf.up rfl
        refine ⟨_, _, _, rfl, rfl, qs V 2 f y, T, E, ?_, ?_, ?_, hu, RR.kp (kc.mono (fun q k h => by unfold PcY; omega)) (km.mono (fun q k h => by unfold PmY; omega))⟩
        · obtain ⟨o1, o2, o3, o4, o5, o6, o7⟩ := O
          refine ⟨o1, o2, o3, o4, o5, fun j hj => ?_, fun j hj => ?_⟩
          · by_cases e : j = f
            · subst e; simp [qs]; exact o6 j hj
            · simp [qs, e]; exact o6 j hj
          · by_cases e : j = f
            · subst e; simp [qs]; exact ⟨(o7 j hj).1, by omega⟩
            · simp [qs, e]; exact o7 j hj
        · obtain ⟨b1, b2, b3, b4, b5, b6, b7, b8⟩ := F
          refine ⟨by simp [rd_up, qs]; exact b1, by simp [rd_up, qs]; exact b2, by simp [rd_up, qs]; exact b3, by simp [rd_up, qs]; exact b4, by simp [rd_up, qs]; exact b5, by simp [rd_up, qs]; exact b6, fun j hj => ?_, fun j hj => ?_⟩
          · by_cases e : j = f
            · subst e; simp [rd_up, qs]; exact b7 j hj
            · simp [rd_up, qs, e]; exact b7 j hj
          · by_cases e : j = f
            · subst e; simp [rd_up, qs]; exact (b8 j hj).1
            · simp [rd_up, qs, e]; exact b8 j hj
        · obtain ⟨b1, b2, b3, b4, b5, b6, b7, b8⟩ := G
          refine ⟨by simp [rd_up, qs]; exact b1, by simp [rd_up, qs]; exact b2, by simp [rd_up, qs]; exact b3, by simp [rd_up, qs]; exact b4, by simp [rd_up, qs]; exact b5, by simp [rd_up, qs]; exact b6, fun j hj => ?_, fun j hj => ?_⟩
          · by_cases e : j = f
            · subst e; simp [rd_up, qs]; exact b7 j hj
            · simp [rd_up, qs, e]; exact b7 j hj
          · by_cases e : j = f
            · subst e; simp [rd_up, qs]; exact (b8 j hj).1
            · simp [rd_up, qs, e]; exact b8 j hj
    · rw [if_pos (show X0_has 1 a2 c = 0 by rw [has_z F O]; exact h2), if_pos (show X6_isFind a2 m = 0 by rw [isf_z G O]; exact h2)]
      exact ⟨-2, c, m, rfl, rfl, R'⟩
  · rw [if_pos (show X5_isWithin a3 0 20 = 0 by exact wi_p (by rfl) (by rfl) h1), if_pos (show X6_in (Int32.toInt64 a3) 0 20 = 0 from in_p (by rfl) (by rfl) h1)]
    refine ⟨-2, c, m, rfl, ?_, R'⟩
    split <;> rfl

theorem chg_3 (R : Rel c m) (a2 a3 : Int32) : ∃ (x : Int32) (c' m' : vMH), X5_changeFind 12 a2 a3 (X5_isWithin a3 1 9) c = some (x, c') ∧ (if X6_isFind a2 m = 0 then some (-2, m) else if X6_in (Int32.toInt64 a3) 1 9 = 0 then some (-2, m) else if X6_lies a2 m = 0 then some (-3, m) else chk (inb a2 12) (chk (inb a2 12) (some (m.1 7 (jn a2), v_up m 7 (jn a2) a3)))) = some (x, m') ∧ Rel c' m' := by
  have R' := R
  obtain ⟨V, T, E, O, F, G, hu, RR⟩ := R
  have hn := O.n
  unfold X5_changeFind
  have bad : (some ((-2 : Int32), c) = some (-2, c)) := rfl
  by_cases h1 : 1 ≤ a3.toInt ∧ a3.toInt ≤ 9
  · rw [if_neg (show ¬ X5_isWithin a3 1 9 = 0 by exact wi_n (by rfl) (by rfl) h1)]
    by_cases h2 : 0 ≤ a2.toInt ∧ a2.toInt < V 4 0
    · obtain ⟨f, hf, rfl⟩ := nI_ofI (v := a2) (n := V 4 0) h2.1 (by omega) (by omega)
      rw [nI_toInt (by omega)] at h2
      have hf' : f < V 4 0 := by omega
      have h12 := lt_n O hf'
      rw [if_neg (has_f F O hf'), if_pos (by rw [show (12 : Int32) = nI 12 from rfl]; exact nI_lt h12 (by decide)), if_neg (show ¬ X6_isFind (nI f) m = 0 by rw [isf_z G O, nI_toInt (by omega)]; omega), if_neg (in_n (by rfl) (by rfl) h1)]
      by_cases h3 : (V 4 1).testBit f = true
      · rw [if_pos (by rw [lies_z F O hf']; exact h3), if_pos (by rw [liesM_z G O hf']; exact h3)]
        exact ⟨-3, c, m, rfl, rfl, R'⟩
      · rw [if_neg (by rw [lies_z F O hf']; exact h3), if_neg (by rw [liesM_z G O hf']; exact h3), chk_t (inb_nI h12 (by decide)), chk_t (inb_nI h12 (by decide)), chk_t (inb_nI h12 (by decide)), jn_nI (by omega)]
        obtain ⟨y, hy, rfl⟩ := nI_ofI (v := a3) (n := 9) (by omega) h1.2 (by decide)
        rw [nI_toInt (by omega)] at h1
        have e1 : c.1 12 f = nI (V 3 f) := by have := F.2.2.2.2.2.2.1 f h12; exact this.2
        have e2 : m.1 7 f = nI (V 3 f) := by have := G.2.2.2.2.2.2.1 f h12; exact this.2
        rw [e1, e2]
        have kc : Kp (fun q k => q = 12) c (v_up c 12 f (nI y)) := Kp.rf.up rfl
        have km : Kp (fun q k => q = 7) m (v_up m 7 f (nI y)) := Kp.rf.up rfl
        refine ⟨_, _, _, rfl, rfl, qs V 3 f y, T, E, ?_, ?_, ?_, hu, RR.kp (kc.mono (fun q k h => by unfold PcY; omega)) (km.mono (fun q k h => by unfold PmY; omega))⟩
        · obtain ⟨o1, o2, o3, o4, o5, o6, o7⟩ := O
          refine ⟨o1, o2, o3, o4, o5, fun j hj => ?_, fun j hj => ?_⟩
          · by_cases e : j = f
            · subst e; simp [qs]; exact ⟨(o6 j hj).1, by omega⟩
            · simp [qs, e]; exact o6 j hj
          · by_cases e : j = f
            · subst e; simp [qs]; exact o7 j hj
            · simp [qs, e]; exact o7 j hj
        · obtain ⟨b1, b2, b3, b4, b5, b6, b7, b8⟩ := F
          refine ⟨by simp [rd_up, qs]; exact b1, by simp [rd_up, qs]; exact b2, by simp [rd_up, qs]; exact b3, by simp [rd_up, qs]; exact b4, by simp [rd_up, qs]; exact b5, by simp [rd_up, qs]; exact b6, fun j hj => ?_, fun j hj => ?_⟩
          · by_cases e : j = f
            · subst e; simp [rd_up, qs]; exact (b7 j hj).1
            · simp [rd_up, qs, e]; exact b7 j hj
          · by_cases e : j = f
            · subst e; simp [rd_up, qs]; exact b8 j hj
            · simp [rd_up, qs, e]; exact b8 j hj
        · obtain ⟨b1, b2, b3, b4, b5, b6, b7, b8⟩ := G
          refine ⟨by simp [rd_up, qs]; exact b1, by simp [rd_up, qs]; exact b2, by simp [rd_up, qs]; exact b3, by simp [rd_up, qs]; exact b4, by simp [rd_up, qs]; exact b5, by simp [rd_up, qs]; exact b6, fun j hj => ?_, fun j hj => ?_⟩
          · by_cases e : j = f
            · subst e; simp [rd_up, qs]; exact (b7 j hj).1
            · simp [rd_up, qs, e]; exact b7 j hj
          · by_cases e : j = f
            · subst e; simp [rd_up, qs]; exact b8 j hj
            · simp [rd_up, qs, e]; exact b8 j hj
    · rw [if_pos (show X0_has 1 a2 c = 0 by rw [has_z F O]; exact h2), if_pos (show X6_isFind a2 m = 0 by rw [isf_z G O]; exact h2)]
      exact ⟨-2, c, m, rfl, rfl, R'⟩
  · rw [if_pos (show X5_isWithin a3 1 9 = 0 by exact wi_p (by rfl) (by rfl) h1), if_pos (show X6_in (Int32.toInt64 a3) 1 9 = 0 from in_p (by rfl) (by rfl) h1)]
    refine ⟨-2, c, m, rfl, ?_, R'⟩
    split <;> rfl

theorem op_set (a1 a2 a3 : Int32) : OpOK Rel (oC_set a1 a2 a3) (oM_set a1 a2 a3) := by
  intro c m R
  unfold oC_set oM_set X5_set
  by_cases h0 : 0 ≤ a1.toInt ∧ a1.toInt ≤ 4
  · obtain ⟨y, hy, rfl⟩ := nI_ofI (v := a1) (n := 4) h0.1 h0.2 (by decide)
    have : y = 0 ∨ y = 1 ∨ y = 2 ∨ y = 3 ∨ y = 4 := by omega
    rcases this with rfl | rfl | rfl | rfl | rfl
    · rw [if_pos (show nI 0 = 0 from rfl), show X6_set (nI 0) a2 a3 m = _ from set_0 a2 a3]
      unfold X5_changeWet
      by_cases h : 0 ≤ a3.toInt ∧ a3.toInt ≤ 9
      · rw [if_neg (wi_n (by rfl) (by rfl) h), if_neg (in_n (by rfl) (by rfl) h)]
        obtain ⟨y, hy, rfl⟩ := nI_ofI (v := a3) (n := 9) h.1 h.2 (by decide)
        obtain ⟨V, T, E, O, F, G, hu, RR⟩ := R
        rw [F.w, G.w]
        exact ⟨_, _, _, rfl, rfl, qs V 4 2 y, T, E, wt_O O hy, wt_C isF1 F, wt_M G, hu, RR.kp (Kp.rf.up (by unfold PcY; omega)) (Kp.rf.up (by unfold PmY; omega))⟩
      · rw [if_pos (wi_p (by rfl) (by rfl) h), if_pos (in_p (by rfl) (by rfl) h)]
        exact ⟨-2, c, m, rfl, rfl, R⟩
    · rw [if_neg (show ¬ nI 1 = 0 by decide), if_pos (show nI 1 = 1 from rfl), show X6_set (nI 1) a2 a3 m = _ from set_1 a2 a3]
      unfold X5_changePlate
      by_cases h : 1 ≤ a3.toInt ∧ a3.toInt ≤ 9
      · rw [if_neg (wi_n (by rfl) (by rfl) h), if_neg (in_n (by rfl) (by rfl) h)]
        obtain ⟨y, hy, rfl⟩ := nI_ofI (v := a3) (n := 9) (by omega) h.2 (by decide)
        obtain ⟨V, T, E, O, F, G, hu, RR⟩ := R
        rw [F.p, G.p]
        exact ⟨_, _, _, rfl, rfl, qs V 4 3 y, T, E, pl_O O (by omega), pl_C isF1 F, pl_M G, hu, RR.kp (Kp.rf.up (by unfold PcY; omega)) (Kp.rf.up (by unfold PmY; omega))⟩
      · rw [if_pos (wi_p (by rfl) (by rfl) h), if_pos (in_p (by rfl) (by rfl) h)]
        exact ⟨-2, c, m, rfl, rfl, R⟩
    · rw [if_neg (show ¬ nI 2 = 0 by decide), if_neg (show ¬ nI 2 = 1 by decide), if_pos (show nI 2 = 2 from rfl), show X6_set (nI 2) a2 a3 m = _ from set_2 a2 a3]
      obtain ⟨x, c', m', h1, h2, h3⟩ := chg_1 R a2 a3
      rw [h1, h2, bd_s]
      exact ⟨x, c', m', rfl, rfl, h3⟩
    · rw [if_neg (show ¬ nI 3 = 0 by decide), if_neg (show ¬ nI 3 = 1 by decide), if_neg (show ¬ nI 3 = 2 by decide), if_pos (show nI 3 = 3 from rfl), show X6_set (nI 3) a2 a3 m = _ from set_3 a2 a3]
      obtain ⟨x, c', m', h1, h2, h3⟩ := chg_2 R a2 a3
      rw [h1, h2, bd_s]
      exact ⟨x, c', m', rfl, rfl, h3⟩
    · rw [if_neg (show ¬ nI 4 = 0 by decide), if_neg (show ¬ nI 4 = 1 by decide), if_neg (show ¬ nI 4 = 2 by decide), if_neg (show ¬ nI 4 = 3 by decide), if_pos (show nI 4 = 4 from rfl), show X6_set (nI 4) a2 a3 m = _ from set_4 a2 a3]
      obtain ⟨x, c', m', h1, h2, h3⟩ := chg_3 R a2 a3
      rw [h1, h2, bd_s]
      exact ⟨x, c', m', rfl, rfl, h3⟩
  · have ne : ∀ (j : Int32) (n : Nat), j = nI n → n ≤ 4 → ¬ a1 = j := by
      intro j n hj hn z
      rw [z, hj, nI_toInt (by omega)] at h0
      omega
    unfold X6_set
    rw [if_neg (ne 0 0 rfl (by decide)), if_neg (ne 1 1 rfl (by decide)), if_neg (ne 2 2 rfl (by decide)), if_neg (ne 3 3 rfl (by decide)), if_neg (ne 4 4 rfl (by decide)), if_pos (in_p (by rfl) (by rfl) h0)]
    exact ⟨-2, c, m, rfl, rfl, R⟩
theorem op_force (a1 : Int32) : OpOK Rel (oC_force a1) (oM_force a1) := by
  intro c m R
  have R' := R
  obtain ⟨V, T, E, O, F, G, hu, RR⟩ := R
  have hT := RR.1.2.1
  have e1 : (X3_has a1 c = 0) = ¬ (0 ≤ a1.toInt ∧ a1.toInt ≤ (T : Int) - 1) := by
    unfold X3_has
    rw [RR.1.2.2.1]
    simp only [Int32.lt_iff_toInt_lt, Int32.le_iff_toInt_le, show (0 : Int32).toInt = 0 from rfl, nI_toInt (show T < 2 ^ 31 by omega)]
    by_cases h1 : a1.toInt < 0
    · rw [if_pos h1]; simp; omega
    · rw [if_neg h1]
      by_cases h2 : (T : Int) ≤ a1.toInt
      · rw [if_pos h2]; simp; omega
      · rw [if_neg h2]; simp; omega
  have e2 : (X6_in (Int32.toInt64 a1) 0 (Int32.toInt64 (m.1 0 3 - 1)) = 0) = ¬ (0 ≤ a1.toInt ∧ a1.toInt ≤ (T : Int) - 1) := by
    rw [in_z, il, il, RR.2.1.1]
    have h1 : (nI T - 1).toInt = (T : Int) - 1 := by
      rw [qi_sub] <;> rw [nI_toInt (by omega), show (1 : Int32).toInt = 1 from rfl] <;> omega
    rw [h1]; rfl
  unfold oC_force oM_force X5_force X6_force
  by_cases h : 0 ≤ a1.toInt ∧ a1.toInt ≤ (T : Int) - 1
  · rw [if_neg (by rw [e1]; exact fun z => z h), if_neg (by rw [e2]; exact fun z => z h)]
    obtain ⟨y, hy, rfl⟩ := nI_ofI (v := a1) (n := T - 1) h.1 (by omega) (by omega)
    rw [F.u, G.u]
    refine ⟨_, _, _, rfl, rfl, qs V 4 5 y, T, E, O, ?_, ?_, ?_, RR.kp (Kp.rf.up (by unfold PcY; omega)) (Kp.rf.up (by unfold PmY; omega))⟩
    · obtain ⟨b1, b2, b3, b4, b5, b6, b7, b8⟩ := F
      refine ⟨by simp [rd_up, qs]; exact b1, by simp [rd_up, qs]; exact b2, by simp [rd_up, qs]; exact b3, by simp [rd_up, qs]; exact b4, by simp [rd_up, qs]; exact b5, by simp [rd_up, qs], fun j hj => ?_, fun j hj => ?_⟩
      · simp [rd_up, qs]; exact b7 j hj
      · simp [rd_up, qs]; exact b8 j hj
    · obtain ⟨b1, b2, b3, b4, b5, b6, b7, b8⟩ := G
      refine ⟨by simp [rd_up, qs]; exact b1, by simp [rd_up, qs]; exact b2, by simp [rd_up, qs]; exact b3, by simp [rd_up, qs]; exact b4, by simp [rd_up, qs]; exact b5, by simp [rd_up, qs], fun j hj => ?_, fun j hj => ?_⟩
      · simp [rd_up, qs]; exact b7 j hj
      · simp [rd_up, qs]; exact b8 j hj
    · rw [qs_at]; omega
  · rw [if_pos (by rw [e1]; exact h), if_pos (by rw [e2]; exact h)]
    exact ⟨-2, c, m, rfl, rfl, R'⟩

theorem op_told (a1 a2 : Int32) : OpOK Rel (oC_told a1 a2) (oM_told a1 a2) := by
  intro c m R
  have R' := R
  obtain ⟨V, T, E, O, F, G, hu, RR⟩ := R
  have hn := O.n
  unfold oC_told oM_told
  by_cases h1 : 0 ≤ a1.toInt ∧ a1.toInt < V 4 0
  · obtain ⟨f, hf, rfl⟩ := nI_ofI (v := a1) (n := V 4 0) h1.1 (by omega) (by omega)
    rw [nI_toInt (by omega)] at h1
    have hf' : f < V 4 0 := by omega
    have h12 := lt_n O hf'
    have hH := has_f F O hf'
    have hI : ¬ X6_isFind (nI f) m = 0 := by rw [isf_z G O, nI_toInt (by omega)]; omega
    by_cases h2 : 0 ≤ a2.toInt ∧ a2.toInt ≤ 9
    · obtain ⟨y, hy, rfl⟩ := nI_ofI (v := a2) (n := 9) h2.1 h2.2 (by decide)
      have : y = 0 ∨ y = 1 ∨ y = 2 ∨ y = 3 ∨ y = 4 ∨ y = 5 ∨ y = 6 ∨ y = 7 ∨ y = 8 ∨ y = 9 := by omega
      rcases this with rfl | rfl | rfl | rfl | rfl | rfl | rfl | rfl | rfl | rfl
      · have e1 : X5_told (nI f) (nI 0) c = (if X0_has 1 (nI f) c = 0 then some (-2, c) else chk (inb (nI f) 12) (some (c.1 9 (jn (nI f)), c))) := rfl
        have e2 : X6_told (nI f) (nI 0) m = (if X6_isFind (nI f) m = 0 then some (-2, m) else chk (inb (nI f) 12) (some (m.1 4 (jn (nI f)), m))) := rfl
        rw [e1, e2, if_neg hH, if_neg hI, chk_t (inb_nI h12 (by decide)), chk_t (inb_nI h12 (by decide)), show c.1 9 (jn (nI f)) = _ from F.k h12, G.k h12]
        exact ⟨_, c, m, rfl, rfl, R'⟩
      · have e1 : X5_told (nI f) (nI 1) c = (if X0_has 1 (nI f) c = 0 then some (-2, c) else chk (inb (nI f) 12) (some (c.1 10 (jn (nI f)), c))) := rfl
        have e2 : X6_told (nI f) (nI 1) m = (if X6_isFind (nI f) m = 0 then some (-2, m) else chk (inb (nI f) 12) (some (m.1 5 (jn (nI f)), m))) := rfl
        rw [e1, e2, if_neg hH, if_neg hI, chk_t (inb_nI h12 (by decide)), chk_t (inb_nI h12 (by decide)), show c.1 10 (jn (nI f)) = _ from F.x hf' h12, G.x hf' h12]
        exact ⟨_, c, m, rfl, rfl, R'⟩
      · have e1 : X5_told (nI f) (nI 2) c = (if X0_has 1 (nI f) c = 0 then some (-2, c) else chk (inb (nI f) 12) (some (c.1 11 (jn (nI f)), c))) := rfl
        have e2 : X6_told (nI f) (nI 2) m = (if X6_isFind (nI f) m = 0 then some (-2, m) else chk (inb (nI f) 12) (some (m.1 6 (jn (nI f)), m))) := rfl
        rw [e1, e2, if_neg hH, if_neg hI, chk_t (inb_nI h12 (by decide)), chk_t (inb_nI h12 (by decide)), show c.1 11 (jn (nI f)) = _ from F.d hf' h12, G.d hf' h12]
        exact ⟨_, c, m, rfl, rfl, R'⟩
      · have e1 : X5_told (nI f) (nI 3) c = (if X0_has 1 (nI f) c = 0 then some (-2, c) else chk (inb (nI f) 12) (some (c.1 12 (jn (nI f)), c))) := rfl
        have e2 : X6_told (nI f) (nI 3) m = (if X6_isFind (nI f) m = 0 then some (-2, m) else chk (inb (nI f) 12) (some (m.1 7 (jn (nI f)), m))) := rfl
        rw [e1, e2, if_neg hH, if_neg hI, chk_t (inb_nI h12 (by decide)), chk_t (inb_nI h12 (by decide)), show c.1 12 (jn (nI f)) = _ from F.s h12, G.s h12]
        exact ⟨_, c, m, rfl, rfl, R'⟩
      · have e1 : X5_told (nI f) (nI 4) c = (if X0_has 1 (nI f) c = 0 then some (-2, c) else if X0_lies 1 (nI f) c = 0 then some (1, c) else some (0, c)) := rfl
        have e2 : X6_told (nI f) (nI 4) m = (if X6_isFind (nI f) m = 0 then some (-2, m) else some ((js (m.1 0 12) (nI f)) &&& 1, m)) := rfl
        rw [e1, e2, if_neg hH, if_neg hI, G.g, js_bit O.g h12]
        have hb := bit_tb (V 4 1) f
        by_cases h3 : (V 4 1).testBit f = true
        · rw [if_pos (by rw [lies_z F O hf']; exact h3)]
          rw [h3] at hb
          have := of_decide_eq_true hb.symm
          rw [this]
          exact ⟨1, c, m, rfl, rfl, R'⟩
        · rw [if_neg (by rw [lies_z F O hf']; exact h3)]
          have h3' : (V 4 1).testBit f = false := by simpa using h3
          rw [h3'] at hb
          have := of_decide_eq_false hb.symm
          rw [show V 4 1 / 2 ^ f % 2 = 0 by omega]
          exact ⟨0, c, m, rfl, rfl, R'⟩
      · have e1 : X5_told (nI f) (nI 5) c = (if X0_has 1 (nI f) c = 0 then some (-2, c) else chk (inb (nI f) 12) (some (X5_toneOf (c.1 9 (jn (nI f))) (c.1 12 (jn (nI f))), c))) := rfl
        have e2 : X6_told (nI f) (nI 5) m = (if X6_isFind (nI f) m = 0 then some (-2, m) else (X6_tone (nI f) m).bind fun q19 => some (q19, m)) := rfl
        rw [e1, e2, if_neg hH, if_neg hI, chk_t (inb_nI h12 (by decide)), show c.1 9 (jn (nI f)) = _ from F.k h12, show c.1 12 (jn (nI f)) = _ from F.s h12, M_tone G O hf', bd_s, (tone_tab _ (O.k hf') _ (O.s hf')).1]
        exact ⟨_, c, m, rfl, rfl, R'⟩
      · have e1 : X5_told (nI f) (nI 6) c = (if X0_has 1 (nI f) c = 0 then some (-2, c) else (X0_loud 1 (nI f) c).bind fun q15 => some (q15, c)) := rfl
        have e2 : X6_told (nI f) (nI 6) m = (if X6_isFind (nI f) m = 0 then some (-2, m) else (X6_loud (nI f) m).bind fun q16 => some (q16, m)) := rfl
        rw [e1, e2, if_neg hH, if_neg hI, C_loud F O hf', M_loud G O hf', bd_s, bd_s]
        exact ⟨_, c, m, rfl, rfl, R'⟩
      · have e1 : X5_told (nI f) (nI 7) c = (if X0_has 1 (nI f) c = 0 then some (-2, c) else (X0_heard 1 (nI f) c).bind fun q15 => some (q15, c)) := rfl
        have e2 : X6_told (nI f) (nI 7) m = (if X6_isFind (nI f) m = 0 then some (-2, m) else if X6_lies (nI f) m = 0 then some (0, m) else (X6_heard (nI f) m).bind fun q14 => some (q14, m)) := rfl
        rw [e1, e2, if_neg hH, if_neg hI]
        by_cases h3 : (V 4 1).testBit f = true
        · rw [if_pos (by rw [liesM_z G O hf']; exact h3)]
          unfold X0_heard
          rw [if_pos (by rw [lies_z F O hf']; exact h3), bd_s]
          exact ⟨0, c, m, rfl, rfl, R'⟩
        · have h3' : (V 4 1).testBit f = false := by simpa using h3
          rw [if_neg (by rw [liesM_z G O hf']; exact h3), C_heard F O hf' h3', M_heard G O hf', bd_s, bd_s]
          exact ⟨_, c, m, rfl, rfl, R'⟩
      · have e1 : X5_told (nI f) (nI 8) c = (if X0_has 1 (nI f) c = 0 then some (-2, c) else chk (inb (nI f) 12) (some (X5_dragsOf (c.1 9 (jn (nI f))) (c.1 12 (jn (nI f))) (c.1 11 (jn (nI f))), c))) := rfl
        have e2 : X6_told (nI f) (nI 8) m = (if X6_isFind (nI f) m = 0 then some (-2, m) else chk (inb (nI f) 12) (some (X6_dragsAt (m.1 4 (jn (nI f))) (m.1 7 (jn (nI f))) (m.1 6 (jn (nI f))), m))) := rfl
        obtain ⟨d1, d2, -⟩ := drag_tab _ (O.k hf') _ (O.s hf') _ (O.d hf')
        rw [e1, e2, if_neg hH, if_neg hI, chk_t (inb_nI h12 (by decide)), chk_t (inb_nI h12 (by decide)), show c.1 9 (jn (nI f)) = _ from F.k h12, show c.1 12 (jn (nI f)) = _ from F.s h12, show c.1 11 (jn (nI f)) = _ from F.d hf' h12, G.k h12, G.s h12, G.d hf' h12, d1, d2]
        exact ⟨_, c, m, rfl, rfl, R'⟩
      · have e1 : X5_told (nI f) (nI 9) c = (if X0_has 1 (nI f) c = 0 then some (-2, c) else (X0_loud 1 (nI f) c).bind fun q23 => (X3_reckon 1 2 (nI f) q23 c).bind fun q25 => some (q25.1, q25.2)) := rfl
        have e2 : X6_told (nI f) (nI 9) m = (if X6_isFind (nI f) m = 0 then some (-2, m) else (X6_loud (nI f) m).bind fun q7 => (X6_worth (nI f) q7 m).bind fun q9 => some (q9.1, q9.2)) := rfl
        rw [e1, e2, if_neg hH, if_neg hI, C_loud F O hf', M_loud G O hf', bd_s, bd_s]
        generalize nI (loudZ (V 0 f) (V 3 f) (V 2 f) (V 4 3) (V 4 2)).toNat = L
        obtain ⟨c1, g1, g2⟩ := reck_ok isF1 F O RR.1 hu hf' (w := 2) (by decide) L
        obtain ⟨m1, g3, g4⟩ := says_ok G O RR.2.1 hu hf' (w := 2) (by decide) L
        have g1' : X3_reckon 1 2 (nI f) L c = some (nI (clampZ (E (V 4 5) 2 (nmV V f L))), c1) := by rw [← (held_c _).1]; exact g1
        have g3' : X6_worth (nI f) L m = some (nI (clampZ (E (V 4 5) 2 (nmV V f L))), m1) := by
          unfold X6_worth
          rw [show (2 : Int32) = nI 2 from rfl, g3, bd_s, ← (held_c _).2]
        rw [g1', g3', bd_s, bd_s]
        exact ⟨_, c1, m1, rfl, rfl, R'.S g2 g4⟩
    · have ne : ∀ (j : Int32) (n : Nat), j = nI n → n ≤ 9 → ¬ a2 = j := by
        intro j n hj hn z
        rw [z, hj, nI_toInt (by omega)] at h2
        omega
      unfold X5_told X6_told
      rw [if_neg hH, if_neg hI, if_pos (in_p (by rfl) (by rfl) h2), if_neg (ne 0 0 rfl (by decide)), if_neg (ne 1 1 rfl (by decide)), if_neg (ne 2 2 rfl (by decide)), if_neg (ne 3 3 rfl (by decide)), if_neg (ne 4 4 rfl (by decide)), if_neg (ne 5 5 rfl (by decide)), if_neg (ne 6 6 rfl (by decide)), if_neg (ne 7 7 rfl (by decide)), if_neg (ne 8 8 rfl (by decide)), if_neg (ne 9 9 rfl (by decide))]
      exact ⟨-2, c, m, rfl, rfl, R'⟩
  · unfold X5_told X6_told
    rw [if_pos (show X0_has 1 a1 c = 0 by rw [has_z F O]; exact h1), if_pos (show X6_isFind a1 m = 0 by rw [isf_z G O]; exact h1)]
    exact ⟨-2, c, m, rfl, rfl, R'⟩
end OPS2
