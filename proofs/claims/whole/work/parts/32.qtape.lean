/-! PURE PART, a whole text is read; what it says from then on -/
def PcU (t q k : Nat) : Prop := PcT t q k ∨ (q = 6 ∧ k = 0)
def PmU (q k : Nat) : Prop := q = 0 ∧ 23 ≤ k ∧ k ≤ 31
section TAPE
variable {t z p x : Nat} {c m : vMH}
theorem tail_bad (ht : t < 6) (J : vMH → Option (Int32 × vMH)) : ∀ r w : Nat, w + r = 3 → ∀ N, r < N → ∀ (c : vMH) (x : Nat), c.1 5 0 = nI t → NX t x c → c.1 6 5 = -20 → ¬ c.1 6 6 = -1 → ∃ c', lq2 N (X1_readTape_L23 J) (nI w) c = J c' ∧ c'.1 6 5 = -20 ∧ c'.1 6 6 = c.1 6 6 ∧ Kp (PcT t) c c' := by
  intro r
  induction r with
  | zero =>
    intro w hw N hN c x h0 X h5 h6
    obtain ⟨N, rfl⟩ : ∃ M, N = M + 1 := ⟨N - 1, by omega⟩
    refine ⟨c, ?_, h5, rfl, Kp.rf⟩
    rw [lq2_s, X1_readTape_L23, if_pos (by rw [show w = 3 by omega]; decide)]
  | succ r ih =>
    intro w hw N hN c x h0 X h5 h6
    obtain ⟨N, rfl⟩ : ∃ M, N = M + 1 := ⟨N - 1, by omega⟩
    obtain ⟨c1, a1, a2, a3, a4, a5, a6⟩ := partC_bad ht h0 X h5 h6 (show w < 3 by omega)
    obtain ⟨c2, b1, b2, b3, b4⟩ := ih (w + 1) (by omega) N (by omega) c1 x (by rw [a5 _ _ (by unfold PcT; omega)]; exact h0) a4 a2 (by rw [a3]; exact h6)
    refine ⟨c2, ?_, b2, by rw [b3, a3], a5.tr b4⟩
    rw [lq2_s, L23_s (by rw [show (3 : Int32) = nI 3 from rfl]; exact nI_ge (by omega) (by decide)), a1, bd_s, nI_1, b1]
theorem RS.T {c' m' : vMH} (R : RS t z c m) (k1 : Kp (PcT t) c c') (k2 : Kp PmR m m') : RS t z c' m' := R.kp k1 k2 (by unfold PcT; omega) (fun j => by unfold PcT; omega) (by unfold PmR; omega) (by unfold PmR; omega) (fun j => by unfold PmR; omega)
/-- the end of a reading that failed, in the class -/
def fJ (mh3 : vMH) : Option (Int32 × vMH) := wj1 (fun (mh5 : vMH) => (some ((mh5.1 6 6), (v_up mh5 6 0 0)))) fun J6 => (if (mh3.1 6 5) = (-19) then (J6 mh3) else (J6 (X1_refuse mh3)))
theorem fJ_bad (h5 : c.1 6 5 = -20) (h6 : ¬ c.1 6 6 = -1) : fJ c = some (c.1 6 6, v_up (v_up c 6 5 (-20)) 6 0 0) := by
  unfold fJ
  simp only [wj1]
  rw [if_neg (by rw [h5]; decide), refuse_c h6]
  simp [rd_up]
def okSem (t : Nat) (nv : Nat → Int32) (c' : vMH) (v0 v1 v2 : Int32) : Prop := ∃ e0 e1 e2 : Nat, 160 * t ≤ e0 ∧ e0 ≤ e1 ∧ e1 ≤ e2 ∧ e2 ≤ 160 * t + 160 ∧ c'.1 26 (3 * t) = nI e0 ∧ c'.1 26 (3 * t + 1) = nI e1 ∧ c'.1 26 (3 * t + 2) = nI e2 ∧ mrun nv (seg (c'.1 25) (160 * t) (e0 - 160 * t)) [] = [v0] ∧ mrun nv (seg (c'.1 25) e0 (e1 - e0)) [] = [v1] ∧ mrun nv (seg (c'.1 25) e1 (e2 - e1)) [] = [v2]
def selW (W : Int32) (v0 v1 v2 : Int32) (m' : vMH) : Option (Int32 × vMH) := if W = 0 then some (v0, m') else if W = 1 then some (v1, m') else some (v2, m')
theorem PcTU {c' : vMH} (k : Kp (PcT t) c c') : Kp (PcU t) c c' := k.mono (fun q k h => Or.inl h)
theorem read_ok (ht : t < 6) (hz : z ≤ 160) (h0 : c.1 5 0 = nI t) (hs : c.1 6 0 = nI z) (hm2 : m.1 2 t = nI z) (hb : ∀ j, j < z → ∃ b : Nat, b ≤ 255 ∧ c.1 29 j = nI b ∧ m.1 1 (160 * t + j) = nI b) : ∃ (f : Int32) (c' : vMH) (v0 v1 v2 : Int32) (m' : vMH), X1_readTape c = some (f, c') ∧ (∀ W, X6_read (nI t) W m = selW W v0 v1 v2 m') ∧ Kp PmU m m' ∧ Kp (PcU t) c c' ∧ c'.1 6 0 = 0 ∧ ((f = -1 ∧ m'.1 0 30 = 0 ∧ okSem t (mnv m) c' v0 v1 v2) ∨ ∃ q : Nat, q ≤ 160 ∧ f = nI q ∧ m'.1 0 30 = 1 ∧ m'.1 0 31 = nI q) := by
  have kc0 : Kp (PcT t) c (v_up (v_up (v_up c 6 3 0) 6 6 (-1)) 5 5 (nI (160 * t))) := ((Kp.rf.up (by unfold PcT; omega)).up (by unfold PcT; omega)).up (by unfold PcT; omega)
  have km0 : Kp PmU m (v_up (v_up (v_up (v_up (v_up m 0 23 (nI (160 * t))) 0 24 (nI z)) 0 25 0) 0 29 0) 0 30 0) := ((((Kp.rf.up (by unfold PmU; omega)).up (by unfold PmU; omega)).up (by unfold PmU; omega)).up (by unfold PmU; omega)).up (by unfold PmU; omega)
  have hbeg : X3_begin (v_up (v_up c 6 3 0) 6 6 (-1)) = v_up (v_up (v_up c 6 3 0) 6 6 (-1)) 5 5 (nI (160 * t)) := by
    unfold X3_begin
    rw [show (v_up (v_up c 6 3 0) 6 6 (-1)).1 5 0 = nI t by simp [rd_up]; exact h0, show (160 : Int32) = nI 160 from rfl, pk_mul, Nat.mul_comm]
  generalize hc0 : v_up (v_up (v_up c 6 3 0) 6 6 (-1)) 5 5 (nI (160 * t)) = c0 at kc0 hbeg
  generalize hm0 : v_up (v_up (v_up (v_up (v_up m 0 23 (nI (160 * t))) 0 24 (nI z)) 0 25 0) 0 29 0) 0 30 0 = m0 at km0
  have R0 : RS t z c0 m0 := by
    refine ⟨ht, hz, by rw [kc0 _ _ (by unfold PcT; omega)]; exact hs, by rw [← hm0]; simp [rd_up], by rw [← hm0]; simp [rd_up], fun j hj => ?_⟩
    rw [kc0 _ _ (by unfold PcT; omega), km0 _ _ (by unfold PmU; omega)]
    exact hb j hj
  have q30 : m0.1 0 30 = 0 := by rw [← hm0]; simp [rd_up]
  have q29 : m0.1 0 29 = nI 0 := by rw [← hm0]; simp [rd_up]; rfl
  obtain ⟨c1, m1, p1, a1, a2, a3, a4, a5, a6⟩ := adv_ok R0 (Nat.zero_le z) (by rw [← hc0]; simp [rd_up]; rfl) (by rw [← hm0]; simp [rd_up]; rfl) q30
  have G1 : GD z 0 c1 m1 p1 := ⟨by rw [a6 _ _ (by unfold PmL; omega)]; exact q30, by rw [a5 _ _ (by unfold PcL; omega), ← hc0]; simp [rd_up], by rw [a6 _ _ (by unfold PmL; omega)]; exact q29, a4⟩
  have R1 := R0.L a5 a6
  have X1 : NX t (160 * t) c1 := ⟨by rw [a5 _ _ (by unfold PcL; omega), ← hc0]; simp [rd_up], Nat.le_refl _, by omega⟩
  have kc1 : Kp (PcT t) c c1 := kc0.tr (a5.mono (fun q k h => by unfold PcL at h; unfold PcT; omega))
  have km1 : Kp PmU m m1 := km0.tr (a6.mono (fun q k h => by unfold PmL at h; unfold PmU; omega))
  have h01 : c1.1 5 0 = nI t := by rw [kc1 _ _ (by unfold PcT; omega)]; exact h0
  have T1 := G1.2.2.2.2.2.1
  have mnvU : ∀ {m' : vMH}, Kp PmU m m' → mnv m' = mnv m := by
    intro m' k
    funext i
    unfold mnv
    by_cases hi : i < 6
    · rw [if_pos hi, if_pos hi, k _ _ (by unfold PmU; omega)]
    · rw [if_neg hi, if_neg hi]
  have PmRU : ∀ {a b : vMH}, Kp PmR a b → Kp PmU a b := fun k => k.mono (fun q k h => by unfold PmR at h; unfold PmU; omega)
  have hread : ∀ W, X6_read (nI t) W m = ((isW 9 m1).bind fun q4 => ((X6_part q4 m1).bind fun q6 => (wj2 (fun (s8 : Int32) (mh9 : vMH) => (wj2 (fun (s11 : Int32) (mh12 : vMH) => (wj1 (fun (mh14 : vMH) => (if W = 0 then (some (q6.1, mh14)) else (if W = 1 then (some (s8, mh14)) else (some (s11, mh14))))) fun J15 => (if (mh12.1 0 30) = 0 then (if (mh12.1 0 26) = 0 then (J15 mh12) else (J15 (X6_fail mh12))) else (J15 mh12)))) fun J13 => (if (mh9.1 0 30) = 0 then ((isW 11 mh9).bind fun q21 => ((X6_part q21 mh9).bind fun q23 => (J13 q23.1 q23.2))) else (J13 0 mh9)))) fun J10 => (if (q6.2.1 0 30) = 0 then ((isW 10 q6.2).bind fun q26 => ((X6_part q26 q6.2).bind fun q28 => (J10 q28.1 q28.2))) else (J10 0 q6.2))))) := by
    intro W
    unfold X6_read
    rw [chk_t (inb_nI ht (by decide)), jn_nI (by omega), hm2, show (160 : Int32) = nI 160 from rfl, pk_mul, hm0, a2, bd_s]
    rfl
  have hC : X1_readTape c = lq2 4096 (X1_readTape_L23 fJ) 0 c1 := by
    unfold X1_readTape
    rw [hbeg, a1, bd_s]
    rfl
  simp only [wj1, wj2] at hread
  rw [hC]
  have bad : ∀ (w : Nat) (N : Nat) (cb : vMH) (mb : vMH) (x : Nat), w ≤ 3 → 4 < N → NX t x cb → Kp (PcT t) c cb → BD cb mb → ∃ (f : Int32) (c' : vMH), lq2 N (X1_readTape_L23 fJ) (nI w) cb = some (f, c') ∧ Kp (PcU t) c c' ∧ c'.1 6 0 = 0 ∧ ∃ q : Nat, q ≤ 160 ∧ f = nI q ∧ mb.1 0 30 = 1 ∧ mb.1 0 31 = nI q := by
    intro w N cb mb x hw hN X kb B
    obtain ⟨c', y1, y2, y3, y4⟩ := tail_bad ht fJ (3 - w) w (by omega) N (by omega) cb x (by rw [kb _ _ (by unfold PcT; omega)]; exact h0) X B.2.1 B.n6
    obtain ⟨g1, g2, q, g3, g4, g5⟩ := B
    refine ⟨_, _, by rw [y1, fJ_bad y2 (by rw [y3, g4]; exact nIm1 (by omega))], ((PcTU (kb.tr y4)).up (Or.inl (by unfold PcT; omega))).up (Or.inr ⟨rfl, rfl⟩), by simp [rd_up], q, g3, by rw [y3, g4], g1, g5⟩
  obtain ⟨c2, v0, m2, b1, b2, x2, n1, n2, n3, n4, n5, n6⟩ := part_ok h01 R1 G1 X1 (by omega) (w := 0) (by decide)
  have e9 : isW 9 m1 = _ := T1.w 9 (by decide) (cw (9 + 0)) rfl
  simp only [e9, bd_s, b2] at hread
  have kc2 := kc1.tr n4
  have km2 := km1.tr (PmRU n5)
  have s1 : lq2 4096 (X1_readTape_L23 fJ) 0 c1 = lq2 4095 (X1_readTape_L23 fJ) (nI 1) c2 := by
    rw [show (4096 : Nat) = 4095 + 1 from rfl, lq2_s, L23_s (by decide), show (0 : Int32) = nI 0 from rfl, b1, bd_s, nI_1]
  rw [s1]
  rcases n6 with B | ⟨p2, g1, g2, g3, g4, g5, g6⟩
  · obtain ⟨f, c', y1, y2, y3, y4⟩ := bad 1 4095 c2 m2 x2 (by decide) (by decide) n1 kc2 B
    have hb30 : ¬ m2.1 0 30 = 0 := by rw [B.1]; decide
    refine ⟨f, c', v0, 0, 0, m2, y1, fun W => ?_, km2, y2, y3, Or.inr y4⟩
    rw [hread W]
    simp only [hb30, if_false]
    rfl
  · have R2 := R1.T n4 n5
    have h02 : c2.1 5 0 = nI t := by rw [kc2 _ _ (by unfold PcT; omega)]; exact h0
    have T2 := g1.2.2.2.2.2.1
    obtain ⟨c3, v1, m3, b3, b4, x3, r1, r2, r3, r4, r5, r6⟩ := part_ok h02 R2 g1 n1 (by omega) (w := 1) (by decide)
    have e10 : isW 10 m2 = _ := T2.w 10 (by decide) (cw (9 + 1)) rfl
    simp only [g1.1, if_true, e10, bd_s, b4] at hread
    have kc3 := kc2.tr r4
    have km3 := km2.tr (PmRU r5)
    have s2 : lq2 4095 (X1_readTape_L23 fJ) (nI 1) c2 = lq2 4094 (X1_readTape_L23 fJ) (nI 2) c3 := by
      rw [show (4095 : Nat) = 4094 + 1 from rfl, lq2_s, L23_s (by decide), b3, bd_s, nI_1]
    rw [s2]
    rcases r6 with B | ⟨p3, f1, f2, f3, f4, f5, f6⟩
    · obtain ⟨f, c', y1, y2, y3, y4⟩ := bad 2 4094 c3 m3 x3 (by decide) (by decide) r1 kc3 B
      have hb30 : ¬ m3.1 0 30 = 0 := by rw [B.1]; decide
      refine ⟨f, c', v0, v1, 0, m3, y1, fun W => ?_, km3, y2, y3, Or.inr y4⟩
      rw [hread W]
      simp only [hb30, if_false]
      rfl
    · have R3 := R2.T r4 r5
      have h03 : c3.1 5 0 = nI t := by rw [kc3 _ _ (by unfold PcT; omega)]; exact h0
      have T3 := f1.2.2.2.2.2.1
      obtain ⟨c4, v2, m4, b5, b6, x4, u1, u2, u3, u4, u5, u6⟩ := part_ok h03 R3 f1 r1 (by omega) (w := 2) (by decide)
      have e11 : isW 11 m3 = _ := T3.w 11 (by decide) (cw (9 + 2)) rfl
      simp only [f1.1, if_true, e11, bd_s, b6] at hread
      have kc4 := kc3.tr u4
      have km4 := km3.tr (PmRU u5)
      have s3 : lq2 4094 (X1_readTape_L23 fJ) (nI 2) c3 = lq2 4093 (X1_readTape_L23 fJ) (nI 3) c4 := by
        rw [show (4094 : Nat) = 4093 + 1 from rfl, lq2_s, L23_s (by decide), b5, bd_s, nI_1]
      rw [s3]
      rcases u6 with B | ⟨p4, w1, w2, w3, w4, w5, w6⟩
      · obtain ⟨f, c', y1, y2, y3, y4⟩ := bad 3 4093 c4 m4 x4 (by decide) (by decide) u1 kc4 B
        have hb30 : ¬ m4.1 0 30 = 0 := by rw [B.1]; decide
        refine ⟨f, c', v0, v1, v2, m4, y1, fun W => ?_, km4, y2, y3, Or.inr y4⟩
        rw [hread W]
        simp only [hb30, if_false]
        rfl
      · have T4 := w1.2.2.2.2.2.1
        have hend := T4.2.2.2.2.1 w1.1
        have hp4 : p4 ≤ z := w1.2.2.2.2.2.2.1
        have s4 : lq2 4093 (X1_readTape_L23 fJ) (nI 3) c4 = fJ c4 := by
          rw [show (4093 : Nat) = 4092 + 1 from rfl, lq2_s, X1_readTape_L23, if_pos (by decide)]
        rw [s4]
        simp only [w1.1, if_true] at hread
        by_cases ht19 : c4.1 6 5 = -19
        · have h26 := hend.mpr ht19
          refine ⟨-1, v_up c4 6 0 0, v0, v1, v2, m4, ?_, fun W => ?_, km4, (PcTU kc4).up (Or.inr ⟨rfl, rfl⟩), by simp [rd_up], Or.inl ⟨rfl, w1.1, x2, x3, x4, by omega, by omega, by omega, by omega, ?_, ?_, ?_, ?_, ?_, ?_⟩⟩
          · unfold fJ
            simp only [wj1]
            rw [if_pos ht19, w1.2.1]
          · rw [hread W]
            simp only [h26, if_true]
            rfl
          · rw [rd_up, if_neg (by omega), w5 _ (by omega), f5 _ (by omega)]; exact g4
          · rw [rd_up, if_neg (by omega), w5 _ (by omega)]; exact f4
          · rw [rd_up, if_neg (by omega)]; exact w4
          · have := g6 []
            rw [mnvU km1] at this
            rw [seg_congr (g := c2.1 25) _ _ (fun i h1 h2 => by rw [rd_up, if_neg (by omega), u3 _ (by omega), r3 _ (by omega)])]
            exact this
          · have := f6 []
            rw [mnvU km2] at this
            rw [seg_congr (g := c3.1 25) _ _ (fun i h1 h2 => by rw [rd_up, if_neg (by omega), u3 _ (by omega)])]
            exact this
          · have := w6 []
            rw [mnvU km3] at this
            rw [seg_congr (g := c4.1 25) _ _ (fun i h1 h2 => by rw [rd_up, if_neg (by omega)])]
            exact this
        · have h26 : ¬ m4.1 0 26 = 0 := fun z => ht19 (hend.mp z)
          obtain ⟨y1, y2, y3⟩ := refuse_gd hz w1
          obtain ⟨g1', g2', q, g3', g4', g5'⟩ := y1
          refine ⟨nI q, v_up (X1_refuse c4) 6 0 0, v0, v1, v2, X6_fail m4, ?_, fun W => ?_, km4.tr (y3.mono (fun q k h => by unfold PmU; omega)), ((PcTU kc4).tr (y2.mono (fun q k h => Or.inl (by unfold PcT; omega)))).up (Or.inr ⟨rfl, rfl⟩), by simp [rd_up], Or.inr ⟨q, g3', rfl, g1', g5'⟩⟩
          · unfold fJ
            simp only [wj1]
            rw [if_neg ht19, g4']
          · rw [hread W]
            simp only [h26, if_false]
            rfl
end TAPE
