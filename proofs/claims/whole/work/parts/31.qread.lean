/-! PURE PART, a text is read -/
def PcT (t q k : Nat) : Prop := (q = 6 ∧ 3 ≤ k ∧ k ≤ 6) ∨ (q = 5 ∧ k = 5) ∨ (q = 25 ∧ 160 * t ≤ k) ∨ (q = 26 ∧ 3 * t ≤ k)
def partC (w : Int32) (c : vMH) : Option vMH := (X1_expect ((-21) - w) c).bind fun q12 => (X1_readRank 0 0 q12).bind fun q14 => (X3_endPart w q14).bind fun q16 => X1_expect (-18) q16
section READ
variable {t z p x : Nat} {c m : vMH}
theorem L23_s {J : vMH → Option (Int32 × vMH)} {rec : Int32 → vMH → Option (Int32 × vMH)} {w : Int32} (h : ¬ 3 ≤ w) : X1_readTape_L23 J rec w c = (partC w c).bind fun q18 => rec (w + 1) q18 := by
  unfold X1_readTape_L23 partC
  rw [if_neg h]
  simp only [Option.bind_assoc]
theorem PcRT {c' : vMH} (k : Kp (PcR t) c c') : Kp (PcT t) c c' := k.mono (fun q k h => by unfold PcR at h; unfold PcT; omega)
theorem endPart_ok (ht : t < 6) (h0 : c.1 5 0 = nI t) {w : Nat} (hw : w < 3) : X3_endPart (nI w) c = some (v_up c 26 (3 * t + w) (c.1 5 5)) := by
  unfold X3_endPart
  rw [h0, show (3 : Int32) = nI 3 from rfl, pk_mul, nI_add, if_neg (nI_pos (by omega)), if_neg (by rw [show (18 : Int32) = nI 18 from rfl]; exact nI_ge (by omega) (by decide)), chk_t (inb_nI (by omega) (by decide)), jn_nI (by omega), Nat.mul_comm]
theorem refuse_c (h : ¬ c.1 6 6 = -1) : X1_refuse c = v_up c 6 5 (-20) := by
  unfold X1_refuse
  simp only [wj1]
  rw [if_neg h]
theorem bad_rank (h5 : c.1 6 5 = -20) (h6 : ¬ c.1 6 6 = -1) (o : Nat) : ∀ (j k n : Nat), k + j = 5 → j + 2 ≤ n → X1_rec n 0 (nI k) (nI o) c = some (v_up c 6 5 (-20)) := by
  intro j
  induction j with
  | zero =>
    intro k n hk hn
    obtain ⟨n, rfl⟩ : ∃ i, n = i + 1 + 1 := ⟨n - 2, by omega⟩
    show X1_readRank_B (X1_rec (n + 1) 0) (fun b0 => X1_rec (n + 1) 1 0 b0) (nI k) (nI o) c = _
    unfold X1_readRank_B
    rw [if_neg (by rw [show k = 5 by omega]; decide)]
    show ((X1_readOne_B (X1_rec n 0) (fun b0 => X1_rec n 1 0 b0) (nI o) c).bind fun q28 => some q28) = _
    unfold X1_readOne_B
    rw [if_pos (by rw [h5]; decide), if_neg (by rw [h5]; decide), if_neg (by rw [h5]; decide), bd_s, refuse_c h6]
  | succ j ih =>
    intro k n hk hn
    obtain ⟨n, rfl⟩ : ∃ i, n = i + 1 := ⟨n - 1, by omega⟩
    have IH := ih (k + 1) n (by omega) (by omega)
    have e5 : (v_up c 6 5 (-20)).1 6 5 = -20 := by simp [rd_up]
    have hjo : X1_isJoint (nI k) (-20) = 0 := by
      have : k = 0 ∨ k = 1 ∨ k = 2 ∨ k = 3 ∨ k = 4 := by omega
      rcases this with rfl | rfl | rfl | rfl | rfl <;> rfl
    have hst : ∀ s5 : Int32, lq2 4096 (X1_readRank_L75 (nI k) (nI o) s5 (X1_rec n 0)) 0 (v_up c 6 5 (-20)) = some (v_up c 6 5 (-20)) := by
      intro s5
      rw [show (4096 : Nat) = 4095 + 1 from rfl, lq2_s, X1_readRank_L75]
      split
      · rfl
      · rw [e5, if_pos hjo]
    show X1_readRank_B (X1_rec n 0) (fun b0 => X1_rec n 1 0 b0) (nI k) (nI o) c = _
    unfold X1_readRank_B
    simp only [wj0, wj1]
    rw [if_pos (by rw [show (5 : Int32) = nI 5 from rfl]; exact nI_lt (by omega) (by decide)), nI_1 k, IH, bd_s, hst, hst, if_neg (show ¬ c.1 6 5 = -9 by rw [h5]; decide)]
    simp only [ite_self]
theorem partC_bad (ht : t < 6) (h0 : c.1 5 0 = nI t) (X : NX t x c) (h5 : c.1 6 5 = -20) (h6 : ¬ c.1 6 6 = -1) {w : Nat} (hw : w < 3) : ∃ c', partC (nI w) c = some c' ∧ c'.1 6 5 = -20 ∧ c'.1 6 6 = c.1 6 6 ∧ NX t x c' ∧ Kp (PcT t) c c' ∧ (∀ j, c'.1 25 j = c.1 25 j) := by
  have e : ∀ v : Int32, ¬ v = -20 → ∀ c : vMH, c.1 6 5 = -20 → ¬ c.1 6 6 = -1 → X1_expect v c = some (v_up c 6 5 (-20)) := by
    intro v hv c h5 h6
    unfold X1_expect
    rw [if_neg (by rw [h5]; exact fun z => hv z.symm), refuse_c h6]
  have hk : ¬ ((-21) - nI w : Int32) = -20 := by
    have : w = 0 ∨ w = 1 ∨ w = 2 := by omega
    rcases this with rfl | rfl | rfl <;> decide
  unfold partC
  rw [e _ hk c h5 h6, bd_s]
  have a5 : (v_up c 6 5 (-20)).1 6 5 = -20 := by simp [rd_up]
  have a6 : (v_up c 6 5 (-20)).1 6 6 = c.1 6 6 := by simp [rd_up]
  rw [show X1_readRank 0 0 (v_up c 6 5 (-20)) = _ from bad_rank a5 (by rw [a6]; exact h6) 0 5 0 64 rfl (by decide), bd_s]
  generalize hc2 : v_up (v_up c 6 5 (-20)) 6 5 (-20) = c2
  have k2 : Kp (PcT t) c c2 := by rw [← hc2]; exact (Kp.rf.up (by unfold PcT; omega)).up (by unfold PcT; omega)
  have k2b : Kp (fun q k => q = 6 ∧ k = 5) c c2 := by rw [← hc2]; exact (Kp.rf.up ⟨rfl, rfl⟩).up ⟨rfl, rfl⟩
  rw [endPart_ok ht (by rw [k2b _ _ (by omega)]; exact h0) hw, bd_s, e (-18) (by decide) _ (by rw [rd_up, if_neg (by omega), ← hc2]; simp [rd_up]) (by rw [rd_up, if_neg (by omega), k2b _ _ (by omega)]; exact h6)]
  refine ⟨_, rfl, by simp [rd_up], by rw [rd_up, if_neg (by omega), rd_up, if_neg (by omega), k2b _ _ (by omega)], ?_, (k2.up (by unfold PcT; omega)).up (by unfold PcT; omega), fun j => by rw [rd_up, if_neg (by omega), rd_up, if_neg (by omega), k2b _ _ (by omega)]⟩
  exact ⟨by rw [rd_up, if_neg (by omega), rd_up, if_neg (by omega), k2b _ _ (by omega)]; exact X.1, X.2⟩
/-- what a part leaves -/
def PO (t z w : Nat) (c m : vMH) (p x : Nat) (c' : vMH) (v : Int32) (m' : vMH) : Prop := ∃ x' : Nat, NX t x' c' ∧ x ≤ x' ∧ (∀ i, i < x → c'.1 25 i = c.1 25 i) ∧ Kp (PcT t) c c' ∧ Kp PmR m m' ∧ (BD c' m' ∨ ∃ p' : Nat, GD z 0 c' m' p' ∧ p ≤ p' ∧ x' ≤ x + (p' - p) ∧ c'.1 26 (3 * t + w) = nI x' ∧ (∀ k, k < 3 * t + w → c'.1 26 k = c.1 26 k) ∧ ∀ S, mrun (mnv m) (seg (c'.1 25) x (x' - x)) S = v :: S)
theorem key_tab : ∀ w, w < 3 → ((-21) - nI w : Int32) = cw (9 + w) ∧ cw (9 + w) ≠ -19 ∧ cw (9 + w) ≠ -20 := by decide +kernel
theorem BD.n6 (B : BD c m) : ¬ c.1 6 6 = -1 := by
  obtain ⟨_, _, q, g3, g4, _⟩ := B
  rw [g4]; exact nIm1 (by omega)
theorem BD.mk' {f c' : vMH} (B : BD c m) (h5 : c'.1 6 5 = -20) (h6 : c'.1 6 6 = c.1 6 6) (h30 : f.1 0 30 = m.1 0 30) (h31 : f.1 0 31 = m.1 0 31) : BD c' f := by
  obtain ⟨g1, g2, q, g3, g4, g5⟩ := B
  exact ⟨by rw [h30]; exact g1, h5, q, g3, by rw [h6]; exact g4, by rw [h31]; exact g5⟩
theorem part_ok (h0 : c.1 5 0 = nI t) (R : RS t z c m) (G : GD z 0 c m p) (X : NX t x c) (hx : x ≤ 160 * t + p) {w : Nat} (hw : w < 3) : ∃ (c' : vMH) (v : Int32) (m' : vMH), partC (nI w) c = some c' ∧ X6_part (if c.1 6 5 = cw (9 + w) then 1 else 0) m = some (v, m') ∧ PO t z w c m p x c' v m' := by
  have ht := R.1
  have hz := R.2.1
  obtain ⟨k1, k2, k3⟩ := key_tab w hw
  unfold X6_part
  simp only [wj1, wj2]
  by_cases hk : c.1 6 5 = cw (9 + w)
  · rw [if_pos hk, if_neg (show ¬ (1 : Int32) = 0 by decide), if_pos G.1]
    obtain ⟨c1, m1, p1, a1, a2, a3, a4, a5, a6⟩ := adv_gd R G (by rw [hk]; exact k3) (by rw [hk]; exact k2)
    have E1 : X1_expect ((-21) - nI w) c = some c1 := by
      unfold X1_expect
      rw [k1, if_pos hk, a1, bd_s]
    have R1 := R.L a5 a6
    have X1 := X.kp (c' := c1) a5 (by unfold PcL; omega)
    obtain ⟨c2, v, m2, b1, b2, b3⟩ := expr_ok c1 m1 p1 x R1 a4 X1 (by omega)
    rw [a2, bd_s, if_pos a4.1, b2, bd_s]
    dsimp only
    obtain ⟨x2, y1, y2, y3, y4, y5, y6⟩ := EO.pre a5 (PmLR a6) a3 b3
    have h02 : c2.1 5 0 = nI t := by rw [y4 _ _ (by unfold PcR; omega)]; exact h0
    have E3 := endPart_ok ht h02 hw
    have kE : Kp (fun q k => q = 26 ∧ k = 3 * t + w) c2 (v_up c2 26 (3 * t + w) (c2.1 5 5)) := Kp.rf.up ⟨rfl, rfl⟩
    have kET : Kp (PcT t) c2 (v_up c2 26 (3 * t + w) (c2.1 5 5)) := kE.mono (fun q k h => by unfold PcT; omega)
    have X3 : NX t x2 (v_up c2 26 (3 * t + w) (c2.1 5 5)) := y1.kp kE (by omega)
    have chain : ∀ c4, X1_expect (-18) (v_up c2 26 (3 * t + w) (c2.1 5 5)) = some c4 → partC (nI w) c = some c4 := by
      intro c4 h
      unfold partC
      rw [E1, bd_s, b1, bd_s, E3, bd_s, h]
    rcases y6 with B | ⟨p2, g1, g2, g3, g4⟩
    · have B3 : BD (v_up c2 26 (3 * t + w) (c2.1 5 5)) m2 := B.kc kE (fun j _ _ => by omega)
      obtain ⟨r1, r2, r3⟩ := refuse_bd B3
      have E4 : X1_expect (-18) (v_up c2 26 (3 * t + w) (c2.1 5 5)) = some (X1_refuse (v_up c2 26 (3 * t + w) (c2.1 5 5))) := by
        unfold X1_expect
        rw [if_neg (by rw [B3.2.1]; decide)]
      rw [isSign_no (fun z => absurd (B.1.symm.trans z.1) (by decide)), if_pos rfl, r3, if_neg (show ¬ m2.1 0 30 = 0 by rw [B.1]; decide)]
      rw [r3] at r1
      exact ⟨_, v, m2, chain _ E4, rfl, x2, X3.kp r2 (by omega), y2, fun i hi => by rw [r2 _ _ (by omega), kE _ _ (by omega)]; exact y3 i hi, ((PcRT y4).tr kET).tr (r2.mono (fun q k h => by unfold PcT; omega)), y5, Or.inl r1⟩
    · have G3 : GD z 0 (v_up c2 26 (3 * t + w) (c2.1 5 5)) m2 p2 := g1.kc kE (fun j _ _ => by omega)
      have T3 := G3.2.2.2.2.2.1
      rw [T3.s 2 (by decide) 59 (-18) rfl rfl]
      have R3 : RS t z (v_up c2 26 (3 * t + w) (c2.1 5 5)) m2 := (R.R y4 y5).kp kE Kp.rf (Q := PmR) (by omega) (fun j => by omega) (by unfold PmR; omega) (by unfold PmR; omega) (fun j => by unfold PmR; omega)
      by_cases hs : (v_up c2 26 (3 * t + w) (c2.1 5 5)).1 6 5 = -18
      · rw [if_pos hs, if_neg (show ¬ (1 : Int32) = 0 by decide), if_pos G3.1]
        obtain ⟨c4, m4, p4, f1, f2, f3, f4, f5, f6⟩ := adv_gd R3 G3 (by rw [hs]; decide) (by rw [hs]; decide)
        have E4 : X1_expect (-18) (v_up c2 26 (3 * t + w) (c2.1 5 5)) = some c4 := by
          unfold X1_expect
          rw [if_pos hs, f1, bd_s]
        rw [f2, bd_s]
        refine ⟨c4, v, m4, chain _ E4, rfl, x2, X3.kp f5 (by unfold PcL; omega), y2, fun i hi => by rw [f5 _ _ (by unfold PcL; omega), kE _ _ (by omega)]; exact y3 i hi, ((PcRT y4).tr kET).tr (f5.mono (fun q k h => by unfold PcL at h; unfold PcT; omega)), y5.tr (PmLR f6), Or.inr ⟨p4, f4, by omega, by omega, ?_, fun k hk => ?_, fun S => ?_⟩⟩
        · rw [f5 _ _ (by unfold PcL; omega), rd_up, if_pos ⟨rfl, rfl⟩]; exact y1.1
        · rw [f5 _ _ (by unfold PcL; omega), kE _ _ (by omega), y4 _ _ (by unfold PcR; omega)]
        · rw [seg_congr (g := c2.1 25) (x2 - x) x (fun i _ _ => by rw [f5 _ _ (by unfold PcL; omega), kE _ _ (by omega)])]
          exact g4 S
      · obtain ⟨r1, r2, r3⟩ := refuse_gd hz G3
        have E4 : X1_expect (-18) (v_up c2 26 (3 * t + w) (c2.1 5 5)) = some (X1_refuse (v_up c2 26 (3 * t + w) (c2.1 5 5))) := by
          unfold X1_expect
          rw [if_neg hs]
        rw [if_neg hs, if_pos rfl, if_neg (show ¬ (X6_fail m2).1 0 30 = 0 by rw [r1.1]; decide)]
        exact ⟨_, v, _, chain _ E4, rfl, x2, X3.kp r2 (by omega), y2, fun i hi => by rw [r2 _ _ (by omega), kE _ _ (by omega)]; exact y3 i hi, ((PcRT y4).tr kET).tr (r2.mono (fun q k h => by unfold PcT; omega)), y5.tr (r3.mono (fun q k h => by unfold PmR; omega)), Or.inl r1⟩
  · obtain ⟨r1, r2, r3⟩ := refuse_gd hz G
    have E1 : X1_expect ((-21) - nI w) c = some (X1_refuse c) := by
      unfold X1_expect
      rw [k1, if_neg hk]
    have h01 : (X1_refuse c).1 5 0 = nI t := by rw [r2 _ _ (by omega)]; exact h0
    have hbad := bad_rank r1.2.1 r1.n6 0 5 0 64 rfl (by decide)
    generalize hc2 : v_up (X1_refuse c) 6 5 (-20) = c2 at hbad
    have k2b : Kp (fun q k => q = 6 ∧ k = 5) (X1_refuse c) c2 := by rw [← hc2]; exact Kp.rf.up ⟨rfl, rfl⟩
    have e25 : c2.1 6 5 = -20 := by rw [← hc2]; simp [rd_up]
    have kE : Kp (fun q k => q = 26 ∧ k = 3 * t + w) c2 (v_up c2 26 (3 * t + w) (c2.1 5 5)) := Kp.rf.up ⟨rfl, rfl⟩
    have n66 : ¬ (v_up c2 26 (3 * t + w) (c2.1 5 5)).1 6 6 = -1 := by rw [kE _ _ (by omega), k2b _ _ (by omega)]; exact r1.n6
    have E4 : X1_expect (-18) (v_up c2 26 (3 * t + w) (c2.1 5 5)) = some (v_up (v_up c2 26 (3 * t + w) (c2.1 5 5)) 6 5 (-20)) := by
      unfold X1_expect
      rw [if_neg (by rw [kE _ _ (by omega), e25]; decide), refuse_c n66]
    have chain : partC (nI w) c = some (v_up (v_up c2 26 (3 * t + w) (c2.1 5 5)) 6 5 (-20)) := by
      unfold partC
      rw [E1, bd_s, show X1_readRank 0 0 (X1_refuse c) = _ from hbad, bd_s, endPart_ok ht (by rw [k2b _ _ (by omega)]; exact h01) hw, bd_s, E4]
    have hf1 : ¬ (X6_fail m).1 0 30 = 0 := by rw [r1.1]; decide
    have hff : X6_fail (X6_fail m) = X6_fail m := by
      show (if (X6_fail m).1 0 30 = 0 then _ else X6_fail m) = X6_fail m
      rw [if_neg hf1]
    rw [if_neg hk, if_pos rfl, if_neg hf1, if_neg hf1, isSign_no (fun z => hf1 z.1), if_pos rfl, hff, if_neg hf1]
    have kk : Kp (PcT t) c (v_up (v_up c2 26 (3 * t + w) (c2.1 5 5)) 6 5 (-20)) := (((r2.mono (fun q k h => by unfold PcT; omega)).tr (k2b.mono (fun q k h => by unfold PcT; omega))).tr (kE.mono (fun q k h => by unfold PcT; omega))).up (by unfold PcT; omega)
    have e55 : (v_up (v_up c2 26 (3 * t + w) (c2.1 5 5)) 6 5 (-20)).1 5 5 = c.1 5 5 := by rw [rd_up, if_neg (by omega), kE _ _ (by omega), k2b _ _ (by omega), r2 _ _ (by omega)]
    refine ⟨_, 0, _, chain, rfl, x, ⟨by rw [e55]; exact X.1, X.2⟩, Nat.le_refl _, fun i hi => by rw [rd_up, if_neg (by omega), kE _ _ (by omega), k2b _ _ (by omega), r2 _ _ (by omega)], kk, r3.mono (fun q k h => by unfold PmR; omega), Or.inl (r1.mk' ?_ ?_ rfl rfl)⟩
    · rw [rd_up, if_pos ⟨rfl, rfl⟩]
    · rw [rd_up, if_neg (by omega), kE _ _ (by omega), k2b _ _ (by omega)]
end READ
