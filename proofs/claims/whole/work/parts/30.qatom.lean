/-! PURE PART, expressions: atoms, not, and all ranks -/
section ATOM
variable {t z o p x : Nat} {c m : vMH}
def ATM (t z o : Nat) : Prop := ∀ n n' : Nat, 7 * (5 - o) + 1 ≤ n → 6 * (5 - o) + 1 ≤ n' → INN t z o (X1_rec n 1 0 (nI o)) (X6_rec n' 0)
def EXP (t z k o : Nat) : Prop := ∀ n n' : Nat, 7 * (5 - o) + (7 - k) ≤ n → 6 * (5 - o) + (6 - k) ≤ n' → INN t z o (X1_rec n 0 (nI k) (nI o)) (X6_rec n' (5 - k))
theorem open_ok (R : RS t z c m) (G : GD z o c m p) (ho : o ≤ 5) (h1 : c.1 6 5 ≠ -20) (h2 : c.1 6 5 ≠ -19) : (o = 5 ∧ X1_mayOpen (nI o) c = some (0, X1_refuse c) ∧ X6_opens m = some (0, X6_fail m)) ∨ (o < 5 ∧ ∃ (c1 m1 : vMH) (p1 : Nat), X1_mayOpen (nI o) c = some (1, c1) ∧ X6_opens m = some (1, m1) ∧ p < p1 ∧ GD z (o + 1) c1 m1 p1 ∧ Kp PcL c c1 ∧ Kp PmR m m1) := by
  unfold X1_mayOpen X6_opens
  by_cases h : o = 5
  · left
    rw [G.2.2.1, h]
    exact ⟨rfl, by rw [if_neg (by decide)], by rw [if_pos (by decide)]⟩
  · right
    have hlt : o < 5 := by omega
    have k2 : Kp PmR m (v_up m 0 29 (nI (o + 1))) := Kp.rf.up (by unfold PmR; omega)
    obtain ⟨c1, m1, p1, a1, a2, a3, a4, a5, a6⟩ := adv_gd (R.R Kp.rf k2) (G.op (y := o + 1)) h1 h2
    refine ⟨hlt, c1, m1, p1, ?_, ?_, a3, a4, a5, k2.tr (PmLR a6)⟩
    · rw [if_pos (by rw [show (5 : Int32) = nI 5 from rfl]; exact nI_lt hlt (by decide)), a1, bd_s]
    · rw [G.2.2.1, if_neg (by rw [show (5 : Int32) = nI 5 from rfl]; intro z; exact h ((nI_eq (by omega) (by decide)).mp z)), nI_1, a2, bd_s]
theorem mstep_neg {nv : Nat → Int32} {w : Int32} {S : List Int32} : mstep nv (-15) (w :: S) = -w :: S := by
  unfold mstep
  rw [if_pos (by decide), if_pos (by decide)]; rfl
theorem mstep_not {nv : Nat → Int32} {w : Int32} {S : List Int32} : mstep nv (-9) (w :: S) = (if w = 0 then 1 else 0) :: S := by
  unfold mstep
  rw [if_pos (by decide), if_pos (by decide)]; rfl
theorem name_ok {tok : Int32} (T : TK tok m) : X6_name m = if tok = -1 then some (m.1 0 17, m) else if tok = -2 then some (m.1 0 18, m) else if tok = -3 then some (m.1 0 19, m) else if tok = -4 then some (m.1 0 20, m) else if tok = -5 then some (m.1 0 21, m) else if tok = -6 then some (m.1 0 22, m) else some (0, X6_fail m) := by
  unfold X6_name
  rw [show X6_isWord 116 111 110 101 0 0 0 0 m = _ from T.w 0 (by decide) (-1) rfl, show X6_isWord 108 111 117 100 0 0 0 0 m = _ from T.w 1 (by decide) (-2) rfl, show X6_isWord 119 101 116 0 0 0 0 0 m = _ from T.w 2 (by decide) (-3) rfl, show X6_isWord 112 108 97 116 101 0 0 0 m = _ from T.w 3 (by decide) (-4) rfl, show X6_isWord 121 0 0 0 0 0 0 0 m = _ from T.w 4 (by decide) (-5) rfl, show X6_isWord 120 0 0 0 0 0 0 0 m = _ from T.w 5 (by decide) (-6) rfl]
  simp only [bd_s]
  have zz : ∀ {ρ : Type} (P : Prop) (i : Decidable P) (A B : ρ), (if (if P then (1 : Int32) else 0) = 0 then A else B) = if P then B else A := by
    intro ρ P i A B
    by_cases h : P
    · rw [if_pos h, if_pos h, if_neg (by decide)]
    · rw [if_neg h, if_neg h, if_pos rfl]
  simp only [zz]
theorem atom_ok (ho : o ≤ 5) (ihA : o < 5 → ATM t z (o + 1)) (ihE : o < 5 → EXP t z 0 (o + 1)) : ATM t z o := by
  intro n n' hn hn' c m p x R G X hx
  obtain ⟨n, rfl⟩ : ∃ k, n = k + 1 := ⟨n - 1, by omega⟩
  obtain ⟨n', rfl⟩ : ∃ k, n' = k + 1 := ⟨n' - 1, by omega⟩
  have T := G.2.2.2.2.2.1
  have hz := R.2.1
  show ∃ (c' : vMH) (w : Int32) (m' : vMH), X1_readOne_B (X1_rec n 0) (fun b0 => X1_rec n 1 0 b0) (nI o) c = some c' ∧ X6_atom_B (X6_rec n' 5) (X6_rec n' 0) m = some (w, m') ∧ _
  unfold X1_readOne_B X6_atom_B
  simp only [wj0, wj1]
  rw [T.s 4 (by decide) 45 (-13) rfl rfl, T.s 0 (by decide) 40 (-16) rfl rfl]
  have refuse : ∃ (c' : vMH) (w : Int32) (m' : vMH), some (X1_refuse c) = some c' ∧ some ((0 : Int32), X6_fail m) = some (w, m') ∧ EO t z o 0 (fun S => S) (fun S => w :: S) c m p x c' m' := by
    obtain ⟨r1, r2, r3⟩ := refuse_gd hz G
    exact ⟨_, _, _, rfl, rfl, EO.bad X (r2.mono (fun q k h => by unfold PcR; omega)) (r3.mono (fun q k h => by unfold PmR; omega)) (fun j => r2 _ _ (by omega)) (r2 _ _ (by omega)) r1⟩
  by_cases h1 : c.1 6 5 = -13
  · -- a sign ahead
    rw [if_pos (show c.1 6 5 < -6 by rw [h1]; decide), if_pos h1, if_pos h1, if_neg (show ¬ (1 : Int32) = 0 by decide)]
    rcases open_ok R G ho (by rw [h1]; decide) (by rw [h1]; decide) with ⟨-, q1, q2⟩ | ⟨hlt, c1, m1, p1, q1, q2, q3, q4, q5, q6⟩
    · rw [q1, q2, bd_s, bd_s]
      exact refuse
    · rw [q1, q2, bd_s, bd_s]
      dsimp only
      rw [if_neg (show ¬ (1 : Int32) = 0 by decide), if_neg (show ¬ (1 : Int32) = 0 by decide), nI_1]
      have R1 := R.R (PcLR q5) q6
      obtain ⟨c2, w, m2, b1, b2, b3⟩ := ihA hlt n n' (by omega) (by omega) c1 m1 p1 x R1 q4 (X.kp q5 (by unfold PcL; omega)) (by omega)
      obtain ⟨c3, d1, d2, -⟩ := (EO.close (EO.pre q5 q6 q3 b3)).wr R.1 hz hx (step := -15) (fin' := fun S => -w :: S) (fun S => mstep_neg)
      rw [b1, b2, bd_s, bd_s, d1, bd_s]
      exact ⟨c3, -w, _, rfl, rfl, d2⟩
  · rw [if_neg h1, if_neg h1, if_pos (show (0 : Int32) = 0 from rfl)]
    by_cases h2 : c.1 6 5 = -16
    · -- a bracket
      rw [if_pos (show c.1 6 5 < -6 by rw [h2]; decide), if_pos h2, if_pos h2, if_neg (show ¬ (1 : Int32) = 0 by decide)]
      rcases open_ok R G ho (by rw [h2]; decide) (by rw [h2]; decide) with ⟨-, q1, q2⟩ | ⟨hlt, c1, m1, p1, q1, q2, q3, q4, q5, q6⟩
      · rw [q1, q2, bd_s, bd_s]
        exact refuse
      · rw [q1, q2, bd_s, bd_s]
        dsimp only
        rw [if_neg (show ¬ (1 : Int32) = 0 by decide), if_neg (show ¬ (1 : Int32) = 0 by decide), nI_1]
        have R1 := R.R (PcLR q5) q6
        obtain ⟨c2, w, m2, b1, b2, b3⟩ := ihE hlt n n' (by omega) (by omega) c1 m1 p1 x R1 q4 (X.kp q5 (by unfold PcL; omega)) (by omega)
        have b1' : X1_rec n 0 0 (nI (o + 1)) c1 = some c2 := b1
        have b2' : X6_rec n' 5 m1 = some (w, m2) := b2
        rw [b1', b2', bd_s, bd_s]
        dsimp only
        obtain ⟨x2, y1, y2, y3, y4, y5, y6⟩ := EO.pre q5 q6 q3 b3
        have R2 := R.R y4 y5
        unfold X1_expect
        rcases y6 with B | ⟨p2, g1, g2, g3, g4⟩
        · obtain ⟨r1, r2, r3⟩ := refuse_bd B
          rw [if_neg (show ¬ c2.1 6 5 = -17 by rw [B.2.1]; decide), bd_s, isSign_no (fun z => absurd (B.1.symm.trans z.1) (by decide)), if_pos rfl, r3, if_neg (show ¬ m2.1 0 30 = 0 by rw [B.1]; decide)]
          refine ⟨_, w, _, rfl, rfl, ⟨x2, y1.kp r2 (by omega), y2, fun i hi => by rw [r2 _ _ (by omega)]; exact y3 i hi, y4.tr (r2.mono (fun q k h => by unfold PcR; omega)), y5.up (by unfold PmR; omega), Or.inl ?_⟩⟩
          rw [r3] at r1
          exact r1.km (P := fun q k => q = 0 ∧ k = 29) (Kp.rf.up ⟨rfl, rfl⟩) (fun j _ _ => by omega)
        · have T2 := g1.2.2.2.2.2.1
          rw [T2.s 1 (by decide) 41 (-17) rfl rfl]
          by_cases h3 : c2.1 6 5 = -17
          · rw [if_pos h3, if_pos h3, if_neg (show ¬ (1 : Int32) = 0 by decide), if_pos g1.1, g1.2.2.1, nI_pred]
            have k29 : Kp PmR m2 (v_up m2 0 29 (nI o)) := Kp.rf.up (by unfold PmR; omega)
            obtain ⟨c3, m3, p3, a1, a2, a3, a4, a5, a6⟩ := adv_gd (R2.R Kp.rf k29) (g1.op (y := o)) (by rw [h3]; decide) (by rw [h3]; decide)
            rw [a1, a2, bd_s, bd_s]
            refine ⟨c3, w, m3, rfl, rfl, ⟨x2, y1.kp a5 (by unfold PcL; omega), y2, fun i hi => by rw [a5 _ _ (by unfold PcL; omega)]; exact y3 i hi, y4.tr (PcLR a5), (y5.tr k29).tr (PmLR a6), Or.inr ⟨p3, a4, by omega, by omega, fun S => ?_⟩⟩⟩
            rw [seg_congr (g := c2.1 25) (x2 - x) x (fun i _ _ => a5 _ _ (by unfold PcL; omega))]
            exact g4 S
          · obtain ⟨r1, r2, r3⟩ := refuse_gd hz g1
            rw [if_neg h3, if_neg h3, bd_s, if_pos rfl, if_neg (show ¬ (X6_fail m2).1 0 30 = 0 by rw [r1.1]; decide)]
            exact ⟨_, w, _, rfl, rfl, ⟨x2, y1.kp r2 (by omega), y2, fun i hi => by rw [r2 _ _ (by omega)]; exact y3 i hi, y4.tr (r2.mono (fun q k h => by unfold PcR; omega)), (y5.tr (r3.mono (fun q k h => by unfold PmR; omega))).up (by unfold PmR; omega), Or.inl (r1.km (P := fun q k => q = 0 ∧ k = 29) (Kp.rf.up ⟨rfl, rfl⟩) (fun j _ _ => by omega))⟩⟩
    · rw [if_neg h2, if_neg h2, if_pos (show (0 : Int32) = 0 from rfl)]
      -- a step that puts a value
      have push : ¬ c.1 6 5 < -6 → ∀ v : Int32, mstep (mnv m) (c.1 6 5) = (fun S => v :: S) → ∃ (c' m' : vMH), ((X3_write (c.1 6 5) c).bind fun q18 => (X1_advance q18).bind fun q20 => some q20) = some c' ∧ X6_next m = some m' ∧ EO t z o 0 (fun S => S) (fun S => v :: S) c m p x c' m' := by
        intro hge v hv
        have h20 : c.1 6 5 ≠ -20 := fun z => hge (by rw [z]; decide)
        have h19 : c.1 6 5 ≠ -19 := fun z => hge (by rw [z]; decide)
        have hpz := G.2.2.2.2.2.2.2.1 h19
        obtain ⟨c1, w1, w2, w3, w4, w5, w7⟩ := write_ok X (c.1 6 5)
        obtain ⟨w8, w9⟩ := w7 (by have := R.1; omega)
        have G1 := G.kc w3 (fun j _ _ => by omega)
        have e5 : c1.1 6 5 = c.1 6 5 := w3 _ _ (by omega)
        obtain ⟨c2, m2, p2, a1, a2, a3, a4, a5, a6⟩ := adv_gd (R.R w2 Kp.rf) G1 (by rw [e5]; exact h20) (by rw [e5]; exact h19)
        refine ⟨c2, m2, by rw [w1, bd_s, a1, bd_s], a2, ⟨x + 1, w8.kp a5 (by unfold PcL; omega), by omega, fun i hi => by rw [a5 _ _ (by unfold PcL; omega)]; exact w4 i hi, w2.tr (PcLR a5), PmLR a6, Or.inr ⟨p2, a4, by omega, by omega, fun S => ?_⟩⟩⟩
        rw [show x + 1 - x = 1 by omega, show seg (c2.1 25) x 1 = [c2.1 25 x] from rfl, a5 _ _ (by unfold PcL; omega), w9]
        show mstep (mnv m) (c.1 6 5) S = v :: S
        rw [hv]
      by_cases h3 : c.1 6 5 < -6
      · rw [if_pos h3]
        have hn : ¬ 0 ≤ (c.1 6 5).toInt := by
          rw [Int32.lt_iff_toInt_lt] at h3
          have e : ((-6 : Int32)).toInt = -6 := rfl
          omega
        have hnum : ¬ (m.1 0 30 = 0 ∧ m.1 0 26 = 2) := fun z => hn (T.2.2.1.mp z)
        rw [if_pos G.1, if_neg (fun z => hnum ⟨G.1, z⟩), if_pos G.1]
        by_cases h4 : m.1 0 26 = 1
        · rw [if_pos h4, name_ok T]
          have ne : ∀ j : Int32, ¬ j < -6 → ¬ c.1 6 5 = j := fun j hj z => hj (by rw [← z]; exact h3)
          rw [if_neg (ne _ (by decide)), if_neg (ne _ (by decide)), if_neg (ne _ (by decide)), if_neg (ne _ (by decide)), if_neg (ne _ (by decide)), if_neg (ne _ (by decide)), bd_s]
          have hf : ¬ (X6_fail m).1 0 30 = 0 := by rw [(refuse_gd hz G).1.1]; decide
          dsimp only
          rw [if_neg hf]
          exact refuse
        · rw [if_neg h4]
          exact refuse
      · rw [if_neg h3, if_pos G.1]
        by_cases h4 : 0 ≤ (c.1 6 5).toInt
        · have hnum := T.2.2.1.mpr h4
          rw [if_pos hnum.2]
          obtain ⟨c', m', y1, y2, y3⟩ := push h3 (c.1 6 5) (by
            funext S
            unfold mstep
            rw [if_neg h3, if_neg]
            rw [Int32.lt_iff_toInt_lt]
            have e : ((0 : Int32)).toInt = 0 := rfl
            omega)
          rw [y1, y2, bd_s, T.2.2.2.1 h4]
          exact ⟨c', _, m', rfl, rfl, y3⟩
        · have hnum : ¬ m.1 0 26 = 2 := fun z => h4 (T.2.2.1.mp ⟨G.1, z⟩)
          have h6 : -6 ≤ (c.1 6 5).toInt := by
            rw [Int32.lt_iff_toInt_lt] at h3
            have e : ((-6 : Int32)).toInt = -6 := rfl
            omega
          have hw := T.2.2.2.2.2 h6 (by omega)
          rw [if_neg hnum, if_pos G.1, if_pos hw.2, name_ok T]
          have hv : c.1 6 5 = -1 ∨ c.1 6 5 = -2 ∨ c.1 6 5 = -3 ∨ c.1 6 5 = -4 ∨ c.1 6 5 = -5 ∨ c.1 6 5 = -6 := by
            have e : ∀ i : Int32, (c.1 6 5).toInt = i.toInt → c.1 6 5 = i := fun i h => Int32.toInt_inj.mp h
            have h7 : (c.1 6 5).toInt = -1 ∨ (c.1 6 5).toInt = -2 ∨ (c.1 6 5).toInt = -3 ∨ (c.1 6 5).toInt = -4 ∨ (c.1 6 5).toInt = -5 ∨ (c.1 6 5).toInt = -6 := by omega
            rcases h7 with h | h | h | h | h | h
            · exact Or.inl (e (-1) h)
            · exact Or.inr (Or.inl (e (-2) h))
            · exact Or.inr (Or.inr (Or.inl (e (-3) h)))
            · exact Or.inr (Or.inr (Or.inr (Or.inl (e (-4) h))))
            · exact Or.inr (Or.inr (Or.inr (Or.inr (Or.inl (e (-5) h)))))
            · exact Or.inr (Or.inr (Or.inr (Or.inr (Or.inr (e (-6) h)))))
          have fin : ∀ (v : Int32), mstep (mnv m) (c.1 6 5) = (fun S => v :: S) → ∃ (c' : vMH) (w : Int32) (m' : vMH), ((X3_write (c.1 6 5) c).bind fun q18 => (X1_advance q18).bind fun q20 => some q20) = some c' ∧ ((some (v, m)).bind fun q7 => if q7.2.1 0 30 = 0 then (X6_next q7.2).bind fun q10 => some (q7.1, q10) else some (q7.1, q7.2)) = some (w, m') ∧ EO t z o 0 (fun S => S) (fun S => w :: S) c m p x c' m' := by
            intro v hv
            obtain ⟨c', m', y1, y2, y3⟩ := push h3 v hv
            rw [bd_s]
            dsimp only
            rw [if_pos G.1, y2, bd_s]
            exact ⟨c', v, m', y1, rfl, y3⟩
          have ms : ∀ (j : Int32) (i : Nat), c.1 6 5 = j → j < 0 → ¬ j < -6 → jn (-1 - j) = i → i < 6 → mstep (mnv m) (c.1 6 5) = (fun S => m.1 0 (17 + i) :: S) := by
            intro j i hj j1 j2 j3 j4
            funext S
            unfold mstep
            rw [hj, if_neg j2, if_pos j1, j3]
            unfold mnv
            rw [if_pos j4]
          rcases hv with h | h | h | h | h | h
          · rw [if_pos h]; exact fin _ (ms _ 0 h (by decide) (by decide) rfl (by decide))
          · rw [if_neg (by rw [h]; decide), if_pos h]; exact fin _ (ms _ 1 h (by decide) (by decide) rfl (by decide))
          · rw [if_neg (by rw [h]; decide), if_neg (by rw [h]; decide), if_pos h]; exact fin _ (ms _ 2 h (by decide) (by decide) rfl (by decide))
          · rw [if_neg (by rw [h]; decide), if_neg (by rw [h]; decide), if_neg (by rw [h]; decide), if_pos h]; exact fin _ (ms _ 3 h (by decide) (by decide) rfl (by decide))
          · rw [if_neg (by rw [h]; decide), if_neg (by rw [h]; decide), if_neg (by rw [h]; decide), if_neg (by rw [h]; decide), if_pos h]; exact fin _ (ms _ 4 h (by decide) (by decide) rfl (by decide))
          · rw [if_neg (by rw [h]; decide), if_neg (by rw [h]; decide), if_neg (by rw [h]; decide), if_neg (by rw [h]; decide), if_neg (by rw [h]; decide), if_pos h]; exact fin _ (ms _ 5 h (by decide) (by decide) rfl (by decide))
theorem exp5 (ha : ATM t z o) : EXP t z 5 o := by
  intro n n' hn hn' c m p x R G X hx
  obtain ⟨n, rfl⟩ : ∃ k, n = k + 1 := ⟨n - 1, by omega⟩
  obtain ⟨c', w, m', b1, b2, b3⟩ := ha n n' (by omega) (by omega) c m p x R G X hx
  refine ⟨c', w, m', ?_, b2, b3⟩
  show X1_readRank_B (X1_rec n 0) (fun b0 => X1_rec n 1 0 b0) (nI 5) (nI o) c = some c'
  unfold X1_readRank_B
  rw [if_neg (by decide)]
  dsimp only
  rw [b1, bd_s]
theorem exp_rank {k : Nat} {jt : Int32 → Prop} {L : qR → qL → qL} (hk : k ≤ 4) (hk2 : k ≠ 2) (J : JN k jt) (hL : qLP jt L) (hM : ∀ (n : Nat) (m : vMH), X6_rec (n + 1) (5 - k) m = (X6_rec n (5 - (k + 1)) m).bind fun q1 => lq2 4096 (L (X6_rec n (5 - (k + 1)))) q1.1 q1.2) (ih : EXP t z (k + 1) o) : EXP t z k o := by
  intro n n' hn hn' c m p x R G X hx
  obtain ⟨n, rfl⟩ : ∃ k, n = k + 1 := ⟨n - 1, by omega⟩
  obtain ⟨n', rfl⟩ : ∃ k, n' = k + 1 := ⟨n' - 1, by omega⟩
  obtain ⟨c', w, m', b1, b2, b3⟩ := rank_ok J hL (RC := X1_rec n 0) (ih n n' (by omega) (by omega)) c m p x R G X hx
  refine ⟨c', w, m', ?_, ?_, b3⟩
  · show X1_readRank_B (X1_rec n 0) (fun b0 => X1_rec n 1 0 b0) (nI k) (nI o) c = some c'
    unfold X1_readRank_B
    simp only [wj0, wj1]
    have hne : ¬ nI k = 2 := by
      rw [show (2 : Int32) = nI 2 from rfl]
      exact fun z => hk2 ((nI_eq (by omega) (by decide)).mp z)
    rw [if_pos (by rw [show (5 : Int32) = nI 5 from rfl]; exact nI_lt (by omega) (by decide)), if_neg hne, nI_1]
    simp only [hne, if_false]
    exact b1
  · rw [hM]; exact b2
theorem exp_not (ho : o ≤ 5) (ih : EXP t z 3 o) (ihN : o < 5 → EXP t z 2 (o + 1)) : EXP t z 2 o := by
  intro n n' hn hn' c m p x R G X hx
  obtain ⟨n, rfl⟩ : ∃ k, n = k + 1 := ⟨n - 1, by omega⟩
  obtain ⟨n', rfl⟩ : ∃ k, n' = k + 1 := ⟨n' - 1, by omega⟩
  have T := G.2.2.2.2.2.1
  have hz := R.2.1
  show ∃ (c' : vMH) (w : Int32) (m' : vMH), X1_readRank_B (X1_rec n 0) (fun b0 => X1_rec n 1 0 b0) (nI 2) (nI o) c = some c' ∧ X6_not_B (X6_rec n' 2) (X6_rec n' 3) m = some (w, m') ∧ _
  unfold X1_readRank_B X6_not_B
  simp only [wj0, wj1]
  rw [if_pos (show nI 2 < 5 by decide), if_pos (show nI 2 = 2 from rfl), show X6_isWord 110 111 116 0 0 0 0 0 m = _ from T.w 8 (by decide) (-9) rfl, bd_s]
  simp only [show (nI 2 = 2) = True from eq_true rfl, if_true]
  by_cases h1 : c.1 6 5 = -9
  · rw [if_pos h1, if_pos h1, if_neg (show ¬ (1 : Int32) = 0 by decide)]
    rcases open_ok R G ho (by rw [h1]; decide) (by rw [h1]; decide) with ⟨-, q1, q2⟩ | ⟨hlt, c1, m1, p1, q1, q2, q3, q4, q5, q6⟩
    · rw [q1, q2, bd_s, bd_s]
      obtain ⟨r1, r2, r3⟩ := refuse_gd hz G
      exact ⟨_, _, _, rfl, rfl, EO.bad X (r2.mono (fun q k h => by unfold PcR; omega)) (r3.mono (fun q k h => by unfold PmR; omega)) (fun j => r2 _ _ (by omega)) (r2 _ _ (by omega)) r1⟩
    · rw [q1, q2, bd_s, bd_s]
      dsimp only
      rw [if_neg (show ¬ (1 : Int32) = 0 by decide), if_neg (show ¬ (1 : Int32) = 0 by decide), nI_1]
      have R1 := R.R (PcLR q5) q6
      obtain ⟨c2, w, m2, b1, b2, b3⟩ := ihN hlt n n' (by omega) (by omega) c1 m1 p1 x R1 q4 (X.kp q5 (by unfold PcL; omega)) (by omega)
      have b1' : X1_rec n 0 2 (nI (o + 1)) c1 = some c2 := b1
      have b2' : X6_rec n' 3 m1 = some (w, m2) := b2
      obtain ⟨c3, d1, d2, -⟩ := (EO.close (EO.pre q5 q6 q3 b3)).wr R.1 hz hx (step := -9) (fin' := fun S => (if w = 0 then 1 else 0) :: S) (fun S => mstep_not)
      rw [b1', b2', bd_s, bd_s, d1, bd_s]
      dsimp only
      by_cases hw : w = 0
      · rw [if_pos hw]; rw [if_pos hw] at d2
        exact ⟨c3, 1, _, rfl, rfl, d2⟩
      · rw [if_neg hw]; rw [if_neg hw] at d2
        exact ⟨c3, 0, _, rfl, rfl, d2⟩
  · rw [if_neg h1, if_neg h1, if_pos (show (0 : Int32) = 0 from rfl), nI_1]
    obtain ⟨c1, v, m1, b1, b2, b3⟩ := ih n n' (by omega) (by omega) c m p x R G X hx
    have b2' : X6_rec n' 2 m = some (v, m1) := b2
    rw [b1, b2', bd_s, bd_s]
    dsimp only
    obtain ⟨x1, y1, y2, y3, y4, y5, y6⟩ := b3
    have R1 := R.R y4 y5
    have stop : TK (c1.1 6 5) m1 → ¬ (c1.1 6 5 = -10 ∨ c1.1 6 5 = -11) → X6_isSign 60 m1 = 0 ∧ X6_isSign 61 m1 = 0 := by
      intro T1 h
      exact ⟨by rw [T1.s 6 (by decide) 60 (-10) rfl rfl, if_neg (fun z => h (Or.inl z))], by rw [T1.s 7 (by decide) 61 (-11) rfl rfl, if_neg (fun z => h (Or.inr z))]⟩
    rcases y6 with B | ⟨p1, g1, g2, g3, g4⟩
    · have hnj : ¬ (c1.1 6 5 = -10 ∨ c1.1 6 5 = -11) := by rw [B.2.1]; decide
      obtain ⟨s1, s2⟩ := stop (by rw [B.2.1]; exact TK_bad B.1) hnj
      rw [show (4096 : Nat) = 4095 + 1 from rfl, lq2_s, stop_C JN_2 hnj, s1, s2, if_pos rfl, if_pos rfl]
      exact ⟨c1, v, m1, rfl, rfl, ⟨x1, y1, y2, y3, y4, y5, Or.inl B⟩⟩
    · have T1 := g1.2.2.2.2.2.1
      by_cases hj : c1.1 6 5 = -10 ∨ c1.1 6 5 = -11
      · have h2 := JN_2.2 _ hj
        obtain ⟨c2, m2, p2, a1, a2, a3, a4, a5, a6⟩ := adv_gd R1 g1 h2.1 h2.2.1
        have hx1 : x1 ≤ 160 * t + p1 := by omega
        obtain ⟨c3, w, m3, e1, e2, e3⟩ := ih n n' (by omega) (by omega) c2 m2 p2 x1 (R1.L a5 a6) a4 (y1.kp a5 (by unfold PcL; omega)) (by omega)
        have e2' : X6_rec n' 2 m2 = some (w, m3) := e2
        have e4 : EO t z o 0 (fun S => v :: S) (fun S => w :: v :: S) c2 m2 p2 x1 c3 m3 := by
          obtain ⟨x', u1, u2, u3, u4, u5, u6⟩ := e3
          exact ⟨x', u1, u2, u3, u4, u5, u6.imp id (fun ⟨p', f1, f2, f3, f4⟩ => ⟨p', f1, f2, f3, fun S => f4 (v :: S)⟩)⟩
        have e5 := EO.pre a5 (PmLR a6) a3 e4
        obtain ⟨c4, d1, d2, -⟩ := e5.wr R.1 hz hx1 (step := c1.1 6 5) (fin' := fun S => X3_joined (c1.1 6 5) v w :: S) (fun S => mstep_j h2.2.2.1 h2.2.2.2)
        have d3 := EO.tr y4 y5 y2 y3 g2 g3 g4 d2
        have eC : lq2 4096 (X1_readRank_L75 (nI 2) (nI o) 1 (X1_rec n 0)) 0 c1 = some c4 := by
          rw [show (4096 : Nat) = 4094 + 1 + 1 from rfl, lq2_s, X1_readRank_L75, if_neg (by decide), if_neg (fun z => (JN_2.1 _).mp z hj), a1, bd_s, nI_1, e1, bd_s, d1, bd_s, lq2_s, X1_readRank_L75, if_pos (by decide)]
        rw [eC]
        rcases hj with hj | hj
        · have t1 := T1.s 6 (by decide) 60 (-10) rfl rfl
          rw [if_pos hj] at t1
          have t2 := isSign_1 (s := 60) (m := m1) (by rw [t1]; decide)
          rw [t1, if_neg (show ¬ (1 : Int32) = 0 by decide), if_pos (show lg_cmp m1.2 60 = 0 from t2.2.2), a2, bd_s, e2', bd_s]
          dsimp only
          rw [if_neg (show ¬ (1 : Int32) = 0 by decide)]
          rw [hj] at d3
          by_cases hc : w ≤ v
          · rw [if_pos hc]
            rw [show X3_joined (-10) v w = 0 from if_pos hc] at d3
            exact ⟨c4, 0, m3, rfl, rfl, d3⟩
          · rw [if_neg hc]
            rw [show X3_joined (-10) v w = 1 from if_neg hc] at d3
            exact ⟨c4, 1, m3, rfl, rfl, d3⟩
        · have t1 := T1.s 6 (by decide) 60 (-10) rfl rfl
          rw [if_neg (by rw [hj]; decide)] at t1
          have t3 := T1.s 7 (by decide) 61 (-11) rfl rfl
          rw [if_pos hj] at t3
          have t2 := isSign_1 (s := 61) (m := m1) (by rw [t3]; decide)
          have t4 := isSign_0 t1 t2.1 t2.2.1
          rw [t1, t3, if_pos rfl, if_neg (show ¬ (1 : Int32) = 0 by decide), if_neg (show ¬ lg_cmp m1.2 60 = 0 from t4), a2, bd_s, e2', bd_s]
          dsimp only
          rw [hj] at d3
          by_cases hc : v = w
          · rw [if_pos hc]
            rw [show X3_joined (-11) v w = 1 from if_pos hc] at d3
            exact ⟨c4, 1, m3, rfl, rfl, d3⟩
          · rw [if_neg hc]
            rw [show X3_joined (-11) v w = 0 from if_neg hc] at d3
            exact ⟨c4, 0, m3, rfl, rfl, d3⟩
      · obtain ⟨s1, s2⟩ := stop T1 hj
        rw [show (4096 : Nat) = 4095 + 1 from rfl, lq2_s, stop_C JN_2 hj, s1, s2, if_pos rfl, if_pos rfl]
        exact ⟨c1, v, m1, rfl, rfl, ⟨x1, y1, y2, y3, y4, y5, Or.inr ⟨p1, g1, g2, g3, g4⟩⟩⟩
theorem exp_all : ∀ e o : Nat, o + e = 5 → ATM t z o ∧ EXP t z 0 o ∧ EXP t z 2 o := by
  intro e
  induction e with
  | zero =>
    intro o ho
    have a := atom_ok (t := t) (z := z) (o := o) (by omega) (fun h => absurd h (by omega)) (fun h => absurd h (by omega))
    have e5 := exp5 a
    have e4 := exp_rank (k := 4) (by decide) (by decide) JN_4 qLP_term (fun n m => rfl) e5
    have e3 := exp_rank (k := 3) (by decide) (by decide) JN_3 qLP_added (fun n m => rfl) e4
    have e2 := exp_not (by omega) e3 (fun h => absurd h (by omega))
    have e1 := exp_rank (k := 1) (by decide) (by decide) JN_1 qLP_both (fun n m => rfl) e2
    have e0 := exp_rank (k := 0) (by decide) (by decide) JN_0 qLP_either (fun n m => rfl) e1
    exact ⟨a, e0, e2⟩
  | succ e ih =>
    intro o ho
    obtain ⟨i1, i2, i3⟩ := ih (o + 1) (by omega)
    have a := atom_ok (t := t) (z := z) (o := o) (by omega) (fun _ => i1) (fun _ => i2)
    have e5 := exp5 a
    have e4 := exp_rank (k := 4) (by decide) (by decide) JN_4 qLP_term (fun n m => rfl) e5
    have e3 := exp_rank (k := 3) (by decide) (by decide) JN_3 qLP_added (fun n m => rfl) e4
    have e2 := exp_not (by omega) e3 (fun _ => i3)
    have e1 := exp_rank (k := 1) (by decide) (by decide) JN_1 qLP_both (fun n m => rfl) e2
    have e0 := exp_rank (k := 0) (by decide) (by decide) JN_0 qLP_either (fun n m => rfl) e1
    exact ⟨a, e0, e2⟩
/-- an expression, from its first token on -/
theorem expr_ok : INN t z 0 (X1_readRank 0 0) X6_either := (exp_all 5 0 rfl).2.1 64 64 (by decide) (by decide)
end ATOM
