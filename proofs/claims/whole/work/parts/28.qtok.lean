/-! PURE PART, the token at hand, told by what the reference asks of it -/
def PcL (q k : Nat) : Prop := q = 6 ∧ 3 ≤ k ∧ k ≤ 5
def PmL (q k : Nat) : Prop := q = 0 ∧ 25 ≤ k ∧ k ≤ 27
def TK (tok : Int32) (m : vMH) : Prop :=
  (∀ w, w < 12 → isW w m = some (if tok = cw w then 1 else 0)) ∧ (∀ s, s < 8 → X6_isSign (sgn s) m = if tok = sgc s then 1 else 0) ∧ ((m.1 0 30 = 0 ∧ m.1 0 26 = 2) ↔ 0 ≤ tok.toInt) ∧ (0 ≤ tok.toInt → Int64.toInt32 m.2 = tok) ∧ (m.1 0 30 = 0 → (m.1 0 26 = 0 ↔ tok = -19)) ∧ (-6 ≤ tok.toInt → tok.toInt < 0 → m.1 0 30 = 0 ∧ m.1 0 26 = 1)
theorem sg_tab : ∀ j, j < 8 → (∀ s, s < 8 → (if lg_cmp (Int32.toInt64 (sgn j)) (Int32.toInt64 (sgn s)) = 0 then (1 : Int32) else 0) = if sgc j = sgc s then 1 else 0) ∧ X1_signOf (sgn j) = sgc j ∧ (∀ w, w < 12 → sgc j ≠ cw w) ∧ (sgc j).toInt < -6 ∧ sgc j ≠ -19 ∧ sgc j ≠ -20 := by decide +kernel
theorem cw_tab : ∀ w, w < 12 → (cw w).toInt < 0 ∧ cw w ≠ -19 ∧ cw w ≠ -20 := by decide +kernel
section TOK
variable {t z : Nat} {c m : vMH}
theorem isSign_no {s : Int32} (h : ¬ (m.1 0 30 = 0 ∧ m.1 0 26 = 3)) : X6_isSign s m = 0 := by
  unfold X6_isSign
  by_cases h1 : m.1 0 30 = 0
  · rw [if_pos h1, if_neg (fun z => h ⟨h1, z⟩)]
  · rw [if_neg h1]
theorem TK_bad (h : m.1 0 30 = 1) : TK (-20) m := by
  have h0 : ¬ m.1 0 30 = 0 := by rw [h]; decide
  refine ⟨fun w hw => ?_, fun s hs => ?_, ⟨fun z => absurd z.1 h0, fun z => absurd z (by decide)⟩, fun z => absurd z (by decide), fun z => absurd z h0, fun z => absurd z (by decide)⟩
  · rw [isW_no (fun z => h0 z.1), if_neg (cw_wr w hw)]
  · rw [isSign_no (fun z => h0 z.1), if_neg (fun z => (sg_tab s hs).2.2.2.2.2 z.symm)]
theorem TK_wrong (h0 : m.1 0 30 = 0) (h : m.1 0 26 = 4) : TK (-20) m := by
  refine ⟨fun w hw => ?_, fun s hs => ?_, ⟨fun z => absurd (h.symm.trans z.2) (by decide), fun z => absurd z (by decide)⟩, fun z => absurd z (by decide), fun _ => ⟨fun z => absurd (h.symm.trans z) (by decide), fun z => absurd z (by decide)⟩, fun z => absurd z (by decide)⟩
  · rw [isW_no (fun z => absurd (h.symm.trans z.2) (by decide)), if_neg (cw_wr w hw)]
  · rw [isSign_no (fun z => absurd (h.symm.trans z.2) (by decide)), if_neg (fun z => (sg_tab s hs).2.2.2.2.2 z.symm)]
theorem TK_end (h0 : m.1 0 30 = 0) (h : m.1 0 26 = 0) : TK (-19) m := by
  refine ⟨fun w hw => ?_, fun s hs => ?_, ⟨fun z => absurd (h.symm.trans z.2) (by decide), fun z => absurd z (by decide)⟩, fun z => absurd z (by decide), fun _ => ⟨fun _ => rfl, fun _ => h⟩, fun z => absurd z (by decide)⟩
  · rw [isW_no (fun z => absurd (h.symm.trans z.2) (by decide)), if_neg (fun z => (cw_tab w hw).2.1 z.symm)]
  · rw [isSign_no (fun z => absurd (h.symm.trans z.2) (by decide)), if_neg (fun z => (sg_tab s hs).2.2.2.2.1 z.symm)]
theorem TK_sign (h0 : m.1 0 30 = 0) (h : m.1 0 26 = 3) {j : Nat} (hj : j < 8) (hl : m.2 = Int32.toInt64 (sgn j)) : TK (sgc j) m := by
  obtain ⟨t1, t2, t3, t4, t5, t6⟩ := sg_tab j hj
  refine ⟨fun w hw => ?_, fun s hs => ?_, ⟨fun z => absurd (h.symm.trans z.2) (by decide), fun z => by omega⟩, fun z => by omega, fun _ => ⟨fun z => absurd (h.symm.trans z) (by decide), fun z => absurd z t5⟩, fun z => by omega⟩
  · rw [isW_no (fun z => absurd (h.symm.trans z.2) (by decide)), if_neg (t3 w hw)]
  · unfold X6_isSign
    rw [if_pos h0, if_pos h, hl]
    exact t1 s hs
theorem TK_num (h0 : m.1 0 30 = 0) (h : m.1 0 26 = 2) {w : Nat} (hw : w < 2 ^ 31) (hl : m.2.toInt = w) : TK (nI w) m := by
  have hn : (nI w).toInt = w := nI_toInt hw
  refine ⟨fun k hk => ?_, fun s hs => ?_, ⟨fun z => by omega, fun z => ⟨h0, h⟩⟩, fun z => ?_, fun _ => ⟨fun z => absurd (h.symm.trans z) (by decide), fun z => ?_⟩, fun z z2 => by omega⟩
  · rw [isW_no (fun z => absurd (h.symm.trans z.2) (by decide)), if_neg (fun z => ?_)]
    have := (cw_tab k hk).1
    rw [← z, hn] at this
    omega
  · rw [isSign_no (fun z => absurd (h.symm.trans z.2) (by decide)), if_neg (fun z => ?_)]
    have := (sg_tab s hs).2.2.2.1
    rw [← z, hn] at this
    omega
  · apply Int32.toInt_inj.mp
    rw [Int64.toInt_toInt32, hl, hn, qi_bm (by omega) (by omega)]
  · have := congrArg Int32.toInt z
    rw [hn] at this
    have e : ((-19 : Int32)).toInt = -19 := rfl
    omega
theorem TK_word (R : RS t z c m) {p h : Nat} (hz : h ≤ z) (e5 : m.1 0 25 = nI h) (e7 : m.1 0 27 = nI p) (hp : p < h) (h0 : m.1 0 30 = 0) (ht : m.1 0 26 = 1) (hbytes : ∀ j, p ≤ j → j < h → c.1 29 j ≠ 0) : TK (tokW (spB c p h)) m ∧ tokW (spB c p h) ≠ -19 := by
  have hW : ∀ w, w < 12 → isW w m = some (if spB c p h w = true then 1 else 0) := fun w hw => isW_ok R hw hz e5 e7 hp h0 ht hbytes
  have hS : ∀ s, X6_isSign s m = 0 := fun s => isSign_no (fun z => absurd (ht.symm.trans z.2) (by decide))
  rcases tokW_cases (s := spB c p h) spB_ex with ⟨h1, h2⟩ | ⟨i, hi, h1, h2⟩
  · rw [h1]
    refine ⟨⟨fun w hw => ?_, fun s hs => ?_, ⟨fun z => absurd (ht.symm.trans z.2) (by decide), fun z => absurd z (by decide)⟩, fun z => absurd z (by decide), fun _ => ⟨fun z => absurd (ht.symm.trans z) (by decide), fun z => absurd z (by decide)⟩, fun z => absurd z (by decide)⟩, by decide⟩
    · rw [hW w hw, h2 w hw, if_neg (by decide), if_neg (cw_wr w hw)]
    · rw [hS, if_neg (fun z => (sg_tab s hs).2.2.2.2.2 z.symm)]
  · rw [h1]
    have c1 := cw_tab i hi
    refine ⟨⟨fun w hw => ?_, fun s hs => ?_, ⟨fun z => absurd (ht.symm.trans z.2) (by decide), fun z => by omega⟩, fun z => by omega, fun _ => ⟨fun z => absurd (ht.symm.trans z) (by decide), fun z => absurd z c1.2.1⟩, fun _ _ => ⟨h0, ht⟩⟩, c1.2.1⟩
    · rw [hW w hw, h2 w hw]
      by_cases e : w = i
      · subst e; rw [if_pos (by simp), if_pos rfl]
      · rw [if_neg (by simp [e]), if_neg (fun z => e ((cw_inj i hi w hw).mp z).symm)]
    · rw [hS, if_neg (fun z => (sg_tab s hs).2.2.1 i hi z.symm)]
def TKP (z : Nat) (c m : vMH) (p : Nat) : Prop := c.1 6 4 = nI p ∧ m.1 0 27 = nI p ∧ TK (c.1 6 5) m ∧ p ≤ z ∧ (c.1 6 5 ≠ -19 → p < z) ∧ (c.1 6 5 ≠ -20 → c.1 6 5 ≠ -19 → ∃ h : Nat, p < h ∧ h ≤ z ∧ c.1 6 3 = nI h ∧ m.1 0 25 = nI h)
theorem RS.L {c' m' : vMH} (R : RS t z c m) (k1 : Kp PcL c c') (k2 : Kp PmL m m') : RS t z c' m' := R.kp k1 k2 (by unfold PcL; omega) (fun j => by unfold PcL; omega) (by unfold PmL; omega) (by unfold PmL; omega) (fun j => by unfold PmL; omega)
theorem sign_not : ∀ b, b ≤ 255 → (∀ j, j < 8 → nI b ≠ sgn j) → X1_signOf (nI b) = -20 := by
  have h : ∀ b, b ≤ 255 → (X1_signOf (nI b) = -20 ∨ ∃ j, j < 8 ∧ nI b = sgn j) := by decide +kernel
  intro b hb hn
  rcases h b hb with h | ⟨j, hj, h⟩
  · exact h
  · exact absurd h (hn j hj)
theorem adv_ok (R : RS t z c m) {h : Nat} (hh : h ≤ z) (e3 : c.1 6 3 = nI h) (e25 : m.1 0 25 = nI h) (hb0 : m.1 0 30 = 0) : ∃ (c' m' : vMH) (p : Nat), X1_advance c = some c' ∧ X6_next m = some m' ∧ h ≤ p ∧ TKP z c' m' p ∧ Kp PcL c c' ∧ Kp PmL m m' := by
  have hz := R.2.1
  unfold X1_advance X6_next
  simp only [wj1]
  obtain ⟨p, c1, m1, g1, g2, g3, g4, g5, g6, g7, g8, g9⟩ := blank_ok (fun (mh1 : vMH) => (if (mh1.1 6 3) < (mh1.1 6 0) then (chk (inb (mh1.1 6 3) 160) (if (X1_isLetter (mh1.1 29 (jn (mh1.1 6 3)))) = 0 then (if (X1_isDigit (mh1.1 29 (jn (mh1.1 6 3)))) = 0 then (some (v_up (v_up (v_up mh1 6 4 (mh1.1 6 3)) 6 5 (X1_signOf (mh1.1 29 (jn (mh1.1 6 3))))) 6 3 ((mh1.1 6 3) + 1))) else ((X1_takeNumber (v_up mh1 6 4 (mh1.1 6 3))).bind fun q7 => (some (v_up q7.2 6 5 q7.1)))) else ((X1_takeWord (v_up mh1 6 4 (mh1.1 6 3))).bind fun q9 => (some (v_up q9.2 6 5 q9.1))))) else (some (v_up (v_up mh1 6 4 (mh1.1 6 3)) 6 5 (-19))))) (fun (mh1 : vMH) => ((X6_byteAt (mh1.1 0 25) (v_up mh1 0 27 (mh1.1 0 25))).bind fun q3 => (if 0 ≤ q3 then (if (X6_in (Int32.toInt64 q3) 97 122) = 0 then (if (X6_in (Int32.toInt64 q3) 48 57) = 0 then (wj0 (some (v_up (v_ul (v_up (v_up (v_up mh1 0 27 (mh1.1 0 25)) 0 26 4) 0 26 3) (Int32.toInt64 q3)) 0 25 ((mh1.1 0 25) + 1))) fun J8 => (if q3 = 40 then J8 else (if q3 = 41 then J8 else (if q3 = 59 then J8 else (if q3 = 43 then J8 else (if q3 = 45 then J8 else (if q3 = 42 then J8 else (if q3 = 60 then J8 else (if q3 = 61 then J8 else (some (v_up (v_up mh1 0 27 (mh1.1 0 25)) 0 26 4))))))))))) else (wj2 (fun (v2_17 : Int32) (mh18 : vMH) => (wj1 (fun (s20 : Int32) => (some (v_up mh18 0 26 s20))) fun J21 => (if v2_17 ≤ 4 then (J21 2) else (J21 4)))) fun J19 => (lq2 4096 (X6_next_L160 J19) 0 (v_ul (v_up (v_up (v_up mh1 0 27 (mh1.1 0 25)) 0 26 4) 0 26 2) 0)))) else (lq1 4096 X6_next_L100 (v_up (v_up (v_up mh1 0 27 (mh1.1 0 25)) 0 26 4) 0 26 1))) else (some (v_up (v_up (v_up (v_up mh1 0 27 (mh1.1 0 25)) 0 26 4) 0 26 0) 0 27 (mh1.1 0 24)))))) (z - h) h (by omega) 4096 4096 (by omega) (by omega) c m R e3 e25
  simp only [wj1] at g1 g2
  rw [g1, g2]
  clear g1 g2
  have kc1 : Kp PcL c c1 := g7.mono (fun q k h => by unfold PcL; omega)
  have km1 : Kp PmL m m1 := g8.mono (fun q k h => by unfold PmL; omega)
  have R1 := R.L kc1 km1
  have hb1 : m1.1 0 30 = 0 := by rw [km1 _ _ (by unfold PmL; omega)]; exact hb0
  rw [g5, g6, R1.2.2.1]
  have kc2 : Kp PcL c1 (v_up c1 6 4 (nI p)) := Kp.rf.up (by unfold PcL; omega)
  have km2 : Kp PmL m1 (v_up m1 0 27 (nI p)) := Kp.rf.up (by unfold PmL; omega)
  have R2 := R1.L kc2 km2
  by_cases hpz : p < z
  · obtain ⟨b, hb, b1, b2⟩ := R1.2.2.2.2.2 p hpz
    have b3 : (v_up m1 0 27 (nI p)).1 1 (160 * t + p) = nI b := by rw [rd_up, if_neg (by omega)]; exact b2
    rw [if_pos (nI_lt hpz (by omega)), chk_t (inb_nI (by omega) (by decide)), jn_nI (by omega), b1, bA_in R2 hpz, b3, bd_s, if_pos (nI_pos' (by omega))]
    have hl := letter_z b hb
    have hl2 := inL (b := b) (lo := 97) (hi := 122) 97 122 rfl rfl (by omega)
    have hd := digit_z b hb
    have hd2 := inL (b := b) (lo := 48) (hi := 57) 48 57 rfl rfl (by omega)
    by_cases hle : 97 ≤ b ∧ b ≤ 122
    · rw [if_neg (fun z => hl.mp z hle), if_neg (by rw [hl2]; exact fun z => z hle)]
      have km3 : Kp PmL m1 (v_up (v_up (v_up m1 0 27 (nI p)) 0 26 4) 0 26 1) := ((Kp.rf.up (by unfold PmL; omega)).up (by unfold PmL; omega)).up (by unfold PmL; omega)
      have R3 := R1.L kc2 km3
      obtain ⟨h', c2, m2, w1, w2, w3, w4, w5, w6, w7, w8, w9, w10, w11⟩ := word_loop (fun (mh1 : vMH) => ((X1_spells 0 mh1).bind fun q3 => (if q3 = 0 then ((X1_spells 1 mh1).bind fun q6 => (if q6 = 0 then ((X1_spells 2 mh1).bind fun q9 => (if q9 = 0 then ((X1_spells 3 mh1).bind fun q12 => (if q12 = 0 then ((X1_spells 4 mh1).bind fun q15 => (if q15 = 0 then ((X1_spells 5 mh1).bind fun q18 => (if q18 = 0 then ((X1_spells 6 mh1).bind fun q21 => (if q21 = 0 then ((X1_spells 7 mh1).bind fun q24 => (if q24 = 0 then ((X1_spells 8 mh1).bind fun q27 => (if q27 = 0 then ((X1_spells 9 mh1).bind fun q30 => (if q30 = 0 then ((X1_spells 10 mh1).bind fun q33 => (if q33 = 0 then ((X1_spells 11 mh1).bind fun q36 => (if q36 = 0 then (some ((-20), mh1)) else (some ((-23), mh1)))) else (some ((-22), mh1)))) else (some ((-21), mh1)))) else (some ((-9), mh1)))) else (some ((-8), mh1)))) else (some ((-7), mh1)))) else (some ((-6), mh1)))) else (some ((-5), mh1)))) else (some ((-4), mh1)))) else (some ((-3), mh1)))) else (some ((-2), mh1)))) else (some ((-1), mh1))))) (z - p) p (by omega) 4096 4096 (by omega) (by omega) _ _ R3 (by rw [rd_up, if_neg (by omega)]; exact g5) (by simp only [rd_up]; simp [g6])
      have hph : p < h' := w11 b hpz (by rw [rd_up, if_neg (by omega)]; exact b1) hle.1 hle.2
      have e4 : c2.1 6 4 = nI p := by rw [w7 _ _ (by omega), rd_up, if_pos ⟨rfl, rfl⟩]
      have tail := takeWord_tail w5 e4 (by omega) (by omega)
      have hT : X1_takeWord (v_up c1 6 4 (nI p)) = some (tokW (spB c2 p h'), c2) := by
        unfold X1_takeWord
        simp only [wj1]
        exact w1.trans tail
      rw [hT, bd_s, w2]
      dsimp only
      have kc4 : Kp PcL c1 (v_up c2 6 5 (tokW (spB c2 p h'))) := (kc2.tr (w7.mono (fun q k h => by unfold PcL; omega))).up (by unfold PcL; omega)
      have km4 : Kp PmL m1 m2 := km3.tr (w8.mono (fun q k h => by unfold PmL; omega))
      have R4 : RS t z c2 m2 := R1.L (kc2.tr (w7.mono (fun q k h => by unfold PcL; omega))) km4
      have e27 : m2.1 0 27 = nI p := by rw [w8 _ _ (by omega)]; simp [rd_up]
      have e26 : m2.1 0 26 = 1 := by rw [w8 _ _ (by omega)]; simp [rd_up]
      have e30 : m2.1 0 30 = 0 := by rw [km4 _ _ (by unfold PmL; omega)]; exact hb1
      obtain ⟨k1, k2⟩ := TK_word R4 w4 w6 e27 hph e30 e26 (fun j h1 h2 => by
        obtain ⟨b', y1, y2, y3⟩ := w10 j h1 h2
        rw [w7 _ _ (by omega), y3]
        exact nI_ne0 (by omega) (by omega))
      refine ⟨_, _, p, rfl, rfl, g3, ⟨?_, e27, ?_, by omega, fun _ => hpz, fun _ _ => ⟨h', hph, w4, ?_, w6⟩⟩, kc1.tr kc4, km1.tr km4⟩
      · rw [rd_up, if_neg (by omega)]; exact e4
      · rw [rd_up, if_pos ⟨rfl, rfl⟩]; exact k1
      · rw [rd_up, if_neg (by omega)]; exact w5
    · rw [if_pos (hl.mpr hle), if_pos (show X6_in (Int32.toInt64 (nI b)) 97 122 = 0 by rw [hl2]; exact hle)]
      by_cases hdi : 48 ≤ b ∧ b ≤ 57
      · rw [if_neg (fun z => hd.mp z hdi), if_neg (show ¬ X6_in (Int32.toInt64 (nI b)) 48 57 = 0 by rw [hd2]; exact fun z => z hdi)]
        simp only [wj2]
        have km3 : Kp PmL m1 (v_ul (v_up (v_up (v_up m1 0 27 (nI p)) 0 26 4) 0 26 2) 0) := (((Kp.rf.up (by unfold PmL; omega)).up (by unfold PmL; omega)).up (by unfold PmL; omega)).ul
        have R3 := R1.L kc2 km3
        obtain ⟨h', v', c2, m2, w1, w2, w3, w4, w5, w6, w7, w8, w9, w10⟩ := num_loop (fun (v1_1 : Int32) (mh2 : vMH) => (if ((mh2.1 6 3) - (mh2.1 6 4)) ≤ 4 then (some (v1_1, mh2)) else (some ((-20), mh2)))) (fun _ _ => none) (fun (v2_17 : Int32) (mh18 : vMH) => (if v2_17 ≤ 4 then (some (v_up mh18 0 26 2)) else (some (v_up mh18 0 26 4)))) (z - p) p (by omega) 4096 4096 (by omega) (by omega) 0 0 _ _ (Nat.zero_le _) R3 (by rw [rd_up, if_neg (by omega)]; exact g5) (by show (v_up (v_up (v_up m1 0 27 (nI p)) 0 26 4) 0 26 2).1 0 25 = _; simp [rd_up, g6]) (Or.inl ⟨by decide, 0, by decide, rfl, rfl⟩)
        rw [Nat.zero_add] at w2 w9
        have hph : p < h' := w10 b hpz (by rw [rd_up, if_neg (by omega)]; exact b1) hdi.1 hdi.2
        have e4 : c2.1 6 4 = nI p := by rw [w7 _ _ (by omega), rd_up, if_pos ⟨rfl, rfl⟩]
        have e27 : m2.1 0 27 = nI p := by rw [w8 _ _ (by omega)]; show (v_up (v_up (v_up m1 0 27 (nI p)) 0 26 4) 0 26 2).1 0 27 = _; simp [rd_up]
        have kc4 : Kp PcL c1 c2 := kc2.tr (w7.mono (fun q k h => by unfold PcL; omega))
        have km4 : Kp PmL m1 m2 := km3.tr (w8.mono (fun q k h => by unfold PmL; omega))
        have hT : X1_takeNumber (v_up c1 6 4 (nI p)) = (if h' - p ≤ 4 then some (v', c2) else some (-20, c2)) := by
          unfold X1_takeNumber
          simp only [wj2]
          refine w1.trans ?_
          rw [w5, e4, pk_sub (by omega), show (4 : Int32) = nI 4 from rfl]
          simp only [nI_les (show h' - p < 2 ^ 31 by omega) (show 4 < 2 ^ 31 by decide)]
        have hM : lq2 4096 (X6_next_L160 fun v2_17 mh18 => if v2_17 ≤ 4 then some (v_up mh18 0 26 2) else some (v_up mh18 0 26 4)) 0 (v_ul (v_up (v_up (v_up m1 0 27 (nI p)) 0 26 4) 0 26 2) 0) = (if h' - p ≤ 4 then some (v_up m2 0 26 2) else some (v_up m2 0 26 4)) := by
          refine w2.trans ?_
          rw [show (4 : Int32) = nI 4 from rfl]
          simp only [nI_les (show h' - p < 2 ^ 31 by omega) (show 4 < 2 ^ 31 by decide)]
        rw [hT, hM]
        have e30 : m2.1 0 30 = 0 := by rw [km4 _ _ (by unfold PmL; omega)]; exact hb1
        by_cases h4 : h' - p ≤ 4
        · rw [if_pos h4, if_pos h4, bd_s]
          dsimp only
          rcases w9 with ⟨-, w, hw, hv, hl⟩ | hbad
          · have hp4 : 10 ^ (h' - p) ≤ 10 ^ 4 := Nat.pow_le_pow_right (by decide) h4
            have hp44 : (10 : Nat) ^ 4 = 10000 := rfl
            refine ⟨_, _, p, rfl, rfl, g3, ⟨?_, ?_, ?_, by omega, fun _ => hpz, fun _ _ => ⟨h', hph, w4, ?_, ?_⟩⟩, kc1.tr (kc4.up (by unfold PcL; omega)), km1.tr (km4.up (by unfold PmL; omega))⟩
            · rw [rd_up, if_neg (by omega)]; exact e4
            · rw [rd_up, if_neg (by omega)]; exact e27
            · rw [rd_up, if_pos ⟨rfl, rfl⟩, hv]
              exact TK_num (by rw [rd_up, if_neg (by omega)]; exact e30) (by rw [rd_up, if_pos ⟨rfl, rfl⟩]) (by omega) hl
            · rw [rd_up, if_neg (by omega)]; exact w5
            · rw [rd_up, if_neg (by omega)]; exact w6
          · omega
        · rw [if_neg h4, if_neg h4, bd_s]
          dsimp only
          refine ⟨_, _, p, rfl, rfl, g3, ⟨?_, ?_, ?_, by omega, fun _ => hpz, fun hne _ => absurd (by rw [rd_up, if_pos ⟨rfl, rfl⟩]) hne⟩, kc1.tr (kc4.up (by unfold PcL; omega)), km1.tr (km4.up (by unfold PmL; omega))⟩
          · rw [rd_up, if_neg (by omega)]; exact e4
          · rw [rd_up, if_neg (by omega)]; exact e27
          · rw [rd_up, if_pos ⟨rfl, rfl⟩]
            exact TK_wrong (by rw [rd_up, if_neg (by omega)]; exact e30) (by rw [rd_up, if_pos ⟨rfl, rfl⟩])
      · rw [if_pos (hd.mpr hdi), if_pos (show X6_in (Int32.toInt64 (nI b)) 48 57 = 0 by rw [hd2]; exact hdi), nI_1]
        simp only [wj0]
        have kc4 : Kp PcL c1 (v_up (v_up (v_up c1 6 4 (nI p)) 6 5 (X1_signOf (nI b))) 6 3 (nI (p + 1))) := ((Kp.rf.up (by unfold PcL; omega)).up (by unfold PcL; omega)).up (by unfold PcL; omega)
        by_cases hs : ∃ j, j < 8 ∧ nI b = sgn j
        · obtain ⟨j, hj, hbj⟩ := hs
          have hM : ∀ A B : Option vMH, (if nI b = 40 then A else (if nI b = 41 then A else (if nI b = 59 then A else (if nI b = 43 then A else (if nI b = 45 then A else (if nI b = 42 then A else (if nI b = 60 then A else (if nI b = 61 then A else B)))))))) = A := by
            intro A B
            rw [hbj]
            have : j = 0 ∨ j = 1 ∨ j = 2 ∨ j = 3 ∨ j = 4 ∨ j = 5 ∨ j = 6 ∨ j = 7 := by omega
            rcases this with rfl | rfl | rfl | rfl | rfl | rfl | rfl | rfl <;> rfl
          rw [hM]
          have hsg := (sg_tab j hj).2.1
          refine ⟨_, _, p, rfl, rfl, g3, ⟨?_, ?_, ?_, by omega, fun _ => hpz, fun _ _ => ⟨p + 1, by omega, by omega, ?_, ?_⟩⟩, kc1.tr kc4, km1.tr (((((Kp.rf.up (by unfold PmL; omega)).up (by unfold PmL; omega)).up (by unfold PmL; omega)).ul).up (by unfold PmL; omega))⟩
          · simp [rd_up]
          · rw [rd_up, if_neg (by omega)]
            show (v_up (v_up (v_up m1 0 27 (nI p)) 0 26 4) 0 26 3).1 0 27 = _
            simp [rd_up]
          · rw [show (v_up (v_up (v_up c1 6 4 (nI p)) 6 5 (X1_signOf (nI b))) 6 3 (nI (p + 1))).1 6 5 = sgc j by simp [rd_up]; rw [hbj]; exact hsg]
            refine TK_sign ?_ ?_ hj ?_
            · rw [rd_up, if_neg (by omega)]
              show (v_up (v_up (v_up m1 0 27 (nI p)) 0 26 4) 0 26 3).1 0 30 = _
              simp [rd_up]; exact hb1
            · rw [rd_up, if_neg (by omega)]
              show (v_up (v_up (v_up m1 0 27 (nI p)) 0 26 4) 0 26 3).1 0 26 = _
              simp [rd_up]
            · show Int32.toInt64 (nI b) = _
              rw [hbj]
          · simp [rd_up]
          · simp [rd_up]
        · have hns : ∀ j, j < 8 → nI b ≠ sgn j := fun j hj hh => hs ⟨j, hj, hh⟩
          rw [if_neg (show ¬ nI b = 40 from hns 0 (by decide)), if_neg (show ¬ nI b = 41 from hns 1 (by decide)), if_neg (show ¬ nI b = 59 from hns 2 (by decide)), if_neg (show ¬ nI b = 43 from hns 3 (by decide)), if_neg (show ¬ nI b = 45 from hns 4 (by decide)), if_neg (show ¬ nI b = 42 from hns 5 (by decide)), if_neg (show ¬ nI b = 60 from hns 6 (by decide)), if_neg (show ¬ nI b = 61 from hns 7 (by decide))]
          have e20 := sign_not b hb hns
          have e5 : (v_up (v_up (v_up c1 6 4 (nI p)) 6 5 (X1_signOf (nI b))) 6 3 (nI (p + 1))).1 6 5 = -20 := by simp [rd_up]; exact e20
          refine ⟨_, _, p, rfl, rfl, g3, ⟨?_, ?_, ?_, by omega, fun _ => hpz, fun hne _ => absurd e5 hne⟩, kc1.tr kc4, km1.tr ((Kp.rf.up (by unfold PmL; omega)).up (by unfold PmL; omega))⟩
          · simp [rd_up]
          · simp [rd_up]
          · rw [e5]
            exact TK_wrong (by simp [rd_up]; exact hb1) (by simp [rd_up])
  · have hpe : p = z := by omega
    rw [if_neg (nI_nlt (by omega) (by omega)), bA_out R2 (by omega) (by omega), bd_s, if_neg (by decide)]
    have e24 : m1.1 0 24 = nI z := R1.2.2.2.2.1
    rw [e24]
    refine ⟨_, _, p, rfl, rfl, g3, ⟨?_, ?_, ?_, by omega, fun hne => absurd (by simp [rd_up]) hne, fun _ hne => absurd (by simp [rd_up]) hne⟩, kc1.tr ((Kp.rf.up (by unfold PcL; omega)).up (by unfold PcL; omega)), km1.tr ((((Kp.rf.up (by unfold PmL; omega)).up (by unfold PmL; omega)).up (by unfold PmL; omega)).up (by unfold PmL; omega))⟩
    · simp [rd_up]
    · simp [rd_up, hpe]
    · rw [show (v_up (v_up c1 6 4 (nI p)) 6 5 (-19)).1 6 5 = -19 by simp [rd_up]]
      exact TK_end (by simp [rd_up]; exact hb1) (by simp [rd_up])
end TOK
