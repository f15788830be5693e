/-! PURE PART, walking -/
def PcW (f r k : Nat) : Prop := r = 27 ∨ r = 28 ∨ (r = 7 ∧ k = 1) ∨ (r = f ∧ k = 5)
def PmW (r k : Nat) : Prop := r = 0 ∧ ((17 ≤ k ∧ k ≤ 33) ∨ k = 12)
def WK (r T : Nat) (E : qE) (V : qV) (c m : vMH) : Prop := OKV V ∧ FC r V c ∧ FM V m ∧ TXC T E c ∧ TXM T E m ∧ V 4 5 < T
/-- d more are taken, from V on -/
def WR (r T : Nat) (E : qE) (V : qV) (c m : vMH) (d : Int32) (c' m' : vMH) : Prop := ∃ (V' : qV) (e : Int32), (∀ a j, ¬ (a = 4 ∧ j = 1) → V' a j = V a j) ∧ WK r T E V' c' m' ∧ Kp (PcW r) c c' ∧ Kp PmW m m' ∧ m'.1 0 32 = m.1 0 32 + d ∧ c'.1 7 1 = c.1 7 1 + e ∧ m'.1 0 33 = m.1 0 33 + e
section WALK
variable {r T : Nat} {V : qV} {E : qE} {c m c' m' : vMH}
theorem FC.kS (hr : isF r) (h : FC r V c) (k : Kp PcS c c') : FC r V c' := by
  refine h.kp k (fun k h1 h2 h3 => ?_) (fun q k h1 h2 => ?_)
  · unfold PcS; rcases hr with rfl | rfl | rfl | rfl <;> decide
  · unfold PcS; rcases hr with rfl | rfl | rfl | rfl <;> omega
theorem FM.kS (h : FM V m) (O : OKV V) (k : Kp PmS m m') : FM V m' := by
  refine h.kp k (fun k h1 => ?_) (fun q k h1 h2 h3 => ?_) O.n
  · unfold PmS; omega
  · unfold PmS; omega
theorem TXC.kS (h : TXC T E c) (k : Kp PcS c c') : TXC T E c' := h.kp k (by unfold PcS; decide) (fun j => by unfold PcS; omega) (fun j => by unfold PcS; omega)
theorem TXM.kS (h : TXM T E m) (k : Kp PmS m m') : TXM T E m' := h.kp k (by unfold PmS; omega) (fun j => by unfold PmS; omega) (fun j => by unfold PmS; omega)
def beepI (V : qV) (x : Nat) (b p q : Int32) : Prop := (b = -1 ∧ p = -1 ∧ q = 0) ∨ ∃ f h : Nat, f < V 4 0 ∧ h ≤ 332 ∧ b = nI f ∧ p = nI h ∧ q = nI h ∧ (V 4 1).testBit f = false ∧ V 1 f = x
theorem nIm1 {k : Nat} (h : k < 2 ^ 31) : ¬ nI k = -1 := by
  intro z
  have := congrArg Int32.toInt z
  rw [nI_toInt h] at this
  have e : ((-1 : Int32)).toInt = -1 := rfl
  omega
theorem nIle1 {k : Nat} (h : k < 2 ^ 31) : ¬ nI k ≤ -1 := by
  rw [Int32.le_iff_toInt_le, nI_toInt h]
  have e : ((-1 : Int32)).toInt = -1 := rfl
  omega
theorem beep_loop (hr : isF r) (O : OKV V) (hu : V 4 5 < T) {x : Nat} (hx : x < 2 ^ 31) : ∀ k i : Nat, i + k = V 4 0 → ∀ N M : Nat, k < N → k < M → ∀ (b p q : Int32) (c m : vMH), FC r V c → FM V m → TXC T E c → TXM T E m → beepI V x b p q → ∃ (b' p' q' : Int32) (c' m' : vMH), lq4 N (X4_beepIn_L8 r (nI x)) b p (nI i) c = some (b', c') ∧ lq4 M (X6_beepOf_L7 (nI x)) b q (nI i) m = some (b', m') ∧ Kp PcS c c' ∧ Kp PmS m m' ∧ beepI V x b' p' q' := by
  intro k
  induction k with
  | zero =>
    intro i hi N M hN hM b p q c m F G tc tm hI
    obtain ⟨N, rfl⟩ : ∃ M, N = M + 1 := ⟨N - 1, by omega⟩
    obtain ⟨M, rfl⟩ : ∃ N, M = N + 1 := ⟨M - 1, by omega⟩
    refine ⟨b, p, q, c, m, ?_, ?_, Kp.rf, Kp.rf, hI⟩
    · rw [lq4_s]; rw [X4_beepIn_L8]
      rw [F.n, if_pos (nI_le (by omega) (by have := O.n; omega))]
    · rw [lq4_s]; rw [X6_beepOf_L7]
      rw [G.n, if_pos (nI_le (by omega) (by have := O.n; omega))]
  | succ k ih =>
    intro i hi N M hN hM b p q c m F G tc tm hI
    obtain ⟨N, rfl⟩ : ∃ M, N = M + 1 := ⟨N - 1, by omega⟩
    obtain ⟨M, rfl⟩ : ∃ N, M = N + 1 := ⟨M - 1, by omega⟩
    have hi' : i < V 4 0 := by omega
    have h12 := lt_n O hi'
    have hxi := O.x hi'
    have hh := heard_le O hi'
    have go : ∀ (b p q : Int32) (c2 m2 : vMH), Kp PcS c c2 → Kp PmS m m2 → beepI V x b p q → ∃ (b' p' q' : Int32) (c' m' : vMH), lq4 N (X4_beepIn_L8 r (nI x)) b p (nI (i + 1)) c2 = some (b', c') ∧ lq4 M (X6_beepOf_L7 (nI x)) b q (nI (i + 1)) m2 = some (b', m') ∧ Kp PcS c c' ∧ Kp PmS m m' ∧ beepI V x b' p' q' := by
      intro b p q c2 m2 k1 k2 hI
      obtain ⟨b', p', q', c', m', g1, g2, g3, g4, g5⟩ := ih (i + 1) (by omega) N M (by omega) (by omega) b p q c2 m2 (F.kS hr k1) (G.kS O k2) (tc.kS k1) (tm.kS k2) hI
      exact ⟨b', p', q', c', m', g1, g2, k1.tr g3, k2.tr g4, g5⟩
    rw [lq4_s, lq4_s]; rw [X4_beepIn_L8, X6_beepOf_L7]
    rw [F.n, G.n, if_neg (nI_ge hi' (by have := O.n; omega)), if_neg (nI_ge hi' (by have := O.n; omega)), chk_t (inb_nI h12 (by decide)), chk_t (inb_nI h12 (by decide)), F.x hi' h12, G.x hi' h12, nI_1]
    by_cases c1 : (V 4 1).testBit i = true
    · have e2 : (X6_lies (nI i) m = 0) := by rw [liesM_z G O hi']; exact c1
      have e1 : (X0_lies r (nI i) c = 0) := by rw [lies_z F O hi']; exact c1
      rw [if_pos e1, if_pos e2]
      simp only [ite_self]
      exact go b p q c m Kp.rf Kp.rf hI
    · have c1' : (V 4 1).testBit i = false := by simpa using c1
      have e2 : ¬ (X6_lies (nI i) m = 0) := by rw [liesM_z G O hi']; exact c1
      have e1 : ¬ (X0_lies r (nI i) c = 0) := by rw [lies_z F O hi']; exact c1
      rw [if_neg e1, if_neg e2]
      by_cases c2 : nI (V 1 i) = nI x
      · rw [if_pos c2, if_pos c2]
        have c2' : V 1 i = x := (nI_eq (by omega) hx).mp c2
        rw [C_heard F O hi' c1', bd_s]
        obtain ⟨m1, g1, g2⟩ := isH_ok G O tm hu hi'
        rw [g1, bd_s]
        have hM2 := M_heard (G.kS O g2) O hi'
        have hnew : beepI V x (nI i) (nI (heardZ V i)) (nI (heardZ V i)) := Or.inr ⟨i, heardZ V i, hi', hh, rfl, rfl, rfl, c1', c2'⟩
        by_cases c3 : nI (heardZ V i) ≤ p
        · rw [if_pos c3]
          rcases hI with ⟨-, hp, -⟩ | ⟨f, h, hf, hle, hb, hp, hq, hb2, hx2⟩
          · exact absurd (hp ▸ c3) (nIle1 (by omega))
          · have hI' : beepI V x b p q := Or.inr ⟨f, h, hf, hle, hb, hp, hq, hb2, hx2⟩
            have hnb : ¬ b = -1 := by rw [hb]; exact nIm1 (by have := O.n; omega)
            have hq' : nI (heardZ V i) ≤ q := by rw [hq, ← hp]; exact c3
            have : (if (if hearsB V E i = true then (1 : Int32) else 0, m1).1 = 0 then lq4 M (X6_beepOf_L7 (nI x)) b q (nI (i + 1)) (if hearsB V E i = true then (1 : Int32) else 0, m1).2 else wj0 ((X6_heard (nI i) (if hearsB V E i = true then (1 : Int32) else 0, m1).2).bind fun q14 => lq4 M (X6_beepOf_L7 (nI x)) (nI i) q14 (nI (i + 1)) (if hearsB V E i = true then (1 : Int32) else 0, m1).2) fun J13 => if b = -1 then J13 else (X6_heard (nI i) (if hearsB V E i = true then (1 : Int32) else 0, m1).2).bind fun q17 => if q17 ≤ q then lq4 M (X6_beepOf_L7 (nI x)) b q (nI (i + 1)) (if hearsB V E i = true then (1 : Int32) else 0, m1).2 else J13) = lq4 M (X6_beepOf_L7 (nI x)) b q (nI (i + 1)) m1 := by
              dsimp only
              by_cases c4 : hearsB V E i = true
              · rw [if_pos c4, if_neg (by decide)]
                simp only [wj0]
                rw [if_neg hnb, hM2, bd_s, if_pos hq']
              · rw [if_neg c4, if_pos rfl]
            rw [this]
            exact go b p q c m1 Kp.rf g2 hI'
        · rw [if_neg c3]
          obtain ⟨c1r, k1, k2⟩ := reck_ok hr F O tc hu hi' (w := 1) (by decide) (nI (heardZ V i))
          have k1' : X3_reckon r 1 (nI i) (nI (heardZ V i)) c = some (X5_held (sayV V E 1 i) 99, c1r) := k1
          rw [k1', bd_s]
          dsimp only
          have hcl := clamp_le (sayV V E 1 i)
          rw [(held_c _).1]
          simp only [nI_lts (show heardZ V i < 2 ^ 31 by omega) (show clampZ (sayV V E 1 i) < 2 ^ 31 by omega)]
          by_cases c4 : hearsB V E i = true
          · have c4' : ¬ heardZ V i < clampZ (sayV V E 1 i) := by
              unfold hearsB at c4; simp at c4; omega
            rw [if_neg c4', if_pos c4, if_neg (by decide)]
            simp only [wj0]
            have hq' : ¬ b = -1 → ¬ nI (heardZ V i) ≤ q := by
              rcases hI with ⟨hb, -, -⟩ | ⟨f, h, hf, hle, hb, hp, hq, hb2, hx2⟩
              · exact fun z => absurd hb z
              · rw [hq, ← hp]; exact fun _ => c3
            have : (if b = -1 then (X6_heard (nI i) m1).bind fun q14 => lq4 M (X6_beepOf_L7 (nI x)) (nI i) q14 (nI (i + 1)) m1 else (X6_heard (nI i) m1).bind fun q17 => if q17 ≤ q then lq4 M (X6_beepOf_L7 (nI x)) b q (nI (i + 1)) m1 else (X6_heard (nI i) m1).bind fun q14 => lq4 M (X6_beepOf_L7 (nI x)) (nI i) q14 (nI (i + 1)) m1) = lq4 M (X6_beepOf_L7 (nI x)) (nI i) (nI (heardZ V i)) (nI (i + 1)) m1 := by
              rw [hM2, bd_s, bd_s]
              by_cases c5 : b = -1
              · rw [if_pos c5]
              · rw [if_neg c5, if_neg (hq' c5)]
            rw [this]
            exact go _ _ _ c1r m1 k2 g2 hnew
          · have c4' : heardZ V i < clampZ (sayV V E 1 i) := by
              unfold hearsB at c4; simp at c4; omega
            rw [if_pos c4', if_neg c4, if_pos rfl]
            exact go b p q c1r m1 k2 g2 hI
      · rw [if_neg c2, if_neg c2]
        exact go b p q c m Kp.rf Kp.rf hI
theorem beep_ok (hr : isF r) (K : WK r T E V c m) {x : Nat} (hx : x < 2 ^ 31) : ∃ (b : Int32) (c' m' : vMH), X4_beepIn r (nI x) c = some (b, c') ∧ X6_beepOf (nI x) m = some (b, m') ∧ Kp PcS c c' ∧ Kp PmS m m' ∧ (b = -1 ∨ ∃ f : Nat, f < V 4 0 ∧ b = nI f ∧ (V 4 1).testBit f = false ∧ V 1 f = x) := by
  obtain ⟨O, F, G, tc, tm, hu⟩ := K
  have hn := O.n
  obtain ⟨b, p, q, c', m', h1, h2, h3, h4, h5⟩ := beep_loop hr O hu hx (V 4 0) 0 (by omega) 4096 4096 (by omega) (by omega) (-1) (-1) 0 c m F G tc tm (Or.inl ⟨rfl, rfl, rfl⟩)
  refine ⟨b, c', m', h1, h2, h3, h4, ?_⟩
  rcases h5 with ⟨h, -, -⟩ | ⟨f, h, a1, a2, a3, a4, a5, a6, a7⟩
  · exact Or.inl h
  · exact Or.inr ⟨f, a1, a3, a6, a7⟩
theorem WK.kS (hr : isF r) (K : WK r T E V c m) (k1 : Kp PcS c c') (k2 : Kp PmS m m') : WK r T E V c' m' := by
  obtain ⟨O, F, G, tc, tm, hu⟩ := K
  exact ⟨O, F.kS hr k1, G.kS O k2, tc.kS k1, tm.kS k2, hu⟩
theorem WR.rf (K : WK r T E V c m) : WR r T E V c m 0 c m := ⟨V, 0, fun _ _ _ => rfl, K, Kp.rf, Kp.rf, (Int32.add_zero _).symm, (Int32.add_zero _).symm, (Int32.add_zero _).symm⟩
theorem WR.tr {V' : qV} {c1 m1 c2 m2 : vMH} {d d2 e : Int32} (h0 : ∀ a j, ¬ (a = 4 ∧ j = 1) → V' a j = V a j) (h1 : Kp (PcW r) c c1) (h2 : Kp PmW m m1) (h3 : m1.1 0 32 = m.1 0 32 + d) (h4 : c1.1 7 1 = c.1 7 1 + e) (h5 : m1.1 0 33 = m.1 0 33 + e) (h : WR r T E V' c1 m1 d2 c2 m2) : WR r T E V c m (d + d2) c2 m2 := by
  obtain ⟨W, f, g0, g1, g2, g3, g4, g5, g6⟩ := h
  exact ⟨W, e + f, fun a j z => (g0 a j z).trans (h0 a j z), g1, h1.tr g2, h2.tr g3, by rw [g4, h3, Int32.add_assoc], by rw [g5, h4, Int32.add_assoc], by rw [g6, h5, Int32.add_assoc]⟩
theorem WR.wk {d : Int32} (h : WR r T E V c m d c' m') : ∃ V' : qV, (∀ a j, ¬ (a = 4 ∧ j = 1) → V' a j = V a j) ∧ WK r T E V' c' m' := by
  obtain ⟨W, f, g0, g1, -⟩ := h
  exact ⟨W, g0, g1⟩
theorem PcSW {a b : vMH} (h : Kp PcS a b) : Kp (PcW r) a b := h.mono (fun q k z => by unfold PcS at z; unfold PcW; omega)
theorem PmSW {a b : vMH} (h : Kp PmS a b) : Kp PmW a b := h.mono (fun q k z => by unfold PmS at z; unfold PmW; omega)
theorem WR.S (hr : isF r) (K : WK r T E V c m) (k1 : Kp PcS c c') (k2 : Kp PmS m m') : WR r T E V c m 0 c' m' :=
  ⟨V, 0, fun _ _ _ => rfl, K.kS hr k1 k2, PcSW k1, PmSW k2, by rw [k2 _ _ (by unfold PmS; omega)]; exact (Int32.add_zero _).symm, by rw [k1 _ _ (by unfold PcS; omega)]; exact (Int32.add_zero _).symm, by rw [k2 _ _ (by unfold PmS; omega)]; exact (Int32.add_zero _).symm⟩
theorem pop_or {g f : Nat} (hf : f < 12) (h : g.testBit f = false) : pop (g ||| 2 ^ f) = pop g + 1 := by
  unfold pop
  rw [cnt_congr (Q := fun i => g.testBit i || decide (f = i)) (fun i _ => or_tb g f i), cnt_or (P := fun i => g.testBit i) (Q := fun i => decide (f = i)) (fun i _ z => by
    have e : f = i := by simpa using z.2
    rw [← e, h] at z
    exact absurd z.1 (by decide)), cnt_one hf]
/-- find f is taken -/
theorem take_ok (hr : isF r) (K : WK r T E V c m) {f : Nat} (hf : f < V 4 0) (e : Int32) : WK r T E (qs V 4 1 (V 4 1 ||| 2 ^ f)) (v_up (v_up c 7 1 e) r 5 (nI (V 4 1 ||| 2 ^ f))) (v_up m 0 12 (nI (V 4 1 ||| 2 ^ f))) := by
  obtain ⟨O, F, G, tc, tm, hu⟩ := K
  have hr2 : r ≠ 5 ∧ r ≠ 25 ∧ r ≠ 26 ∧ r ≠ 7 ∧ 1 ≤ r ∧ r ≤ 4 := by rcases hr with rfl | rfl | rfl | rfl <;> decide
  refine ⟨?_, ?_, ?_, ?_, ?_, hu⟩
  · obtain ⟨o1, o2, o3⟩ := O
    exact ⟨o1, or_lt o2 hf, o3⟩
  · obtain ⟨a1, a2, a3, a4, a5, a6, a7, a8⟩ := F
    refine ⟨?_, ?_, ?_, ?_, ?_, ?_, fun j hj => ⟨?_, ?_⟩, fun j hj => ⟨?_, ?_⟩⟩
    · rw [rd_up, rd_up, if_neg (by omega), if_neg (by omega)]; exact a1
    · rw [rd_up, if_pos ⟨rfl, rfl⟩]; rfl
    · rw [rd_up, rd_up, if_neg (by omega), if_neg (by omega)]; exact a3
    · rw [rd_up, rd_up, if_neg (by omega), if_neg (by omega)]; exact a4
    · rw [rd_up, rd_up, if_neg (by omega), if_neg (by omega)]; exact a5
    · rw [rd_up, rd_up, if_neg (by omega), if_neg (by omega)]; exact a6
    · rw [rd_up, rd_up, if_neg (by omega), if_neg (by omega)]; exact (a7 j hj).1
    · rw [rd_up, rd_up, if_neg (by omega), if_neg (by omega)]; exact (a7 j hj).2
    · rw [rd_up, rd_up, if_neg (by omega), if_neg (by omega)]; exact (a8 j hj).1
    · rw [rd_up, rd_up, if_neg (by omega), if_neg (by omega)]; exact (a8 j hj).2
  · obtain ⟨a1, a2, a3, a4, a5, a6, a7, a8⟩ := G
    refine ⟨?_, ?_, ?_, ?_, ?_, ?_, fun j hj => ⟨?_, ?_⟩, fun j hj => ⟨?_, ?_⟩⟩
    · rw [rd_up, if_neg (by omega)]; exact a1
    · rw [rd_up, if_pos ⟨rfl, rfl⟩]; rfl
    · rw [rd_up, if_neg (by omega)]; exact a3
    · rw [rd_up, if_neg (by omega)]; exact a4
    · rw [rd_up, if_neg (by omega)]; exact a5
    · rw [rd_up, if_neg (by omega)]; exact a6
    · rw [rd_up, if_neg (by omega)]; exact (a7 j hj).1
    · rw [rd_up, if_neg (by omega)]; exact (a7 j hj).2
    · rw [rd_up, if_neg (by omega)]; exact (a8 j hj).1
    · rw [rd_up, if_neg (by omega)]; exact (a8 j hj).2
  · exact tc.kp (P := PcW r) ((Kp.rf.up (by unfold PcW; omega)).up (by unfold PcW; omega)) (by unfold PcW; omega) (fun j => by unfold PcW; omega) (fun j => by unfold PcW; omega)
  · exact tm.kp (P := PmW) (Kp.rf.up (by unfold PmW; omega)) (by unfold PmW; omega) (fun j => by unfold PmW; omega) (fun j => by unfold PmW; omega)
theorem dig_loop (hr : isF r) {x : Nat} (hx : x < 2 ^ 31) : ∀ (k t : Nat), t + k = 12 → ∀ N M : Nat, k < N → k < M → ∀ (V : qV) (c m : vMH), WK r T E V c m → t ≤ pop (V 4 1) → ∃ (d : Int32) (c' m' : vMH), lq2 N (X4_digIn_L2 r (nI x)) (nI t) c = some (nI t + d, c') ∧ ((X6_beepOf (nI x) m).bind fun q1 => lq2 M (X6_digs_L6 (nI x)) q1.1 q1.2) = some m' ∧ WR r T E V c m d c' m' := by
  intro k
  induction k with
  | zero =>
    intro t ht N M hN hM V c m K hp
    obtain ⟨N, rfl⟩ : ∃ M, N = M + 1 := ⟨N - 1, by omega⟩
    obtain ⟨M, rfl⟩ : ∃ N, M = N + 1 := ⟨M - 1, by omega⟩
    obtain ⟨b, c1, m1, h1, h2, h3, h4, h5⟩ := beep_ok hr K hx
    have ht12 : t = 12 := by omega
    subst ht12
    have O := K.1
    rcases h5 with rfl | ⟨f, hf, -, hb, -⟩
    · refine ⟨0, c, m1, ?_, ?_, WR.S hr K Kp.rf h4⟩
      · rw [lq2_s]; rw [X4_digIn_L2]
        rw [if_pos (by decide)]; rfl
      · rw [h2, bd_s, lq2_s]; rw [X6_digs_L6]
        rw [if_pos rfl]
    · exfalso
      have h12 := lt_n O hf
      have := pop_or h12 hb
      have := pop_le (V 4 1 ||| 2 ^ f)
      omega
  | succ k ih =>
    intro t ht N M hN hM V c m K hp
    obtain ⟨N, rfl⟩ : ∃ M, N = M + 1 := ⟨N - 1, by omega⟩
    obtain ⟨M, rfl⟩ : ∃ N, M = N + 1 := ⟨M - 1, by omega⟩
    obtain ⟨b, c1, m1, h1, h2, h3, h4, h5⟩ := beep_ok hr K hx
    have K1 := K.kS hr h3 h4
    have O := K.1
    have hu := K.2.2.2.2.2
    rw [h2, bd_s, lq2_s, lq2_s]
    rw [X4_digIn_L2, X6_digs_L6]
    dsimp only
    rw [if_neg (show ¬ (12 : Int32) ≤ nI t by rw [show (12 : Int32) = nI 12 from rfl]; exact nI_ge (by omega) (by decide)), h1, bd_s]
    dsimp only
    rcases h5 with rfl | ⟨f, hf, rfl, hb, -⟩
    · rw [if_pos (lies_no K1.2.1 O (by decide)), if_pos rfl]
      exact ⟨0, c1, m1, by rw [Int32.add_zero], rfl, WR.S hr K h3 h4⟩
    · have h12 := lt_n O hf
      have hd := O.d hf
      rw [if_neg (by rw [lies_z K1.2.1 O hf, hb]; decide), if_neg (nIm1 (by omega)), chk_t (inb_nI h12 (by decide)), chk_t (inb_nI h12 (by decide)), K1.2.1.d hf h12, K1.2.2.1.d hf h12, show (10 : Int32) = nI 10 from rfl]
      simp only [nI_les (show V 2 f < 2 ^ 31 by omega) (show 10 < 2 ^ 31 by decide), nI_lts (show 10 < 2 ^ 31 by decide) (show V 2 f < 2 ^ 31 by omega)]
      by_cases c1d : V 2 f ≤ 10
      · rw [if_pos c1d, if_neg (by omega), C_heard K1.2.1 O hf hb, bd_s, M_heard K1.2.2.1 O hf, bd_s]
        obtain ⟨c2, g1, g2⟩ := reck_ok hr K1.2.1 O K1.2.2.2.1 hu hf (w := 0) (by decide) (nI (heardZ V f))
        obtain ⟨m2, g3, g4⟩ := says_ok K1.2.2.1 O K1.2.2.2.2.1 hu hf (w := 0) (by decide) (nI (heardZ V f))
        have g1' : X3_reckon r 0 (nI f) (nI (heardZ V f)) c1 = some (sayV V E 0 f, c2) := g1
        have g3' : X6_says 0 (nI f) (nI (heardZ V f)) m1 = some (sayV V E 0 f, m2) := g3
        rw [g1', bd_s, g3', bd_s]
        dsimp only
        have K2 := K1.kS hr g2 g4
        by_cases c2d : sayV V E 0 f = 0
        · rw [if_pos c2d, if_pos c2d]
          exact ⟨0, c2, m2, by rw [Int32.add_zero], rfl, WR.S hr K (h3.tr g2) (h4.tr g4)⟩
        · rw [if_neg c2d, if_neg c2d]
          obtain ⟨c3, k1, k2⟩ := reck_ok hr K2.2.1 O K2.2.2.2.1 hu hf (w := 2) (by decide) (nI (heardZ V f))
          have kg : Kp (fun r k => r = 0 ∧ k = 32) m2 (v_up m2 0 32 (m2.1 0 32 + 1)) := Kp.rf.up ⟨rfl, rfl⟩
          have G3 : FM V (v_up m2 0 32 (m2.1 0 32 + 1)) := K2.2.2.1.kp kg (fun k h => by omega) (fun q k h1 h2 h3 => by omega) O.n
          have tm3 : TXM T E (v_up m2 0 32 (m2.1 0 32 + 1)) := K2.2.2.2.2.1.kp kg (by omega) (fun j => by omega) (fun j => by omega)
          obtain ⟨m3, k3, k4⟩ := says_ok G3 O tm3 hu hf (w := 2) (by decide) (nI (heardZ V f))
          have k1' : X3_reckon r 2 (nI f) (nI (heardZ V f)) c2 = some (nI (clampZ (sayV V E 2 f)), c3) := by rw [← (held_c _).1]; exact k1
          have k3' : X6_worth (nI f) (nI (heardZ V f)) (v_up m2 0 32 (m2.1 0 32 + 1)) = some (nI (clampZ (sayV V E 2 f)), m3) := by
            unfold X6_worth
            rw [show (2 : Int32) = nI 2 from rfl, k3, bd_s, ← (held_c _).2]; rfl
          rw [k1', bd_s, M_heard G3 O hf, bd_s, k3', bd_s]
          dsimp only
          have km : Kp PmS (v_up m2 0 32 (m2.1 0 32 + 1)) m3 := k4
          have K3 : WK r T E V c3 m3 := ⟨O, K2.2.1.kS hr k2, G3.kS O k4, K2.2.2.2.1.kS k2, tm3.kS k4, hu⟩
          -- worth, as it was ahead
          have hcw : c2.1 7 1 = c.1 7 1 := by rw [g2 _ _ (by unfold PcS; omega), h3 _ _ (by unfold PcS; omega)]
          have hmw : m2.1 0 33 = m.1 0 33 := by rw [g4 _ _ (by unfold PmS; omega), h4 _ _ (by unfold PmS; omega)]
          have hmg : m2.1 0 32 = m.1 0 32 := by rw [g4 _ _ (by unfold PmS; omega), h4 _ _ (by unfold PmS; omega)]
          have hr2 : r ≠ 7 ∧ 1 ≤ r ∧ r ≤ 4 := by rcases hr with rfl | rfl | rfl | rfl <;> decide
          have e1 : (v_up c3 7 1 (c2.1 7 1 + nI (clampZ (sayV V E 2 f)))).1 r 5 ||| jl 1 (nI f) = nI (V 4 1 ||| 2 ^ f) := by
            rw [rd_up, if_neg (by omega), K3.2.1.g, or_jl h12]
          have e2 : m3.1 0 12 ||| jl 1 (nI f) = nI (V 4 1 ||| 2 ^ f) := by
            rw [K3.2.2.1.g, or_jl h12]
          rw [e1, e2]
          -- the reference writes worth ahead of the bit
          have K4 := take_ok hr K3 hf (c2.1 7 1 + nI (clampZ (sayV V E 2 f)))
          have kw : Kp (fun r k => r = 0 ∧ k = 33) (v_up m3 0 12 (nI (V 4 1 ||| 2 ^ f))) (v_up (v_up m3 0 33 (m2.1 0 33 + nI (clampZ (sayV V E 2 f)))) 0 12 (nI (V 4 1 ||| 2 ^ f))) := by
            intro q j hq
            simp only [rd_up]
            by_cases z : q = 0 ∧ j = 12
            · rw [if_pos z, if_pos z]
            · rw [if_neg z, if_neg z, if_neg hq]
          have K5 : WK r T E (qs V 4 1 (V 4 1 ||| 2 ^ f)) (v_up (v_up c3 7 1 (c2.1 7 1 + nI (clampZ (sayV V E 2 f)))) r 5 (nI (V 4 1 ||| 2 ^ f))) (v_up (v_up m3 0 33 (m2.1 0 33 + nI (clampZ (sayV V E 2 f)))) 0 12 (nI (V 4 1 ||| 2 ^ f))) :=
            ⟨K4.1, K4.2.1, K4.2.2.1.kp kw (fun k h => by omega) (fun q k h1 h2 h3 => by omega) O.n, K4.2.2.2.1, K4.2.2.2.2.1.kp kw (by omega) (fun j => by omega) (fun j => by omega), hu⟩
          have hp2 : t + 1 ≤ pop (qs V 4 1 (V 4 1 ||| 2 ^ f) 4 1) := by
            show t + 1 ≤ pop (V 4 1 ||| 2 ^ f)
            rw [pop_or h12 hb]; omega
          obtain ⟨d, c', m', y1, y2, y3⟩ := ih (t + 1) (by omega) N M (by omega) (by omega) _ _ _ K5 hp2
          refine ⟨1 + d, c', m', ?_, y2, ?_⟩
          · rw [nI_1, y1, ← nI_1, Int32.add_assoc]
          · refine WR.tr (V' := qs V 4 1 (V 4 1 ||| 2 ^ f)) (d := 1) (e := nI (clampZ (sayV V E 2 f))) ?_ ?_ ?_ ?_ ?_ ?_ y3
            · intro a j hz
              unfold qs
              rw [if_neg hz]
            · exact ((((PcSW h3).tr (PcSW g2)).tr (PcSW k2)).up (by unfold PcW; omega)).up (by unfold PcW; omega)
            · exact (((((PmSW h4).tr (PmSW g4)).tr (kg.mono (fun q k z => by unfold PmW; omega))).tr (PmSW k4)).up (by unfold PmW; omega)).up (by unfold PmW; omega)
            · rw [rd_up, if_neg (by omega), rd_up, if_neg (by omega), k4 _ _ (by unfold PmS; omega), rd_up, if_pos ⟨rfl, rfl⟩, hmg]
            · rw [rd_up, if_neg (by omega), rd_up, if_pos ⟨rfl, rfl⟩, hcw]
            · rw [rd_up, if_neg (by omega), rd_up, if_pos ⟨rfl, rfl⟩, hmw]
      · rw [if_neg c1d, if_pos (by omega)]
        exact ⟨0, c1, m1, by rw [Int32.add_zero], rfl, WR.S hr K h3 h4⟩
theorem dig_ok (hr : isF r) {x : Nat} (hx : x < 2 ^ 31) (K : WK r T E V c m) : ∃ (d : Int32) (c' m' : vMH), X4_digIn r (nI x) c = some (d, c') ∧ X6_digs (nI x) m = some m' ∧ WR r T E V c m d c' m' := by
  obtain ⟨d, c', m', h1, h2, h3⟩ := dig_loop hr hx 12 0 rfl 4096 4096 (by decide) (by decide) V c m K (Nat.zero_le _)
  refine ⟨d, c', m', ?_, h2, h3⟩
  unfold X4_digIn
  rw [show (0 : Int32) = nI 0 from rfl, h1, nI_0, Int32.zero_add]
/-- strip y, cell by cell -/
theorem line_ok (hr : isF r) {y : Nat} (hy : y < 6) : ∀ (k i : Nat), i + k = 8 → ∀ N M : Nat, k < N → k < M → ∀ (V : qV) (c m : vMH), WK r T E V c m → ∃ (d : Int32) (c' m' : vMH), (∀ (rec4 : Int32 → Int32 → vMH → Option (Int32 × vMH)) (num : Int32), lq3 N (X4_walkStrips_L32 r (nI y) rec4) num (nI i) c = rec4 (num + d) (nI y + 1) c') ∧ lq2 M (X6_walks_L2 (nI y)) (nI i) m = some m' ∧ WR r T E V c m d c' m' := by
  intro k
  induction k with
  | zero =>
    intro i hi N M hN hM V c m K
    obtain ⟨N, rfl⟩ : ∃ M, N = M + 1 := ⟨N - 1, by omega⟩
    obtain ⟨M, rfl⟩ : ∃ N, M = N + 1 := ⟨M - 1, by omega⟩
    have : i = 8 := by omega
    subst this
    refine ⟨0, c, m, fun rec4 num => ?_, ?_, WR.rf K⟩
    · rw [lq3_s]; rw [X4_walkStrips_L32]
      rw [if_pos (by decide), Int32.add_zero]
    · rw [lq2_s]; rw [X6_walks_L2]
      rw [if_pos (by decide)]
  | succ k ih =>
    intro i hi N M hN hM V c m K
    obtain ⟨N, rfl⟩ : ∃ M, N = M + 1 := ⟨N - 1, by omega⟩
    obtain ⟨M, rfl⟩ : ∃ N, M = N + 1 := ⟨M - 1, by omega⟩
    have hi8 : i < 8 := by omega
    -- which cell
    obtain ⟨s, hs, hs1, hs2⟩ : ∃ s : Nat, s < 48 ∧ (∀ {ρ : Type} (F : Int32 → ρ), wj1 (fun s12 => F (nI y * 8 + s12)) (fun J => if jr (nI y) 2 = 0 then J (nI i) else J (7 - nI i)) = F (nI s)) ∧ (∀ {ρ : Type} (F : Int32 → ρ), wj1 (fun s12 => F (8 * nI y + s12)) (fun J => if jr (nI y) 2 = 0 then J (nI i) else J (7 - nI i)) = F (nI s)) := by
      have e0 : jr (nI y) 2 = nI (y % 2) := pk_rem (by omega) (by decide) (by decide)
      have e3 : (nI (y % 2) = 0) = (y % 2 = 0) := by rw [show (0 : Int32) = nI 0 from rfl]; exact nI_eqs (by omega) (by decide)
      refine ⟨if y % 2 = 0 then 8 * y + i else 8 * y + (7 - i), by split <;> omega, fun F => ?_, fun F => ?_⟩
      · simp only [wj1]
        rw [e0]
        simp only [e3]
        by_cases h : y % 2 = 0
        · rw [if_pos h, if_pos h, show (8 : Int32) = nI 8 from rfl, pk_mul, nI_add, Nat.mul_comm]
        · rw [if_neg h, if_neg h, show (8 : Int32) = nI 8 from rfl, show (7 : Int32) = nI 7 from rfl, pk_mul, pk_sub (by omega), nI_add, Nat.mul_comm]
      · simp only [wj1]
        rw [e0]
        simp only [e3]
        by_cases h : y % 2 = 0
        · rw [if_pos h, if_pos h, show (8 : Int32) = nI 8 from rfl, pk_mul, nI_add]
        · rw [if_neg h, if_neg h, show (8 : Int32) = nI 8 from rfl, show (7 : Int32) = nI 7 from rfl, pk_mul, pk_sub (by omega), nI_add]
    obtain ⟨d, c1, m1, h1, h2, h3⟩ := dig_ok hr (show s < 2 ^ 31 by omega) K
    obtain ⟨W, e, g0, g1, g2, g3, g4, g5, g6⟩ := h3
    obtain ⟨d2, c', m', y1, y2, y3⟩ := ih (i + 1) (by omega) N M (by omega) (by omega) W c1 m1 g1
    refine ⟨d + d2, c', m', fun rec4 num => ?_, ?_, WR.tr g0 g2 g3 g4 g5 g6 y3⟩
    · rw [lq3_s]; rw [X4_walkStrips_L32]
      rw [if_neg (show ¬ (8 : Int32) ≤ nI i by rw [show (8 : Int32) = nI 8 from rfl]; exact nI_ge hi8 (by decide))]
      rw [hs1 (fun s => (X4_digIn r s c).bind fun q14 => lq3 N (X4_walkStrips_L32 r (nI y) rec4) (num + q14.1) (nI i + 1) q14.2), h1, bd_s]
      dsimp only
      rw [nI_1, y1, Int32.add_assoc]
    · rw [lq2_s]; rw [X6_walks_L2]
      rw [if_neg (show ¬ (8 : Int32) ≤ nI i by rw [show (8 : Int32) = nI 8 from rfl]; exact nI_ge hi8 (by decide))]
      rw [hs2 (fun s => (X6_digs s m).bind fun q7 => lq2 M (X6_walks_L2 (nI y)) (nI i + 1) q7), h2, bd_s, nI_1, y2]
theorem all_ok (hr : isF r) {b : Nat} (hb : b < 64) : ∀ (k y : Nat), y + k = 6 → ∀ N M : Nat, k < N → k < M → ∀ (V : qV) (c m : vMH) (num : Int32), WK r T E V c m → ∃ (d : Int32) (c' m' : vMH), lq3 N (X4_walkStrips_L10 r (nI b)) num (nI y) c = some (num + d, c') ∧ lq2 M (X6_walksAll_L2 (nI b)) (nI y) m = some m' ∧ WR r T E V c m d c' m' := by
  intro k
  induction k with
  | zero =>
    intro i hi N M hN hM V c m num K
    obtain ⟨N, rfl⟩ : ∃ M, N = M + 1 := ⟨N - 1, by omega⟩
    obtain ⟨M, rfl⟩ : ∃ N, M = N + 1 := ⟨M - 1, by omega⟩
    have : i = 6 := by omega
    subst this
    refine ⟨0, c, m, ?_, ?_, WR.rf K⟩
    · rw [lq3_s]; rw [X4_walkStrips_L10]
      rw [if_pos (by decide), Int32.add_zero]
    · rw [lq2_s]; rw [X6_walksAll_L2]
      rw [if_pos (by decide)]
  | succ k ih =>
    intro i hi N M hN hM V c m num K
    obtain ⟨N, rfl⟩ : ∃ M, N = M + 1 := ⟨N - 1, by omega⟩
    obtain ⟨M, rfl⟩ : ∃ N, M = N + 1 := ⟨M - 1, by omega⟩
    have hi6 : i < 6 := by omega
    have hn : ¬ (6 : Int32) ≤ nI i := by rw [show (6 : Int32) = nI 6 from rfl]; exact nI_ge hi6 (by decide)
    rw [lq3_s, lq2_s]; rw [X4_walkStrips_L10, X6_walksAll_L2]
    rw [if_neg hn, if_neg hn]
    simp only [bit0 (show b < 4096 by omega) (show i < 12 by omega), bit1 (show b < 4096 by omega) (show i < 12 by omega)]
    cases ht : b.testBit i with
    | false =>
      rw [if_pos rfl, if_neg (by decide), nI_1]
      exact ih (i + 1) (by omega) N M (by omega) (by omega) V c m num K
    | true =>
      rw [if_neg (by decide), if_pos rfl]
      obtain ⟨d, c1, m1, h1, h2, h3⟩ := line_ok hr hi6 8 0 rfl 4096 4096 (by decide) (by decide) V c m K
      obtain ⟨W, e, g0, g1, g2, g3, g4, g5, g6⟩ := h3
      obtain ⟨d2, c', m', y1, y2, y3⟩ := ih (i + 1) (by omega) N M (by omega) (by omega) W c1 m1 (num + d) g1
      refine ⟨d + d2, c', m', ?_, ?_, WR.tr g0 g2 g3 g4 g5 g6 y3⟩
      · rw [show (0 : Int32) = nI 0 from rfl, h1, nI_1, y1, Int32.add_assoc]
      · unfold X6_walks
        rw [show (0 : Int32) = nI 0 from rfl, h2, bd_s, nI_1, y2]
/-- strips are walked -/
theorem walk_ok (hr : isF r) {b : Nat} (hb : b < 64) (K : WK r T E V c m) : ∃ (d : Int32) (c' m' : vMH), X4_walkStrips r (nI b) c = some (d, c') ∧ X6_walksAll (nI b) m = some m' ∧ WR r T E V (v_up c 7 1 0) m d c' m' := by
  have hr2 : r ≠ 7 ∧ 1 ≤ r ∧ r ≤ 4 := by rcases hr with rfl | rfl | rfl | rfl <;> decide
  have kc : Kp (fun q k => q = 7 ∧ k = 1) c (v_up c 7 1 0) := Kp.rf.up ⟨rfl, rfl⟩
  have K1 : WK r T E V (v_up c 7 1 0) m := ⟨K.1, K.2.1.kp kc (fun k _ _ _ => by omega) (fun q k _ _ => by omega), K.2.2.1, K.2.2.2.1.kp kc (by omega) (fun j => by omega) (fun j => by omega), K.2.2.2.2⟩
  obtain ⟨d, c', m', h1, h2, h3⟩ := all_ok hr hb 6 0 rfl 4096 4096 (by decide) (by decide) V _ m 0 K1
  refine ⟨d, c', m', ?_, h2, h3⟩
  unfold X4_walkStrips
  rw [Int32.zero_add] at h1
  exact h1
end WALK
