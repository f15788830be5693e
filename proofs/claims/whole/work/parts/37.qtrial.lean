/-! PURE PART, calls on a field that is laid aside -/
def PcF (q k : Nat) : Prop := q = 4 ∨ (21 ≤ q ∧ q ≤ 24) ∨ q = 27 ∨ q = 28 ∨ (q = 7 ∧ k = 1)
def PcX (q k : Nat) : Prop := PcF q k ∨ q = 3 ∨ (17 ≤ q ∧ q ≤ 20)
def PmZ (q k : Nat) : Prop := (q = 0 ∧ (k = 12 ∨ k = 14 ∨ k = 15 ∨ (17 ≤ k ∧ k ≤ 33))) ∨ q = 5 ∨ q = 6
section TRIAL
variable {c m : vMH} {T : Nat} {E : qE} {V : qV}
theorem PcFX {a b : vMH} (h : Kp PcF a b) : Kp PcX a b := h.mono (fun q k z => Or.inl z)
theorem rel_trial {c' m' : vMH} (O : OKV V) (F : FC 1 V c) (hu : V 4 5 < T) (RR : RST T E c m) (kc : Kp PcX c c') (G' : FM V m') (km : Kp PmY m m') : Rel c' m' :=
  ⟨V, T, E, O, F.kp kc (fun k _ _ _ => by unfold PcX PcF; omega) (fun q k _ _ => by unfold PcX PcF; omega), G', hu, RR.kp (kc.mono (fun q k h => by unfold PcX PcF at h; unfold PcY; omega)) km⟩
theorem AS.z {m' : vMH} (A : AS V m) (k : Kp PmZ m m') : AS V m' := A.kp k (fun j => by unfold PmZ; omega) (fun j => by unfold PmZ; omega) (fun j _ _ => by unfold PmZ; omega)
theorem TXM.z {m' : vMH} (h : TXM T E m) (k : Kp PmZ m m') : TXM T E m' := h.kp k (by unfold PmZ; omega) (fun j => by unfold PmZ; omega) (fun j => by unfold PmZ; omega)
theorem TXC.x {c' : vMH} (h : TXC T E c) (k : Kp PcX c c') : TXC T E c' := h.kp k (by unfold PcX PcF; omega) (fun j => by unfold PcX PcF; omega) (fun j => by unfold PcX PcF; omega)
theorem TXC.f {c' : vMH} (h : TXC T E c) (k : Kp PcF c c') : TXC T E c' := h.x (PcFX k)
theorem PmWZ {a b : vMH} (h : Kp PmW a b) : Kp PmZ a b := h.mono (fun q k z => by unfold PmW at z; unfold PmZ; omega)
theorem PmKZ {a b : vMH} (h : Kp PmK a b) : Kp PmZ a b := h.mono (fun q k z => by unfold PmK at z; unfold PmZ; omega)
theorem PmPZ {a b : vMH} (h : Kp PmP a b) : Kp PmZ a b := h.mono (fun q k z => by unfold PmP at z; unfold PmZ; omega)
theorem PmZY {a b : vMH} (h : Kp PmZ a b) : Kp PmY a b := h.mono (fun q k z => by unfold PmZ at z; unfold PmY; omega)
theorem PmAY {a b : vMH} (h : Kp PmA a b) : Kp PmY a b := h.mono (fun q k z => by unfold PmA at z; unfold PmY; omega)
theorem PcW4 {a b : vMH} (h : Kp (PcW 4) a b) : Kp PcF a b := h.mono (fun q k z => by unfold PcW at z; unfold PcF; omega)
theorem PcB4 {a b : vMH} (h : Kp (PcB 4) a b) : Kp PcF a b := h.mono (fun q k z => by unfold PcB at z; unfold PcF; omega)
theorem PcP4 {a b : vMH} (h : Kp (PcP 4) a b) : Kp PcF a b := h.mono (fun q k z => by unfold PcP at z; unfold PcF; omega)
theorem TXM.a {m' : vMH} (h : TXM T E m) (k : Kp PmA m m') : TXM T E m' := h.kp k (by unfold PmA; omega) (fun j => by unfold PmA; omega) (fun j => by unfold PmA; omega)
theorem qsub (x y d : Int32) : x - y = (x - (y + d)) + d := by
  rw [← Int32.ofInt_toInt x, ← Int32.ofInt_toInt y, ← Int32.ofInt_toInt d]
  show zI _ - zI _ = (zI _ - (zI _ + zI _)) + zI _
  rw [zI_add, zI_sub, zI_sub, zI_add]
  congr 1
  omega
/-- strips are walked on trial, and all is laid back -/
theorem trial_one {r1 : Nat} (h1 : r1 = 1 ∨ r1 = 3) {V0 : qV} (O : OKV V) (F : FC r1 V c) (tc : TXC T E c) (tm : TXM T E m) (hu : V 4 5 < T) (G : FM V m) (A : AS V0 m) (S : SV V V0) (O0 : OKV V0) (e32 : m.1 0 32 = 0) (e33 : m.1 0 33 = 0) {b : Nat} (hb : b < 64) : ∃ (d w : Int32) (c' m1 m2 : vMH), X5_foundIn r1 (nI b) c = some (d, c') ∧ c'.1 7 1 = w ∧ X6_walksAll (nI b) m = some m1 ∧ m1.1 0 32 = d ∧ m1.1 0 33 = w ∧ X6_laysBack m1 = some m2 ∧ FM V0 m2 ∧ AS V0 m2 ∧ m2.1 0 32 = 0 ∧ m2.1 0 33 = 0 ∧ Kp PcF c c' ∧ Kp PmZ m m2 := by
  obtain ⟨b1, b2⟩ := bec_ok (r := 4) (r1 := r1) (by rcases h1 with rfl | rfl <;> simp) O F
  have K : WK 4 T E V (X0_become 4 r1 c) m := ⟨O, b1, G, tc.f (PcB4 b2), tm, hu⟩
  obtain ⟨d, c', m1, g1, g2, W, e, w0, w1, w2, w3, w4, w5, w6⟩ := walk_ok isF4 hb K
  have S2 : SV W V0 := (SV.g w0).tr S
  obtain ⟨m2, k1, k2, k3, k4, k5, k6⟩ := back_ok O0 S2 (A.z (PmWZ w3)) w1.2.2.1
  refine ⟨d, e, c', m1, m2, ?_, ?_, g2, by rw [w4, e32, Int32.zero_add], by rw [w6, e33, Int32.zero_add], k1, k2, k3, k4, k5, (PcB4 b2).tr ((Kp.rf.up (by unfold PcF; omega)).tr (PcW4 w2)), (PmWZ w3).tr (PmKZ k6)⟩
  · unfold X5_foundIn
    rw [g1, bd_s]
  · rw [w5, rd_up, if_pos ⟨rfl, rfl⟩, Int32.zero_add]
theorem op_found (a1 a2 : Int32) : OpOK Rel (oC_found a1 a2) (oM_found a1 a2) := by
  intro c m R
  unfold oC_found oM_found X5_found X6_found
  by_cases h1 : 0 ≤ a1.toInt ∧ a1.toInt ≤ 63
  · rw [if_neg (wi_n (by rfl) (by rfl) h1), if_neg (in_n (by rfl) (by rfl) h1)]
    by_cases h2 : 0 ≤ a2.toInt ∧ a2.toInt ≤ 1
    · rw [if_neg (wi_n (by rfl) (by rfl) h2), if_neg (in_n (by rfl) (by rfl) h2)]
      obtain ⟨b, hb, rfl⟩ := nI_ofI (v := a1) (n := 63) h1.1 h1.2 (by decide)
      obtain ⟨V, T, E, O, F, G, hu, RR⟩ := R
      obtain ⟨m0, a1, a3, a4, a5, a6, a7⟩ := aside_ok O G
      obtain ⟨d, w, c', m1, m2, g1, g2, g3, g4, g5, g6, g7, g8, g9, g10, g11, g12⟩ := trial_one (Or.inl rfl) O F RR.1 (RR.2.1.a a7) hu a3 a4 SV.rf O a5 a6 (show b < 64 by omega)
      simp only [wj1]
      rw [g1, a1, bd_s, bd_s, g3, bd_s, g6, bd_s, g4, g5, g2]
      have RF : Rel c' m2 := rel_trial O F hu RR (PcFX g11) g7 ((PmAY a7).tr (PmZY g12))
      by_cases h0 : a2 = 0
      · rw [if_pos h0, if_pos h0]; exact ⟨d, c', m2, rfl, rfl, RF⟩
      · rw [if_neg h0, if_neg h0]; exact ⟨w, c', m2, rfl, rfl, RF⟩
    · rw [if_pos (wi_p (by rfl) (by rfl) h2), if_pos (in_p (by rfl) (by rfl) h2)]
      exact ⟨-2, c, m, rfl, rfl, R⟩
  · rw [if_pos (wi_p (by rfl) (by rfl) h1), if_pos (in_p (by rfl) (by rfl) h1)]
    exact ⟨-2, c, m, rfl, rfl, R⟩
theorem op_years (a1 : Int32) : OpOK Rel (oC_years a1) (oM_years a1) := by
  intro c m R
  unfold oC_years oM_years X5_years X6_years
  by_cases h1 : 0 ≤ a1.toInt ∧ a1.toInt ≤ 20
  · rw [if_neg (wi_n (by rfl) (by rfl) h1), if_neg (in_n (by rfl) (by rfl) h1)]
    obtain ⟨n, hn, rfl⟩ := nI_ofI (v := a1) (n := 20) h1.1 h1.2 (by decide)
    obtain ⟨V, T, E, O, F, G, hu, RR⟩ := R
    obtain ⟨m0, b1, b3, b4, b5, b6, b7⟩ := aside_ok O G
    obtain ⟨q1, q2⟩ := bec_ok (r := 4) (r1 := 1) (Or.inl ⟨rfl, rfl⟩) O F
    have key : ∀ (J' : vMH → Option (Int32 × vMH)) (k i : Nat), i + k = n → ∀ N, k < N → ∀ (W : qV) (c m : vMH) (num : Int32), WK 4 T E W c m → SV W V → AS V m → ∃ (num' : Int32) (c' m' : vMH) (W' : qV), lq3 N (X5_years_L28 (nI n)) num (nI i) c = some (num', c') ∧ lq2 N (X6_years_L21 (nI n) J') (nI i) m = J' m' ∧ m'.1 0 32 - m.1 0 32 = num' - num ∧ SV W' V ∧ AS V m' ∧ FM W' m' ∧ Kp PcF c c' ∧ Kp PmZ m m' := by
      intro J' k
      induction k with
      | zero =>
        intro i hi N hN W c m num K S A
        obtain ⟨N, rfl⟩ : ∃ M, N = M + 1 := ⟨N - 1, by omega⟩
        rw [lq3_s, lq2_s, X5_years_L28, X6_years_L21, if_pos (nI_le (by omega) (by omega)), if_pos (nI_le (by omega) (by omega))]
        exact ⟨num, c, m, W, rfl, rfl, by rw [Int32.sub_self, Int32.sub_self], S, A, K.2.2.1, Kp.rf, Kp.rf⟩
      | succ k ih =>
        intro i hi N hN W c m num K S A
        obtain ⟨N, rfl⟩ : ∃ M, N = M + 1 := ⟨N - 1, by omega⟩
        obtain ⟨d, c1, m1, g1, g2, W1, e, w0, w1, w2, w3, w4, w5, w6⟩ := walk_ok isF4 (b := 63) (by decide) K
        obtain ⟨c2, t1, t2, t3⟩ := turn_C isF4 w1.2.1 w1.1
        obtain ⟨m2, u1, u2, u3⟩ := turn_M w1.2.2.1 w1.1
        have K2 : WK 4 T E (ploV W1) c2 m2 := ⟨ploV_O w1.1, t2, u2, w1.2.2.2.1.f (PcP4 t3), w1.2.2.2.2.1.z (PmPZ u3), by have := (SV.plo (V := W1)).2.2.1; have := w1.2.2.2.2.2; omega⟩
        have S2 : SV (ploV W1) V := SV.plo.tr ((SV.g w0).tr S)
        obtain ⟨num', c', m', W', y1, y2, y3, y4, y5, y6, y7, y8⟩ := ih (i + 1) (by omega) N (by omega) (ploV W1) c2 m2 (num + d) K2 S2 ((A.z (PmWZ w3)).z (PmPZ u3))
        rw [lq3_s, lq2_s, X5_years_L28, X6_years_L21, if_neg (nI_ge (by omega) (by omega)), if_neg (nI_ge (by omega) (by omega)), show (63 : Int32) = nI 63 from rfl, g1, bd_s, g2, bd_s]
        dsimp only
        rw [t1, bd_s, u1, bd_s, nI_1]
        refine ⟨num', c', m', W', y1, y2, ?_, y4, y5, y6, ((Kp.rf.up (by unfold PcF; omega)).tr (PcW4 w2)).tr ((PcP4 t3).tr y7), ((PmWZ w3).tr (PmPZ u3)).tr y8⟩
        rw [u3 _ _ (by unfold PmP; omega), w4] at y3
        rw [qsub (m'.1 0 32) (m.1 0 32) d, y3]
        exact (qsub num' num d).symm
    simp only [wj1]
    rw [b1, bd_s]
    obtain ⟨num', c', m', W', y1, y2, y3, y4, y5, y6, y7, y8⟩ := key (fun mh4 => ((X6_laysBack mh4).bind fun q6 => (some ((mh4.1 0 32), q6)))) n 0 (by omega) 4096 (by omega) V (X0_become 4 1 c) m0 0 ⟨O, q1, b3, RR.1.f (PcB4 q2), RR.2.1.a b7, hu⟩ SV.rf b4
    obtain ⟨m2, k1, k2, k3, k4, k5, k6⟩ := back_ok O y4 y5 y6
    rw [show (nI 0 : Int32) = 0 from rfl] at y1 y2
    rw [y1, y2, k1, bd_s]
    have e2 : m'.1 0 32 = num' := by
      rw [b5] at y3
      simpa using y3
    rw [e2]
    exact ⟨num', c', m2, rfl, rfl, rel_trial O F hu RR (PcFX ((PcB4 q2).tr y7)) k2 ((PmAY b7).tr (PmZY (y8.tr (PmKZ k6))))⟩
  · rw [if_pos (wi_p (by rfl) (by rfl) h1), if_pos (in_p (by rfl) (by rfl) h1)]
    exact ⟨-2, c, m, rfl, rfl, R⟩
def itP (V : qV) : Nat → qV
  | 0 => V
  | n + 1 => ploV (itP V n)
theorem itP_O (O : OKV V) : ∀ n, OKV (itP V n)
  | 0 => O
  | n + 1 => ploV_O (itP_O O n)
theorem itP_S : ∀ n, SV (itP V n) V
  | 0 => SV.rf
  | n + 1 => SV.plo.tr (itP_S n)
theorem it_M (O : OKV V) (n : Nat) (hn : n < 2 ^ 31) (J : vMH → Option (Int32 × vMH)) : ∀ k i : Nat, i + k = n → ∀ N, k < N → ∀ m : vMH, FM (itP V i) m → ∃ m', lq2 N (X6_soonest_L34 (nI n) J) (nI i) m = J m' ∧ FM (itP V n) m' ∧ Kp PmP m m' := by
  intro k
  induction k with
  | zero =>
    intro i hi N hN m G
    obtain ⟨N, rfl⟩ : ∃ M, N = M + 1 := ⟨N - 1, by omega⟩
    rw [lq2_s, X6_soonest_L34, if_pos (nI_le (by omega) (by omega))]
    have : i = n := by omega
    subst this
    exact ⟨m, rfl, G, Kp.rf⟩
  | succ k ih =>
    intro i hi N hN m G
    obtain ⟨N, rfl⟩ : ∃ M, N = M + 1 := ⟨N - 1, by omega⟩
    obtain ⟨m1, u1, u2, u3⟩ := turn_M G (itP_O O i)
    obtain ⟨m', y1, y2, y3⟩ := ih (i + 1) (by omega) N (by omega) m1 u2
    rw [lq2_s, X6_soonest_L34, if_neg (nI_ge (by omega) (by omega)), u1, bd_s, nI_1]
    exact ⟨m', y1, y2, u3.tr y3⟩
theorem soon_loop (O : OKV V) (hu : V 4 5 < T) : ∀ (J J' : Int32 → Int32 → vMH → Option (Int32 × vMH)) (k n : Nat), n + k = 21 → ∀ N, k < N → ∀ (c m : vMH) (b t : Int32), FC 3 (itP V n) c → TXC T E c → TXM T E m → FM V m → AS V m → m.1 0 32 = 0 → m.1 0 33 = 0 → ∃ (b' t' : Int32) (c' m' : vMH), lq4 N (X5_soonest_L30 J) b t (nI n) c = J b' t' c' ∧ lq4 N (X6_soonest_L24 J') b t (nI n) m = J' b' t' m' ∧ FM V m' ∧ Kp PcX c c' ∧ Kp PmZ m m' := by
  intro J J' k
  induction k with
  | zero =>
    intro n hn N hN c m b t F3 tc tm G A e32 e33
    obtain ⟨N, rfl⟩ : ∃ M, N = M + 1 := ⟨N - 1, by omega⟩
    have : n = 21 := by omega
    subst this
    rw [lq4_s, lq4_s, X5_soonest_L30, X6_soonest_L24, if_pos (by decide), if_pos (by decide)]
    exact ⟨b, t, c, m, rfl, rfl, G, Kp.rf, Kp.rf⟩
  | succ k ih =>
    intro n hn N hN c m b t F3 tc tm G A e32 e33
    obtain ⟨N, rfl⟩ : ∃ M, N = M + 1 := ⟨N - 1, by omega⟩
    have hnn : ¬ (20 : Int32) < nI n := by rw [show (20 : Int32) = nI 20 from rfl]; exact nI_nlt (by omega) (by decide)
    have hun : itP V n 4 5 < T := by have := (itP_S (V := V) n).2.2.1; omega
    rw [lq4_s, lq4_s, X5_soonest_L30, X6_soonest_L24, if_neg hnn, if_neg hnn]
    simp only [wj1, wj2]
    obtain ⟨m1, i1, i2, i3⟩ := it_M O n (by omega) (fun mh15 => ((X6_walksAll 63 mh15).bind fun q17 => ((X6_laysBack q17).bind fun q19 => (if (q17.1 0 32) ≤ t then (lq4 N (X6_soonest_L24 J') b t (nI n + 1) q19) else (lq4 N (X6_soonest_L24 J') (nI n) (q17.1 0 32) (nI n + 1) q19))))) n 0 (by omega) 4096 (by omega) m G
    obtain ⟨d, w, c1, m2, m3, g1, g2, g3, g4, g5, g6, g7, g8, g9, g10, g11, g12⟩ := trial_one (Or.inr rfl) (itP_O O n) F3 tc (tm.z (PmPZ i3)) hun i2 (A.z (PmPZ i3)) (itP_S n) O (by rw [i3 _ _ (by unfold PmP; omega)]; exact e32) (by rw [i3 _ _ (by unfold PmP; omega)]; exact e33) (show 63 < 64 by decide)
    have F31 : FC 3 (itP V n) c1 := F3.kp g11 (fun k _ _ _ => by unfold PcF; omega) (fun q k _ _ => by unfold PcF; omega)
    obtain ⟨c2, t1, t2, t3⟩ := turn_C isF3 F31 (itP_O O n)
    have kc : Kp PcX c c2 := (PcFX g11).tr (t3.mono (fun q k h => by unfold PcP at h; unfold PcX; omega))
    have km : Kp PmZ m m3 := (PmPZ i3).tr g12
    have i1' := i1
    rw [show (nI 0 : Int32) = 0 from rfl] at i1'
    rw [i1', show (63 : Int32) = nI 63 from rfl, g1, bd_s, g3, bd_s, g6, bd_s, g4]
    dsimp only
    rw [t1, bd_s, nI_1]
    have go : ∀ b t : Int32, ∃ (b' t' : Int32) (c' m' : vMH), lq4 N (X5_soonest_L30 J) b t (nI (n + 1)) c2 = J b' t' c' ∧ lq4 N (X6_soonest_L24 J') b t (nI (n + 1)) m3 = J' b' t' m' ∧ FM V m' ∧ Kp PcX c c' ∧ Kp PmZ m m' := by
      intro b t
      obtain ⟨b', t', c', m', y1, y2, y3, y4, y5⟩ := ih (n + 1) (by omega) N (by omega) c2 m3 b t t2 (tc.x kc) (tm.z km) g7 g8 g9 g10
      exact ⟨b', t', c', m', y1, y2, y3, kc.tr y4, km.tr y5⟩
    by_cases h : d ≤ t
    · rw [if_pos h, if_pos h]; exact go b t
    · rw [if_neg h, if_neg h]; exact go (nI n) d
theorem wj3_e {A1 A2 A3 ρ : Type} (F : A1 → A2 → A3 → ρ) (C : (A1 → A2 → A3 → ρ) → ρ) : wj3 F C = C F := rfl
theorem op_soonest (a1 : Int32) : OpOK Rel (oC_soonest a1) (oM_soonest a1) := by
  intro c m R
  unfold oC_soonest oM_soonest X5_soonest X6_soonest
  by_cases h1 : 0 ≤ a1.toInt ∧ a1.toInt ≤ 1
  · rw [if_neg (wi_n (by rfl) (by rfl) h1), if_neg (in_n (by rfl) (by rfl) h1)]
    obtain ⟨V, T, E, O, F, G, hu, RR⟩ := R
    obtain ⟨m0, b1, b3, b4, b5, b6, b7⟩ := aside_ok O G
    obtain ⟨q1, q2⟩ := bec_ok (r := 3) (r1 := 1) (Or.inr (Or.inr ⟨rfl, rfl⟩)) O F
    have q1' : FC 3 (itP V 0) (X0_become 3 1 c) := by rw [show itP V 0 = V from rfl]; exact q1
    generalize hc0 : X0_become 3 1 c = c0 at q1 q1' q2 ⊢
    have key := soon_loop (T := T) (E := E) O hu
    rw [b1, bd_s, wj3_e, wj3_e]
    have kb : Kp PcX c c0 := q2.mono (fun q k h => by unfold PcB at h; unfold PcX; omega)
    obtain ⟨b', t', c', m', y1, y2, y3, y4, y5⟩ := key (fun v2_2 v3_3 mh4 => (if a1 = 0 then (some (v2_2, mh4)) else (some (v3_3, mh4)))) (fun v2_2 v3_3 mh4 => (if a1 = 0 then (some (v2_2, mh4)) else (some (v3_3, mh4)))) 21 0 rfl 4096 (by decide) c0 m0 0 (-1) q1' (RR.1.x kb) (RR.2.1.a b7) b3 b4 b5 b6
    rw [show (nI 0 : Int32) = 0 from rfl] at y1 y2
    rw [y1, y2]
    have RF : Rel c' m' := rel_trial O F hu RR (kb.tr y4) y3 ((PmAY b7).tr (PmZY y5))
    by_cases h0 : a1 = 0
    · rw [if_pos h0, if_pos h0]; exact ⟨b', c', m', rfl, rfl, RF⟩
    · rw [if_neg h0, if_neg h0]; exact ⟨t', c', m', rfl, rfl, RF⟩
  · rw [if_pos (wi_p (by rfl) (by rfl) h1), if_pos (in_p (by rfl) (by rfl) h1)]
    exact ⟨-2, c, m, rfl, rfl, R⟩
theorem op_strips (a1 a2 : Int32) : OpOK Rel (oC_strips a1 a2) (oM_strips a1 a2) := by
  intro c m R
  unfold oC_strips oM_strips X5_strips X6_strips
  by_cases h1 : 0 ≤ a1.toInt ∧ a1.toInt ≤ 6
  · rw [if_neg (wi_n (by rfl) (by rfl) h1), if_neg (in_n (by rfl) (by rfl) h1)]
    by_cases h2 : 0 ≤ a2.toInt ∧ a2.toInt ≤ 1
    · rw [if_neg (wi_n (by rfl) (by rfl) h2), if_neg (in_n (by rfl) (by rfl) h2)]
      obtain ⟨V, T, E, O, F, G, hu, RR⟩ := R
      obtain ⟨m0, b1, b3, b4, b5, b6, b7⟩ := aside_ok O G
      have key : ∀ (J J' : Int32 → Int32 → vMH → Option (Int32 × vMH)) (k n : Nat), n + k = 64 → ∀ N, k < N → ∀ (c m : vMH) (b t : Int32), FC 1 V c → TXC T E c → TXM T E m → FM V m → AS V m → m.1 0 32 = 0 → m.1 0 33 = 0 → ∃ (b' t' : Int32) (c' m' : vMH), lq4 N (X5_strips_L30 a1 J) b t (nI n) c = J b' t' c' ∧ lq4 N (X6_strips_L37 a1 J') b t (nI n) m = J' b' t' m' ∧ FM V m' ∧ Kp PcX c c' ∧ Kp PmZ m m' := by
        intro J J' k
        induction k with
        | zero =>
          intro n hn N hN c m b t F3 tc tm G A e32 e33
          obtain ⟨N, rfl⟩ : ∃ M, N = M + 1 := ⟨N - 1, by omega⟩
          have : n = 64 := by omega
          subst this
          rw [lq4_s, lq4_s, X5_strips_L30, X6_strips_L37, if_pos (by decide), if_pos (by decide)]
          exact ⟨b, t, c, m, rfl, rfl, G, Kp.rf, Kp.rf⟩
        | succ k ih =>
          intro n hn N hN c m b t F3 tc tm G A e32 e33
          obtain ⟨N, rfl⟩ : ∃ M, N = M + 1 := ⟨N - 1, by omega⟩
          have hnn : ¬ (63 : Int32) < nI n := by rw [show (63 : Int32) = nI 63 from rfl]; exact nI_nlt (by omega) (by decide)
          rw [lq4_s, lq4_s, X5_strips_L30, X6_strips_L37, if_neg hnn, if_neg hnn, bc_tab n (by omega), bo_tab n (by omega), bd_s, nI_1]
          by_cases hp : nI (pop n) = a1
          · rw [if_pos hp, if_pos hp]
            obtain ⟨d, w, c1, m2, m3, g1, g2, g3, g4, g5, g6, g7, g8, g9, g10, g11, g12⟩ := trial_one (Or.inl rfl) O F3 tc tm hu G A SV.rf O e32 e33 (show n < 64 by omega)
            rw [g1, bd_s, g3, bd_s, g6, bd_s, g5]
            dsimp only
            rw [g2]
            have F31 : FC 1 V c1 := F3.kp g11 (fun k _ _ _ => by unfold PcF; omega) (fun q k _ _ => by unfold PcF; omega)
            have go : ∀ b t : Int32, ∃ (b' t' : Int32) (c' m' : vMH), lq4 N (X5_strips_L30 a1 J) b t (nI (n + 1)) c1 = J b' t' c' ∧ lq4 N (X6_strips_L37 a1 J') b t (nI (n + 1)) m3 = J' b' t' m' ∧ FM V m' ∧ Kp PcX c c' ∧ Kp PmZ m m' := by
              intro b t
              obtain ⟨b', t', c', m', y1, y2, y3, y4, y5⟩ := ih (n + 1) (by omega) N (by omega) c1 m3 b t F31 (tc.f g11) (tm.z g12) g7 g8 g9 g10
              exact ⟨b', t', c', m', y1, y2, y3, (PcFX g11).tr y4, g12.tr y5⟩
            by_cases h : w ≤ t
            · rw [if_pos h, if_pos h]; exact go b t
            · rw [if_neg h, if_neg h]; exact go (nI n) w
          · rw [if_neg hp, if_neg hp]
            exact ih (n + 1) (by omega) N (by omega) c m b t F3 tc tm G A e32 e33
      simp only [wj3]
      rw [b1, bd_s]
      obtain ⟨b', t', c', m', y1, y2, y3, y4, y5⟩ := key (fun v2_2 v3_3 mh4 => (if a2 = 0 then (some (v2_2, mh4)) else (some (v3_3, mh4)))) (fun v2_2 v3_3 mh4 => (if a2 = 0 then (some (v2_2, mh4)) else (some (v3_3, mh4)))) 64 0 rfl 4096 (by decide) c m0 0 (-1) F RR.1 (RR.2.1.a b7) b3 b4 b5 b6
      rw [show (nI 0 : Int32) = 0 from rfl] at y1 y2
      rw [y1, y2]
      have RF : Rel c' m' := rel_trial O F hu RR y4 y3 ((PmAY b7).tr (PmZY y5))
      by_cases h0 : a2 = 0
      · rw [if_pos h0, if_pos h0]; exact ⟨b', c', m', rfl, rfl, RF⟩
      · rw [if_neg h0, if_neg h0]; exact ⟨t', c', m', rfl, rfl, RF⟩
    · rw [if_pos (wi_p (by rfl) (by rfl) h2), if_pos (in_p (by rfl) (by rfl) h2)]
      exact ⟨-2, c, m, rfl, rfl, R⟩
  · rw [if_pos (wi_p (by rfl) (by rfl) h1), if_pos (in_p (by rfl) (by rfl) h1)]
    exact ⟨-2, c, m, rfl, rfl, R⟩
theorem p9_tab : ∀ p, p ≤ 10 → jmin 9 (nI p + 1) = nI (min 9 (p + 1)) ∧ (if 9 ≤ nI p then (9 : Int32) else nI p + 1) = nI (min 9 (p + 1)) := by decide +kernel
theorem op_better : OpOK Rel oC_better oM_better := by
  intro c m R
  unfold oC_better oM_better X5_better X6_better
  obtain ⟨V, T, E, O, F, G, hu, RR⟩ := R
  obtain ⟨m0, b1, b3, b4, b5, b6, b7⟩ := aside_ok O G
  obtain ⟨d, w, c1, m1, m2, g1, g2, g3, g4, g5, g6, g7, g8, g9, g10, g11, g12⟩ := trial_one (Or.inl rfl) O F RR.1 (RR.2.1.a b7) hu b3 b4 SV.rf O b5 b6 (show 63 < 64 by decide)
  simp only [wj1]
  rw [show (63 : Int32) = nI 63 from rfl, g1, bd_s, b1, bd_s, g3, bd_s, g6, bd_s]
  dsimp only
  have F1 : FC 1 V c1 := F.kp g11 (fun k _ _ _ => by unfold PcF; omega) (fun q k _ _ => by unfold PcF; omega)
  obtain ⟨q1, q2⟩ := bec_ok (r := 3) (r1 := 1) (Or.inr (Or.inr ⟨rfl, rfl⟩)) O F1
  have F1b : FC 1 V (X0_become 3 1 c1) := F1.kp q2 (fun k _ _ _ => by unfold PcB; omega) (fun q k _ _ => by unfold PcB; omega)
  obtain ⟨p1, p2⟩ := p9_tab (V 4 3) O.2.2.2.1
  rw [F1b.p, p1, g7.p]
  have eM : ∀ H : Int32 → Option (Int32 × vMH), (if 9 ≤ nI (V 4 3) then H 9 else H (nI (V 4 3) + 1)) = H (nI (min 9 (V 4 3 + 1))) := by
    intro H; rw [← p2]; split <;> rfl
  rw [eM (fun s7 => (X6_walksAll (nI 63) (v_up m2 0 14 s7)).bind fun q9 => (X6_laysBack q9).bind fun q11 => some (q9.1 0 32 - m1.1 0 32, q11))]
  have kp3 : Kp PcX (X0_become 3 1 c1) (v_up (X0_become 3 1 c1) 3 7 (nI (min 9 (V 4 3 + 1)))) := Kp.rf.up (by unfold PcX; omega)
  have kb : Kp PcX c1 (X0_become 3 1 c1) := q2.mono (fun q k h => by unfold PcB at h; unfold PcX; omega)
  have km14 : Kp PmZ m2 (v_up m2 0 14 (nI (min 9 (V 4 3 + 1)))) := Kp.rf.up (by unfold PmZ; omega)
  obtain ⟨d2, w2, c3, m3, m4, k1, k2, k3, k4, k5, k6, k7, k8, k9, k10, k11, k12⟩ := trial_one (Or.inr rfl) (V := qs V 4 3 (min 9 (V 4 3 + 1))) (V0 := V) (pl_O O (by omega)) (pl_C isF3 q1) (((RR.1.f g11).x kb).x kp3) (((RR.2.1.a b7).z g12).z km14) hu (pl_M g7) (g8.z km14) SV.pl O (by rw [rd_up, if_neg (by omega)]; exact g9) (by rw [rd_up, if_neg (by omega)]; exact g10) (show 63 < 64 by decide)
  rw [k1, bd_s, k3, bd_s, k6, bd_s, k4, g4]
  exact ⟨_, c3, m4, rfl, rfl, rel_trial O F hu RR ((((PcFX g11).tr kb).tr kp3).tr (PcFX k11)) k7 ((PmAY b7).tr (PmZY ((g12.tr km14).tr k12)))⟩
theorem op_order (a1 a2 : Int32) : OpOK Rel (oC_order a1 a2) (oM_order a1 a2) := by
  intro c m R
  unfold oC_order oM_order X5_order X6_order
  by_cases h1 : 1 ≤ a1.toInt ∧ a1.toInt ≤ 9
  · rw [if_neg (wi_n (by rfl) (by rfl) h1), if_neg (in_n (by rfl) (by rfl) h1)]
    by_cases h2 : 1 ≤ a2.toInt ∧ a2.toInt ≤ 9
    · rw [if_neg (wi_n (by rfl) (by rfl) h2), if_neg (in_n (by rfl) (by rfl) h2)]
      obtain ⟨x, hx, rfl⟩ := nI_ofI (v := a1) (n := 9) (by omega) h1.2 (by decide)
      obtain ⟨y, hy, rfl⟩ := nI_ofI (v := a2) (n := 9) (by omega) h2.2 (by decide)
      obtain ⟨V, T, E, O, F, G, hu, RR⟩ := R
      obtain ⟨m0, b1, b3, b4, b5, b6, b7⟩ := aside_ok O G
      obtain ⟨q1, q2⟩ := bec_ok (r := 4) (r1 := 1) (Or.inl ⟨rfl, rfl⟩) O F
      have kp4 : ∀ (a : vMH) (v : Int32), Kp PcF a (v_up a 4 7 v) := fun a v => Kp.rf.up (by unfold PcF; omega)
      have km14 : ∀ (a : vMH) (v : Int32), Kp PmZ a (v_up a 0 14 v) := fun a v => Kp.rf.up (by unfold PmZ; omega)
      have K : WK 4 T E (qs V 4 3 x) (v_up (X0_become 4 1 c) 4 7 (nI x)) (v_up m0 0 14 (nI x)) := ⟨pl_O O (by omega), pl_C isF4 q1, pl_M b3, (RR.1.f (PcB4 q2)).f (kp4 _ _), (RR.2.1.a b7).z (km14 _ _), hu⟩
      obtain ⟨d, c1, m1, g1, g2, W, e, w0, w1, w2, w3, w4, w5, w6⟩ := walk_ok isF4 (b := 63) (by decide) K
      have K2 : WK 4 T E (qs W 4 3 y) (v_up c1 4 7 (nI y)) (v_up m1 0 14 (nI y)) := ⟨pl_O w1.1 (by omega), pl_C isF4 w1.2.1, pl_M w1.2.2.1, w1.2.2.2.1.f (kp4 _ _), w1.2.2.2.2.1.z (km14 _ _), w1.2.2.2.2.2⟩
      obtain ⟨d2, c2, m2, r1, r2, W2, e2, v0, v1, v2, v3, v4, v5, v6⟩ := walk_ok isF4 (b := 63) (by decide) K2
      have S2 : SV W2 V := ((SV.g v0).tr SV.pl).tr ((SV.g w0).tr SV.pl)
      have A2 : AS V m2 := (((b4.z (km14 _ _)).z (PmWZ w3)).z (km14 _ _)).z (PmWZ v3)
      obtain ⟨m3, k1, k2, k3, k4, k5, k6⟩ := back_ok O S2 A2 v1.2.2.1
      rw [show (63 : Int32) = nI 63 from rfl, g1, b1, bd_s, bd_s, g2, bd_s]
      dsimp only
      rw [r1, bd_s, r2, bd_s, k1, bd_s, v4]
      have ee : (v_up m1 0 14 (nI y)).1 0 32 + d2 - m1.1 0 32 = d2 := by
        rw [rd_up, if_neg (by omega)]
        apply Int32.toBitVec.inj
        simp only [Int32.toBitVec_sub, Int32.toBitVec_add]
        rw [BitVec.add_comm, BitVec.add_sub_cancel]
      rw [ee]
      exact ⟨d2, c2, m3, rfl, rfl, rel_trial O F hu RR (PcFX ((((PcB4 q2).tr (kp4 _ _)).tr ((Kp.rf.up (by unfold PcF; omega)).tr (PcW4 w2))).tr ((kp4 _ _).tr ((Kp.rf.up (by unfold PcF; omega)).tr (PcW4 v2))))) k2 ((PmAY b7).tr (PmZY (((((km14 _ _).tr (PmWZ w3)).tr (km14 _ _)).tr (PmWZ v3)).tr (PmKZ k6))))⟩
    · rw [if_pos (wi_p (by rfl) (by rfl) h2), if_pos (in_p (by rfl) (by rfl) h2)]
      exact ⟨-2, c, m, rfl, rfl, R⟩
  · rw [if_pos (wi_p (by rfl) (by rfl) h1), if_pos (in_p (by rfl) (by rfl) h1)]
    exact ⟨-2, c, m, rfl, rfl, R⟩
theorem drawn_ok (R : Rel c m) (s : Int32) : ∃ (x : Int32) (c' m' : vMH), X5_foundIfDrawn s c = some (x, c') ∧ X6_drawn s m = some (x, m') ∧ Rel c' m' := by
  obtain ⟨V, T, E, O, F, G, hu, RR⟩ := R
  have hn := O.n
  obtain ⟨m0, b1, b3, b4, b5, b6, b7⟩ := aside_ok O G
  obtain ⟨q1, q2⟩ := bec_ok (r := 4) (r1 := 1) (Or.inl ⟨rfl, rfl⟩) O F
  obtain ⟨c1, s1, s2, s3⟩ := scat_C_loop isF4 (V 4 0) 0 4096 (by omega) V s (X0_become 4 1 c) q1 O (by omega)
  obtain ⟨m1, t1, t2, t3⟩ := scat_M_loop (fun (mh3 : vMH) => ((X6_walksAll 63 mh3).bind fun q5 => ((X6_laysBack q5).bind fun q7 => (some ((q5.1 0 32), q7))))) (V 4 0) 0 4096 (by omega) V s m0 b3 O (by omega)
  have K : WK 4 T E (scR (V 4 0) 0 s V) c1 m1 := ⟨scR_O _ _ _ _ O, s2, t2, (RR.1.f (PcB4 q2)).f (PcP4 s3), (RR.2.1.a b7).z (PmPZ t3), by have := (SV.sc (V := V) (k := V 4 0) (i := 0) (z := s)).2.2.1; omega⟩
  obtain ⟨d, c2, m2, g1, g2, W, e, w0, w1, w2, w3, w4, w5, w6⟩ := walk_ok isF4 (b := 63) (by decide) K
  have S2 : SV W V := (SV.g w0).tr SV.sc
  obtain ⟨m3, k1, k2, k3, k4, k5, k6⟩ := back_ok O S2 ((b4.z (PmPZ t3)).z (PmWZ w3)) w1.2.2.1
  refine ⟨d, c2, m3, ?_, ?_, rel_trial O F hu RR (PcFX (((PcB4 q2).tr (PcP4 s3)).tr ((Kp.rf.up (by unfold PcF; omega)).tr (PcW4 w2)))) k2 ((PmAY b7).tr (PmZY (((PmPZ t3).tr (PmWZ w3)).tr (PmKZ k6))))⟩
  · unfold X5_foundIfDrawn X0_scatter
    rw [show (nI 0 : Int32) = 0 from rfl] at s1
    rw [s1, bd_s, show (63 : Int32) = nI 63 from rfl, g1, bd_s]
  · unfold X6_drawn
    simp only [wj1]
    rw [show (nI 0 : Int32) = 0 from rfl] at t1
    rw [b1, bd_s, t1, show (63 : Int32) = nI 63 from rfl, g2, bd_s, k1, bd_s, w4, t3 _ _ (by unfold PmP; omega), b5, Int32.zero_add]
theorem op_drawn (a1 : Int32) : OpOK Rel (oC_drawn a1) (oM_drawn a1) := by
  intro c m R
  obtain ⟨x, c', m', h1, h2, h3⟩ := drawn_ok R a1
  unfold oC_drawn oM_drawn X5_drawn
  rw [h1, bd_s, h2]
  exact ⟨x, c', m', rfl, rfl, h3⟩
end TRIAL
