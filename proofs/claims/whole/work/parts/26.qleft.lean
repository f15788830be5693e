/-! PURE PART, for which finds there is no plate -/
/-- find f is heard, and one digs for it, by a plate p -/
def dugP (V : qV) (E : qE) (p f : Nat) : Bool := hearsB (qs V 4 3 p) E f && digsB (qs V 4 3 p) E f
def dugG (V : qV) (E : qE) (p : Nat) : Nat → Nat
  | 0 => 0
  | i + 1 => if (V 4 1).testBit i = false ∧ dugP V E p i = true then dugG V E p i ||| 2 ^ i else dugG V E p i
theorem dugG_lt {V : qV} {E : qE} {p : Nat} : ∀ i, dugG V E p i < 2 ^ i
  | 0 => by simp [dugG]
  | i + 1 => by
    have := dugG_lt (V := V) (E := E) (p := p) i
    have h2 : 2 ^ i < 2 ^ (i + 1) := Nat.pow_lt_pow_right (by decide) (by omega)
    rw [dugG]
    split
    · exact or_lt (Nat.lt_trans this h2) (by omega)
    · omega
theorem dugG_tb {V : qV} {E : qE} {p : Nat} (f : Nat) : ∀ i, (dugG V E p i).testBit f = (decide (f < i) && (!(V 4 1).testBit f && dugP V E p f))
  | 0 => by simp [dugG]
  | i + 1 => by
    have ih := dugG_tb (V := V) (E := E) (p := p) f i
    rw [dugG]
    by_cases h : (V 4 1).testBit i = false ∧ dugP V E p i = true
    · rw [if_pos h, or_tb, ih]
      by_cases e : i = f
      · subst e; simp [h.1, h.2]
      · have : (decide (f < i + 1)) = decide (f < i) := by
          apply decide_eq_decide.mpr; omega
        rw [this]; simp [e]
    · rw [if_neg h, ih]
      by_cases e : i = f
      · subst e
        have : (!(V 4 1).testBit i && dugP V E p i) = false := by
          cases h1 : (V 4 1).testBit i <;> cases h2 : dugP V E p i <;> simp_all
        rw [this]; simp
      · have : (decide (f < i + 1)) = decide (f < i) := by
          apply decide_eq_decide.mpr; omega
        rw [this]
section LEFT
variable {r T : Nat} {V : qV} {E : qE}
theorem dug_C (hr : isF r) {p : Nat} (O : OKV (qs V 4 3 p)) (hu : V 4 5 < T) {c : vMH} (F : FC r (qs V 4 3 p) c) (tc : TXC T E c) : ∃ c', X4_dugIfHeard r c = some (nI (dugG V E p (V 4 0)), c') ∧ Kp PcS c c' := by
  have key : ∀ k i : Nat, i + k = V 4 0 → ∀ N : Nat, k < N → ∀ c : vMH, FC r (qs V 4 3 p) c → TXC T E c → ∃ c', lq3 N (X4_dugIfHeard_L4 r) (nI (dugG V E p i)) (nI i) c = some (nI (dugG V E p (V 4 0)), c') ∧ Kp PcS c c' := by
    intro k
    induction k with
    | zero =>
      intro i hi N hN c F tc
      obtain ⟨N, rfl⟩ : ∃ M, N = M + 1 := ⟨N - 1, by omega⟩
      rw [lq3_s, X4_dugIfHeard_L4, show c.1 r 4 = nI (V 4 0) from F.n, if_pos (nI_le (show V 4 0 ≤ i by omega) (by have : V 4 0 ≤ 12 := O.n; omega)), show i = V 4 0 by omega]
      exact ⟨c, rfl, Kp.rf⟩
    | succ k ih =>
      intro i hi N hN c F tc
      obtain ⟨N, rfl⟩ : ∃ M, N = M + 1 := ⟨N - 1, by omega⟩
      have hi' : i < qs V 4 3 p 4 0 := show i < V 4 0 by omega
      have h12 := lt_n O hi'
      have go : ∀ (a : Nat) (c2 : vMH), Kp PcS c c2 → a = dugG V E p (i + 1) → ∃ c', lq3 N (X4_dugIfHeard_L4 r) (nI a) (nI (i + 1)) c2 = some (nI (dugG V E p (V 4 0)), c') ∧ Kp PcS c c' := by
        intro a c2 k2 ha
        obtain ⟨c', g1, g2⟩ := ih (i + 1) (by omega) N (by omega) c2 (F.kS hr k2) (tc.kS k2)
        rw [ha]
        exact ⟨c', g1, k2.tr g2⟩
      rw [lq3_s, X4_dugIfHeard_L4, show c.1 r 4 = nI (V 4 0) from F.n, if_neg (nI_ge (show i < V 4 0 by omega) (by have : V 4 0 ≤ 12 := O.n; omega)), nI_1]
      rw [dugG] at go
      have hlz : (X0_lies r (nI i) c = 0) = ((V 4 1).testBit i = true) := lies_z F O hi'
      by_cases h2 : (V 4 1).testBit i = true
      · rw [if_pos (by rw [hlz]; exact h2)]
        rw [if_neg (by rw [h2]; simp)] at go
        exact go _ c Kp.rf rfl
      · have h2' : (V 4 1).testBit i = false := by simpa using h2
        rw [if_neg (by rw [hlz]; exact h2), C_heard F O hi' h2', bd_s]
        obtain ⟨c1, g1, g2⟩ := reck_ok hr F O tc (show qs V 4 3 p 4 5 < T from hu) hi' (w := 1) (by decide) (nI (heardZ (qs V 4 3 p) i))
        have g1' : X3_reckon r 1 (nI i) (nI (heardZ (qs V 4 3 p) i)) c = some (X5_held (sayV (qs V 4 3 p) E 1 i) 99, c1) := g1
        rw [g1', bd_s]
        dsimp only
        have hh := heard_le O hi'
        have hcl := clamp_le (sayV (qs V 4 3 p) E 1 i)
        rw [(held_c _).1]
        simp only [nI_lts (show heardZ (qs V 4 3 p) i < 2 ^ 31 by omega) (show clampZ (sayV (qs V 4 3 p) E 1 i) < 2 ^ 31 by omega)]
        by_cases c4 : hearsB (qs V 4 3 p) E i = true
        · have c4' : ¬ heardZ (qs V 4 3 p) i < clampZ (sayV (qs V 4 3 p) E 1 i) := by
            unfold hearsB at c4; simp at c4; omega
          rw [if_neg c4']
          obtain ⟨c2, k1, k2⟩ := reck_ok hr (F.kS hr g2) O (tc.kS g2) (show qs V 4 3 p 4 5 < T from hu) hi' (w := 0) (by decide) (nI (heardZ (qs V 4 3 p) i))
          have k1' : X3_reckon r 0 (nI i) (nI (heardZ (qs V 4 3 p) i)) c1 = some (sayV (qs V 4 3 p) E 0 i, c2) := k1
          rw [k1', bd_s]
          dsimp only
          by_cases c5 : sayV (qs V 4 3 p) E 0 i = 0
          · rw [if_pos c5]
            rw [if_neg (by simp [dugP, digsB, c5])] at go
            exact go _ c2 (g2.tr k2) rfl
          · rw [if_neg c5, or_jl h12]
            rw [if_pos (by simp [dugP, digsB, c5, c4, h2'])] at go
            exact go _ c2 (g2.tr k2) rfl
        · have c4' : heardZ (qs V 4 3 p) i < clampZ (sayV (qs V 4 3 p) E 1 i) := by
            unfold hearsB at c4; simp at c4; omega
          rw [if_pos c4']
          rw [if_neg (by simp [dugP, c4])] at go
          exact go _ c1 g2 rfl
  exact key (V 4 0) 0 (by omega) 4096 (by have : V 4 0 ≤ 12 := O.n; omega) c F tc
/-- the finds for which one of the first k plates does -/
def evG (V : qV) (E : qE) : Nat → Nat
  | 0 => 0
  | k + 1 => evG V E k ||| dugG V E (k + 1) (V 4 0)
def evB (V : qV) (E : qE) (f : Nat) : Nat → Bool
  | 0 => false
  | k + 1 => evB V E f k || dugP V E (k + 1) f
theorem evG_lt {V : qV} {E : qE} : ∀ k, evG V E k < 2 ^ (V 4 0)
  | 0 => Nat.two_pow_pos _
  | k + 1 => Nat.or_lt_two_pow (evG_lt k) (dugG_lt _)
theorem evG_tb {V : qV} {E : qE} {f : Nat} (hf : f < V 4 0) : ∀ k, (evG V E k).testBit f = (!(V 4 1).testBit f && evB V E f k)
  | 0 => by simp [evG, evB]
  | k + 1 => by
    rw [evG, evB, Nat.testBit_or, evG_tb hf k, dugG_tb, decide_eq_true hf]
    cases (V 4 1).testBit f <;> simp
theorem never_C (O : OKV V) (hu : V 4 5 < T) {c : vMH} (F1 : FC 1 V c) (tc : TXC T E c) : ∃ c', X5_neverHeard c = some (nI (V 4 0) - nI (pop (V 4 1)) - nI (pop (evG V E 9)), c') ∧ Kp (fun r k => PcB 4 r k ∨ PcS r k) c c' := by
  have hn := O.n
  have key : ∀ (J : Int32 → vMH → Option (Int32 × vMH)) (k i : Nat), i + k = 9 → ∀ N : Nat, k < N → ∀ c : vMH, (∃ p, FC 4 (qs V 4 3 p) c) → TXC T E c → ∃ c', lq3 N (X5_neverHeard_L15 J) (nI (evG V E i)) (nI (i + 1)) c = J (nI (evG V E 9)) c' ∧ Kp (fun r k => PcS r k ∨ (r = 4 ∧ k = 7)) c c' := by
    intro J k
    induction k with
    | zero =>
      intro i hi N hN c F tc
      obtain ⟨N, rfl⟩ : ∃ M, N = M + 1 := ⟨N - 1, by omega⟩
      have : i = 9 := by omega
      subst this
      rw [lq3_s, X5_neverHeard_L15, if_pos (by decide)]
      exact ⟨c, rfl, Kp.rf⟩
    | succ k ih =>
      intro i hi N hN c F tc
      obtain ⟨N, rfl⟩ : ∃ M, N = M + 1 := ⟨N - 1, by omega⟩
      obtain ⟨p, F⟩ := F
      have F2 : FC 4 (qs V 4 3 (i + 1)) (v_up c 4 7 (nI (i + 1))) := by
        have := pl_C (y := i + 1) isF4 F
        rw [qs_qs] at this; exact this
      have k1 : Kp (fun r k => r = 4 ∧ k = 7) c (v_up c 4 7 (nI (i + 1))) := Kp.rf.up ⟨rfl, rfl⟩
      have tc2 := tc.kp k1 (by omega) (fun j => by omega) (fun j => by omega)
      obtain ⟨c1, g1, g2⟩ := dug_C isF4 (pl_O O (by omega)) hu F2 tc2
      obtain ⟨c', y1, y2⟩ := ih (i + 1) (by omega) N (by omega) c1 ⟨_, F2.kS isF4 g2⟩ (tc2.kS g2)
      refine ⟨c', ?_, ((k1.mono (fun r k h => Or.inr h)).tr (g2.mono (fun r k h => Or.inl h))).tr y2⟩
      rw [lq3_s, X5_neverHeard_L15, if_neg (by rw [show (9 : Int32) = nI 9 from rfl]; exact nI_nlt (by omega) (by decide)), g1, bd_s]
      dsimp only
      rw [nI_or, nI_1]
      exact y1
  obtain ⟨b1, b2⟩ := bec_ok (Or.inl ⟨rfl, rfl⟩) O F1
  have tc2 := tc.kp b2 (by unfold PcB; omega) (fun j => by unfold PcB; omega) (fun j => by unfold PcB; omega)
  have hqs : qs V 4 3 (V 4 3) = V := by
    funext a j; unfold qs; split
    · rename_i h; rw [h.1, h.2]
    · rfl
  obtain ⟨c', y1, y2⟩ := key (fun v1_1 mh2 => (some (((X0_lying 1 mh2) - (J6_bitCount_0f7a4 v1_1)), mh2))) 9 0 rfl 4096 (by decide) _ ⟨V 4 3, by rw [hqs]; exact b1⟩ tc2
  have kk : Kp (fun r k => PcB 4 r k ∨ PcS r k) c c' := (b2.mono (fun r k h => Or.inl h)).tr (y2.mono (fun r k h => by
    rcases h with h | ⟨h, -⟩
    · exact Or.inr h
    · exact Or.inl (Or.inl h)))
  refine ⟨c', ?_, kk⟩
  have F1' : FC 1 V c' := F1.kp kk (fun k _ _ _ => by unfold PcB PcS; omega) (fun q k _ _ => by unfold PcB PcS; omega)
  have hev : evG V E 9 < 4096 := Nat.lt_of_lt_of_le (evG_lt 9) (Nat.le_trans (Nat.pow_le_pow_right (by decide) hn) (by decide))
  unfold X5_neverHeard
  simp only [wj2]
  refine y1.trans ?_
  unfold X0_lying
  rw [F1'.n, F1'.g, bc_tab _ O.g, bc_tab _ hev]
theorem ever_M (O : OKV V) (hu : V 4 5 < T) {f : Nat} (hf : f < V 4 0) (J : Int32 → vMH → Option (Int32 × vMH)) : ∀ k i : Nat, i + k = 9 → ∀ N : Nat, k < N → ∀ m : vMH, FM (qs V 4 3 (i + 1)) m → TXM T E m → ∃ m', lq2 N (X6_left_L66 (nI f) J) (if evB V E f i = true then 1 else 0) m = J (if evB V E f 9 = true then 1 else 0) m' ∧ FM (qs V 4 3 10) m' ∧ Kp (fun r k => PmS r k ∨ (r = 0 ∧ k = 14)) m m' := by
  intro k
  induction k with
  | zero =>
    intro i hi N hN m G tm
    obtain ⟨N, rfl⟩ : ∃ M, N = M + 1 := ⟨N - 1, by omega⟩
    have : i = 9 := by omega
    subst this
    refine ⟨m, ?_, G, Kp.rf⟩
    rw [lq2_s, X6_left_L66, G.p, qs_at, if_pos (by decide)]
  | succ k ih =>
    intro i hi N hN m G tm
    obtain ⟨N, rfl⟩ : ∃ M, N = M + 1 := ⟨N - 1, by omega⟩
    have hO : OKV (qs V 4 3 (i + 1)) := pl_O O (by omega)
    have hf' : f < qs V 4 3 (i + 1) 4 0 := hf
    have hu' : qs V 4 3 (i + 1) 4 5 < T := hu
    have go : ∀ (e : Int32) (m2 : vMH), Kp PmS m m2 → e = (if evB V E f (i + 1) = true then 1 else 0) → ∃ m', lq2 N (X6_left_L66 (nI f) J) e (v_up m2 0 14 (m2.1 0 14 + 1)) = J (if evB V E f 9 = true then 1 else 0) m' ∧ FM (qs V 4 3 10) m' ∧ Kp (fun r k => PmS r k ∨ (r = 0 ∧ k = 14)) m m' := by
      intro e m2 k2 he
      have G2 := G.kS hO k2
      have tm2 := tm.kS k2
      have G3 : FM (qs V 4 3 (i + 1 + 1)) (v_up m2 0 14 (nI (i + 1 + 1))) := by
        have := pl_M (y := i + 1 + 1) G2
        rw [qs_qs] at this; exact this
      have k3 : Kp (fun r k => r = 0 ∧ k = 14) m2 (v_up m2 0 14 (nI (i + 1 + 1))) := Kp.rf.up ⟨rfl, rfl⟩
      obtain ⟨m', y1, y2, y3⟩ := ih (i + 1) (by omega) N (by omega) _ G3 (tm2.kp k3 (by omega) (fun j => by omega) (fun j => by omega))
      rw [G2.p, qs_at, nI_1, he]
      exact ⟨m', y1, y2, ((k2.mono (fun r k h => Or.inl h)).tr (k3.mono (fun r k h => Or.inr h))).tr y3⟩
    rw [evB] at go
    rw [lq2_s, X6_left_L66, G.p, qs_at, if_neg (by rw [show (9 : Int32) = nI 9 from rfl]; exact nI_nlt (by omega) (by decide))]
    simp only [wj1, wj2]
    by_cases h1 : evB V E f i = true
    · rw [h1] at go ⊢
      rw [if_pos rfl, if_neg (by decide)]
      exact go 1 m Kp.rf rfl
    · have h1' : evB V E f i = false := by simpa using h1
      rw [h1'] at go ⊢
      rw [if_neg (by decide : ¬ (false = true)), if_pos rfl]
      obtain ⟨m1, g1, g2⟩ := isH_ok G hO tm hu' hf'
      rw [g1, bd_s]
      dsimp only
      by_cases h2 : hearsB (qs V 4 3 (i + 1)) E f = true
      · rw [if_pos h2, if_neg (by decide), M_heard (G.kS hO g2) hO hf', bd_s]
        obtain ⟨m2, k1, k2⟩ := says_ok (G.kS hO g2) hO (tm.kS g2) hu' hf' (w := 0) (by decide) (nI (heardZ (qs V 4 3 (i + 1)) f))
        have k1' : X6_says 0 (nI f) (nI (heardZ (qs V 4 3 (i + 1)) f)) m1 = some (sayV (qs V 4 3 (i + 1)) E 0 f, m2) := k1
        rw [k1', bd_s]
        dsimp only
        by_cases h3 : sayV (qs V 4 3 (i + 1)) E 0 f = 0
        · rw [if_pos h3]
          exact go 0 m2 (g2.tr k2) (by simp [dugP, digsB, h3])
        · rw [if_neg h3]
          exact go 1 m2 (g2.tr k2) (by simp [dugP, digsB, h3, h2])
      · rw [if_neg h2, if_pos rfl]
        exact go 0 m1 g2 (by simp [dugP, h2])
def neverP (V : qV) (E : qE) (f : Nat) : Bool := !((V 4 1).testBit f || (evG V E 9).testBit f)
theorem never_M (O : OKV V) (hu : V 4 5 < T) (J : Int32 → vMH → Option (Int32 × vMH)) : ∀ k i : Nat, i + k = V 4 0 → ∀ N : Nat, k < N → ∀ m : vMH, (∃ p, FM (qs V 4 3 p) m) → TXM T E m → ∃ m', lq3 N (X6_left_L40 J) (nI (cnt (neverP V E) i)) (nI i) m = J (nI (cnt (neverP V E) (V 4 0))) m' ∧ (∃ p, FM (qs V 4 3 p) m') ∧ Kp (fun r k => PmS r k ∨ (r = 0 ∧ k = 14)) m m' := by
  intro k
  induction k with
  | zero =>
    intro i hi N hN m G tm
    obtain ⟨N, rfl⟩ : ∃ M, N = M + 1 := ⟨N - 1, by omega⟩
    obtain ⟨p, G⟩ := G
    refine ⟨m, ?_, ⟨p, G⟩, Kp.rf⟩
    rw [lq3_s, X6_left_L40, show m.1 0 11 = nI (V 4 0) from G.n, if_pos (nI_le (show V 4 0 ≤ i by omega) (by have := O.n; omega)), show i = V 4 0 by omega]
  | succ k ih =>
    intro i hi N hN m G tm
    obtain ⟨N, rfl⟩ : ∃ M, N = M + 1 := ⟨N - 1, by omega⟩
    obtain ⟨p, G⟩ := G
    have hi' : i < V 4 0 := by omega
    have h12 := lt_n O hi'
    have hlz : (X6_lies (nI i) m = 0) = ((V 4 1).testBit i = true) := by
      unfold X6_lies
      rw [G.g]
      show ((if (js (nI (V 4 1)) (nI i) &&& 1) = 0 then (1 : Int32) else 0) = 0) = _
      simp only [bit0 O.g h12]
      cases h : (V 4 1).testBit i <;> simp
    rw [lq3_s, X6_left_L40, show m.1 0 11 = nI (V 4 0) from G.n, if_neg (nI_ge (show i < V 4 0 from hi') (by have := O.n; omega)), nI_1]
    have hc : cnt (neverP V E) (i + 1) = cnt (neverP V E) i + (if neverP V E i = true then 1 else 0) := rfl
    have he : neverP V E i = !((V 4 1).testBit i || (!(V 4 1).testBit i && evB V E i 9)) := by unfold neverP; rw [evG_tb hi']
    by_cases h2 : (V 4 1).testBit i = true
    · rw [if_pos (by rw [hlz]; exact h2)]
      rw [h2] at he
      rw [he] at hc
      have := ih (i + 1) (by omega) N (by omega) m ⟨p, G⟩ tm
      rw [hc] at this
      exact this
    · have h2' : (V 4 1).testBit i = false := by simpa using h2
      rw [if_neg (by rw [hlz]; exact h2)]
      rw [h2'] at he
      simp only [wj1, wj2]
      have G2 : FM (qs V 4 3 1) (v_up m 0 14 1) := by
        have := pl_M (y := 1) G
        rw [qs_qs] at this; exact this
      have k1 : Kp (fun r k => r = 0 ∧ k = 14) m (v_up m 0 14 1) := Kp.rf.up ⟨rfl, rfl⟩
      have tm1 := tm.kp k1 (by omega) (fun j => by omega) (fun j => by omega)
      obtain ⟨m1, g1, g2, g3⟩ := ever_M O hu hi' (fun v5_12 mh13 => if v5_12 = 0 then lq3 N (X6_left_L40 J) (nI (cnt (neverP V E) i) + 1) (nI (i + 1)) mh13 else lq3 N (X6_left_L40 J) (nI (cnt (neverP V E) i) + 0) (nI (i + 1)) mh13) 9 0 rfl 4096 (by decide) _ G2 tm1
      have g1' := g1
      rw [show evB V E i 0 = false from rfl, if_neg (by decide : ¬ (false = true))] at g1'
      have tm2 := tm1.kp g3 (by unfold PmS; omega) (fun j => by unfold PmS; omega) (fun j => by unfold PmS; omega)
      obtain ⟨m', y1, y2, y3⟩ := ih (i + 1) (by omega) N (by omega) m1 ⟨10, g2⟩ tm2
      refine ⟨m', ?_, y2, ((k1.mono (fun r k h => Or.inr h)).tr g3).tr y3⟩
      refine g1'.trans ?_
      rw [← y1, hc]
      cases he9 : evB V E i 9 with
      | true =>
        rw [he9] at he
        rw [he, if_pos rfl, if_neg (by decide), Int32.add_zero]
        rfl
      | false =>
        rw [he9] at he
        rw [he, if_neg (by decide : ¬ (false = true)), if_pos rfl, nI_1]
        rfl
theorem never_eq (O : OKV V) : nI (V 4 0) - nI (pop (V 4 1)) - nI (pop (evG V E 9)) = nI (cnt (neverP V E) (V 4 0)) := by
  have h1 := pop_n O.2.1 O.1
  have h2 := pop_n (evG_lt (V := V) (E := E) 9) O.1
  have h3 : cnt (fun i => (V 4 1).testBit i || (evG V E 9).testBit i) (V 4 0) = cnt (fun i => (V 4 1).testBit i) (V 4 0) + cnt (fun i => (evG V E 9).testBit i) (V 4 0) := by
    refine cnt_or (P := fun i => (V 4 1).testBit i) (Q := fun i => (evG V E 9).testBit i) (fun i hi z => ?_)
    have z2 := z.2
    rw [evG_tb hi, z.1] at z2
    exact absurd z2 (by simp)
  have h4 := cnt_not (P := fun i => (V 4 1).testBit i || (evG V E 9).testBit i) (V 4 0)
  have h5 : cnt (neverP V E) (V 4 0) = cnt (fun i => !((V 4 1).testBit i || (evG V E 9).testBit i)) (V 4 0) := cnt_congr (fun i _ => rfl)
  rw [pk_sub (by omega), pk_sub (by omega)]
  congr 1
  omega
end LEFT
