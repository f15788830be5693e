/-! PURE PART, expressions: what the class writes as steps is what the reference reckons -/
def PcR (t q k : Nat) : Prop := (q = 6 ∧ 3 ≤ k ∧ k ≤ 6) ∨ (q = 5 ∧ k = 5) ∨ (q = 25 ∧ 160 * t ≤ k)
def PmR (q k : Nat) : Prop := q = 0 ∧ 25 ≤ k ∧ k ≤ 31
def GD (z o : Nat) (c m : vMH) (p : Nat) : Prop := m.1 0 30 = 0 ∧ c.1 6 6 = -1 ∧ m.1 0 29 = nI o ∧ TKP z c m p
def BD (c m : vMH) : Prop := m.1 0 30 = 1 ∧ c.1 6 5 = -20 ∧ ∃ p : Nat, p ≤ 160 ∧ c.1 6 6 = nI p ∧ m.1 0 31 = nI p
def NX (t x : Nat) (c : vMH) : Prop := c.1 5 5 = nI x ∧ 160 * t ≤ x ∧ x ≤ 960
def EO (t z o d : Nat) (st fin : List Int32 → List Int32) (c m : vMH) (p x : Nat) (c' m' : vMH) : Prop := ∃ x' : Nat, NX t x' c' ∧ x ≤ x' ∧ (∀ i, i < x → c'.1 25 i = c.1 25 i) ∧ Kp (PcR t) c c' ∧ Kp PmR m m' ∧ (BD c' m' ∨ ∃ p' : Nat, GD z o c' m' p' ∧ p ≤ p' ∧ x' + d ≤ x + (p' - p) ∧ ∀ S, mrun (mnv m) (seg (c'.1 25) x (x' - x)) (st S) = fin S)
section EXPR
variable {t z o d p x : Nat} {st fin : List Int32 → List Int32} {c m c' m' : vMH}
theorem isW_cg {i : Nat} (h : ∀ q k, ¬ (q = 0 ∧ (k = 29 ∨ k = 31)) → m'.1 q k = m.1 q k) : isW i m' = isW i m := by
  have h1 : ∀ k, m'.1 1 k = m.1 1 k := fun k => h 1 k (by omega)
  unfold isW X6_isWord X6_isLetter X6_byteAt
  simp only [h 0 30 (by omega), h 0 26 (by omega), h 0 27 (by omega), h 0 25 (by omega), h 0 24 (by omega), h 0 23 (by omega), h1]
theorem isSign_cg {s : Int32} (h : ∀ q k, ¬ (q = 0 ∧ (k = 29 ∨ k = 31)) → m'.1 q k = m.1 q k) (h2 : m'.2 = m.2) : X6_isSign s m' = X6_isSign s m := by
  unfold X6_isSign
  rw [h 0 30 (by omega), h 0 26 (by omega), h2]
theorem TK_cg {tok : Int32} (T : TK tok m) (h : ∀ q k, ¬ (q = 0 ∧ (k = 29 ∨ k = 31)) → m'.1 q k = m.1 q k) (h2 : m'.2 = m.2) : TK tok m' := by
  obtain ⟨t1, t2, t3, t4, t5, t6⟩ := T
  refine ⟨fun w hw => by rw [isW_cg h]; exact t1 w hw, fun s hs => by rw [isSign_cg h h2]; exact t2 s hs, ?_, ?_, ?_, ?_⟩
  · rw [h 0 30 (by omega), h 0 26 (by omega)]; exact t3
  · rw [h2]; exact t4
  · rw [h 0 30 (by omega), h 0 26 (by omega)]; exact t5
  · rw [h 0 30 (by omega), h 0 26 (by omega)]; exact t6
theorem GD.op {y : Nat} (G : GD z o c m p) : GD z y c (v_up m 0 29 (nI y)) p := by
  obtain ⟨g1, g2, g3, k1, k2, k3, k4, k5, k6⟩ := G
  have hk : ∀ q k, ¬ (q = 0 ∧ (k = 29 ∨ k = 31)) → (v_up m 0 29 (nI y)).1 q k = m.1 q k := fun q k h => by rw [rd_up, if_neg (by omega)]
  refine ⟨by rw [hk _ _ (by omega)]; exact g1, g2, by rw [rd_up, if_pos ⟨rfl, rfl⟩], k1, by rw [hk _ _ (by omega)]; exact k2, TK_cg k3 hk rfl, k4, k5, fun h1 h2 => ?_⟩
  obtain ⟨h, a1, a2, a3, a4⟩ := k6 h1 h2
  exact ⟨h, a1, a2, a3, by rw [hk _ _ (by omega)]; exact a4⟩
theorem GD.kc {P : Nat → Nat → Prop} (G : GD z o c m p) (k : Kp P c c') (hp : ∀ j, 3 ≤ j → j ≤ 6 → ¬ P 6 j) : GD z o c' m p := by
  obtain ⟨g1, g2, g3, k1, k2, k3, k4, k5, k6⟩ := G
  have e5 : c'.1 6 5 = c.1 6 5 := k _ _ (hp 5 (by omega) (by omega))
  refine ⟨g1, by rw [k _ _ (hp 6 (by omega) (by omega))]; exact g2, g3, by rw [k _ _ (hp 4 (by omega) (by omega))]; exact k1, k2, by rw [e5]; exact k3, k4, by rw [e5]; exact k5, fun h1 h2 => ?_⟩
  rw [e5] at h1 h2
  obtain ⟨h, a1, a2, a3, a4⟩ := k6 h1 h2
  exact ⟨h, a1, a2, by rw [k _ _ (hp 3 (by omega) (by omega))]; exact a3, a4⟩
theorem BD.kc {P : Nat → Nat → Prop} (G : BD c m) (k : Kp P c c') (hp : ∀ j, 5 ≤ j → j ≤ 6 → ¬ P 6 j) : BD c' m := by
  obtain ⟨g1, g2, q, g3, g4, g5⟩ := G
  exact ⟨g1, by rw [k _ _ (hp 5 (by omega) (by omega))]; exact g2, q, g3, by rw [k _ _ (hp 6 (by omega) (by omega))]; exact g4, g5⟩
theorem BD.km {P : Nat → Nat → Prop} (G : BD c m) (k : Kp P m m') (hp : ∀ j, 30 ≤ j → j ≤ 31 → ¬ P 0 j) : BD c m' := by
  obtain ⟨g1, g2, q, g3, g4, g5⟩ := G
  exact ⟨by rw [k _ _ (hp 30 (by omega) (by omega))]; exact g1, g2, q, g3, g4, by rw [k _ _ (hp 31 (by omega) (by omega))]; exact g5⟩
theorem RS.R (R : RS t z c m) (k1 : Kp (PcR t) c c') (k2 : Kp PmR m m') : RS t z c' m' := R.kp k1 k2 (by unfold PcR; omega) (fun j => by unfold PcR; omega) (by unfold PmR; omega) (by unfold PmR; omega) (fun j => by unfold PmR; omega)
theorem PcLR (k : Kp PcL c c') : Kp (PcR t) c c' := k.mono (fun q k h => by unfold PcL at h; unfold PcR; omega)
theorem PmLR (k : Kp PmL m m') : Kp PmR m m' := k.mono (fun q k h => by unfold PmL at h; unfold PmR; omega)
theorem mnv_R (k : Kp PmR m m') : mnv m' = mnv m := by
  funext i
  unfold mnv
  by_cases hi : i < 6
  · rw [if_pos hi, if_pos hi, k _ _ (by unfold PmR; omega)]
  · rw [if_neg hi, if_neg hi]
theorem adv_gd (R : RS t z c m) (G : GD z o c m p) (h1 : c.1 6 5 ≠ -20) (h2 : c.1 6 5 ≠ -19) : ∃ (c' m' : vMH) (p' : Nat), X1_advance c = some c' ∧ X6_next m = some m' ∧ p < p' ∧ GD z o c' m' p' ∧ Kp PcL c c' ∧ Kp PmL m m' := by
  obtain ⟨g1, g2, g3, k1, k2, k3, k4, k5, k6⟩ := G
  obtain ⟨h, a1, a2, a3, a4⟩ := k6 h1 h2
  obtain ⟨c', m', p', y1, y2, y3, y4, y5, y6⟩ := adv_ok R a2 a3 a4 g1
  exact ⟨c', m', p', y1, y2, by omega, ⟨by rw [y6 _ _ (by unfold PmL; omega)]; exact g1, by rw [y5 _ _ (by unfold PcL; omega)]; exact g2, by rw [y6 _ _ (by unfold PmL; omega)]; exact g3, y4⟩, y5, y6⟩
theorem refuse_gd (hz : z ≤ 160) (G : GD z o c m p) : BD (X1_refuse c) (X6_fail m) ∧ Kp (fun q k => q = 6 ∧ (k = 5 ∨ k = 6)) c (X1_refuse c) ∧ Kp (fun q k => q = 0 ∧ (k = 30 ∨ k = 31)) m (X6_fail m) := by
  obtain ⟨g1, g2, g3, k1, k2, k3, k4, k5, k6⟩ := G
  unfold X1_refuse X6_fail
  simp only [wj1]
  rw [if_pos g2, if_pos g1, k1, k2]
  refine ⟨⟨by simp [rd_up], by simp [rd_up], p, by omega, by simp [rd_up], by simp [rd_up]⟩, (Kp.rf.up (by omega)).up (by omega), (Kp.rf.up (by omega)).up (by omega)⟩
theorem refuse_bd (B : BD c m) : BD (X1_refuse c) (X6_fail m) ∧ Kp (fun q k => q = 6 ∧ k = 5) c (X1_refuse c) ∧ X6_fail m = m := by
  obtain ⟨g1, g2, q, g3, g4, g5⟩ := B
  unfold X1_refuse X6_fail
  simp only [wj1]
  rw [if_neg (by rw [g4]; exact nIm1 (by omega)), if_neg (by rw [g1]; decide)]
  refine ⟨⟨g1, by simp [rd_up], q, g3, by simp [rd_up]; exact g4, g5⟩, Kp.rf.up (by omega), rfl⟩
theorem write_ok (N : NX t x c) (v : Int32) : ∃ c', X3_write v c = some c' ∧ Kp (PcR t) c c' ∧ Kp (fun q k => q = 25 ∨ (q = 5 ∧ k = 5)) c c' ∧ (∀ i, i < x → c'.1 25 i = c.1 25 i) ∧ (∃ x', x ≤ x' ∧ NX t x' c') ∧ (x < 960 → NX t (x + 1) c' ∧ c'.1 25 x = v) := by
  obtain ⟨n1, n2, n3⟩ := N
  unfold X3_write
  rw [n1, if_neg (nI_pos (by omega))]
  by_cases h : x < 960
  · rw [if_neg (by rw [show (960 : Int32) = nI 960 from rfl]; exact nI_ge h (by decide)), chk_t (inb_nI h (by decide)), jn_nI (by omega), nI_1]
    refine ⟨_, rfl, (Kp.rf.up (by unfold PcR; omega)).up (by unfold PcR; omega), (Kp.rf.up (by omega)).up (by omega), fun i hi => ?_, ⟨x + 1, by omega, ?_, by omega, by omega⟩, fun _ => ⟨⟨?_, by omega, by omega⟩, ?_⟩⟩
    · rw [rd_up, rd_up, if_neg (by omega), if_neg (by omega)]
    · rw [rd_up, if_pos ⟨rfl, rfl⟩]
    · rw [rd_up, if_pos ⟨rfl, rfl⟩]
    · rw [rd_up, if_neg (by omega), rd_up, if_pos ⟨rfl, rfl⟩]
  · rw [if_pos (by rw [show (960 : Int32) = nI 960 from rfl]; exact nI_le (by omega) (by omega))]
    exact ⟨c, rfl, Kp.rf, Kp.rf, fun _ _ => rfl, ⟨x, Nat.le_refl _, n1, n2, n3⟩, fun z => absurd z h⟩
theorem NX.kp {P : Nat → Nat → Prop} (N : NX t x c) (k : Kp P c c') (h : ¬ P 5 5) : NX t x c' := ⟨by rw [k _ _ h]; exact N.1, N.2⟩
/-- fewer slack -/
theorem EO.le {e : Nat} (h : EO t z o d st fin c m p x c' m') (he : e ≤ d) : EO t z o e st fin c m p x c' m' := by
  obtain ⟨x', h1, h2, h3, h4, h5, h6⟩ := h
  refine ⟨x', h1, h2, h3, h4, h5, h6.imp id (fun ⟨p', g1, g2, g3, g4⟩ => ⟨p', g1, g2, by omega, g4⟩)⟩
theorem EO.bad (N : NX t x c) (k1 : Kp (PcR t) c c') (k2 : Kp PmR m m') (k3 : ∀ j, c'.1 25 j = c.1 25 j) (k4 : c'.1 5 5 = c.1 5 5) (B : BD c' m') : EO t z o d st fin c m p x c' m' :=
  ⟨x, ⟨by rw [k4]; exact N.1, N.2⟩, Nat.le_refl _, fun i _ => k3 i, k1, k2, Or.inl B⟩
/-- a token ahead of it -/
theorem EO.pre {c1 m1 : vMH} {p1 : Nat} (k1 : Kp PcL c c1) (k2 : Kp PmR m m1) (hp : p < p1) (h : EO t z o d st fin c1 m1 p1 x c' m') : EO t z o (d + 1) st fin c m p x c' m' := by
  obtain ⟨x', h1, h2, h3, h4, h5, h6⟩ := h
  refine ⟨x', h1, h2, fun i hi => by rw [h3 i hi, k1 _ _ (by unfold PcL; omega)], (PcLR k1).tr h4, k2.tr h5, h6.imp id (fun ⟨p', g1, g2, g3, g4⟩ => ⟨p', g1, by omega, by omega, ?_⟩)⟩
  rw [mnv_R k2] at g4
  exact g4
/-- one step more behind it -/
theorem EO.wr (ht : t < 6) (hz : z ≤ 160) (hx : x ≤ 160 * t + p) {step : Int32} {fin' : List Int32 → List Int32} (hs : ∀ S, mstep (mnv m) step (fin S) = fin' S) (h : EO t z o (d + 1) st fin c m p x c' m') : ∃ c2, X3_write step c' = some c2 ∧ EO t z o d st fin' c m p x c2 m' ∧ Kp (fun q k => q = 25 ∨ (q = 5 ∧ k = 5)) c' c2 := by
  obtain ⟨x', h1, h2, h3, h4, h5, h6⟩ := h
  obtain ⟨c2, w1, w2, w3, w4, ⟨x2, w5, w6⟩, w7⟩ := write_ok h1 step
  rcases h6 with B | ⟨p', g1, g2, g3, g4⟩
  · exact ⟨c2, w1, ⟨x2, w6, by omega, fun i hi => by rw [w4 i (by omega)]; exact h3 i hi, h4.tr w2, h5, Or.inl (B.kc w3 (fun j _ _ => by omega))⟩, w3⟩
  · have hpz : p' ≤ z := g1.2.2.2.2.2.2.1
    obtain ⟨w8, w9⟩ := w7 (by omega)
    refine ⟨c2, w1, ⟨x' + 1, w8, by omega, fun i hi => by rw [w4 i (by omega)]; exact h3 i hi, h4.tr w2, h5, Or.inr ⟨p', g1.kc w3 (fun j _ _ => by omega), g2, by omega, fun S => ?_⟩⟩, w3⟩
    rw [show x' + 1 - x = (x' - x) + 1 by omega, seg_app, mrun_app, show seg (c2.1 25) (x + (x' - x)) 1 = [c2.1 25 x'] by rw [show x + (x' - x) = x' by omega]; rfl, w9, seg_congr (g := c'.1 25) (x' - x) x (fun i h1 h2 => w4 i (by omega)), g4]
    exact hs S
/-- the bracket, or the like, ends -/
theorem EO.close (h : EO t z (o + 1) d st fin c m p x c' m') : EO t z o d st fin c m p x c' (v_up m' 0 29 ((m'.1 0 29) - 1)) := by
  obtain ⟨x', h1, h2, h3, h4, h5, h6⟩ := h
  refine ⟨x', h1, h2, h3, h4, h5.up (by unfold PmR; omega), h6.imp (fun B => B.km (P := fun q k => q = 0 ∧ k = 29) (Kp.rf.up ⟨rfl, rfl⟩) (fun j _ _ => by omega)) (fun ⟨p', g1, g2, g3, g4⟩ => ⟨p', ?_, g2, g3, g4⟩)⟩
  rw [g1.2.2.1, nI_pred]
  exact g1.op
theorem EO.tr {fin' : List Int32 → List Int32} {c1 m1 c2 m2 : vMH} {p1 x1 : Nat} (k1 : Kp (PcR t) c c1) (k2 : Kp PmR m m1) (kx : x ≤ x1) (kb : ∀ i, i < x → c1.1 25 i = c.1 25 i) (hp : p ≤ p1) (hx : x1 + d ≤ x + (p1 - p)) (hr : ∀ S, mrun (mnv m) (seg (c1.1 25) x (x1 - x)) (st S) = fin S) (h : EO t z o 0 fin fin' c1 m1 p1 x1 c2 m2) : EO t z o d st fin' c m p x c2 m2 := by
  obtain ⟨x', h1, h2, h3, h4, h5, h6⟩ := h
  refine ⟨x', h1, by omega, fun i hi => by rw [h3 i (by omega)]; exact kb i hi, k1.tr h4, k2.tr h5, h6.imp id (fun ⟨p', g1, g2, g3, g4⟩ => ⟨p', g1, by omega, by omega, fun S => ?_⟩)⟩
  rw [mnv_R k2] at g4
  rw [show x' - x = (x1 - x) + (x' - x1) by omega, seg_app, mrun_app, show x + (x1 - x) = x1 by omega, seg_congr (g := c1.1 25) (x1 - x) x (fun i h1 h2 => h3 i (by omega)), hr, g4]
-- ===== joints =====
theorem isSign_1 {s : Int32} (h : ¬ X6_isSign s m = 0) : m.1 0 30 = 0 ∧ m.1 0 26 = 3 ∧ lg_cmp m.2 (Int32.toInt64 s) = 0 := by
  unfold X6_isSign at h
  by_cases h1 : m.1 0 30 = 0
  · by_cases h2 : m.1 0 26 = 3
    · by_cases h3 : lg_cmp m.2 (Int32.toInt64 s) = 0
      · exact ⟨h1, h2, h3⟩
      · rw [if_pos h1, if_pos h2, if_neg h3] at h; exact absurd rfl h
    · rw [if_pos h1, if_neg h2] at h; exact absurd rfl h
  · rw [if_neg h1] at h; exact absurd rfl h
theorem isSign_0 {s : Int32} (h : X6_isSign s m = 0) (h1 : m.1 0 30 = 0) (h2 : m.1 0 26 = 3) : ¬ lg_cmp m.2 (Int32.toInt64 s) = 0 := by
  intro h3
  unfold X6_isSign at h
  rw [if_pos h1, if_pos h2, if_pos h3] at h
  exact absurd h (by decide)
theorem TK.s {tok : Int32} (T : TK tok m) (s : Nat) (hs : s < 8) (S C : Int32) (hS : sgn s = S) (hC : sgc s = C) : X6_isSign S m = if tok = C then 1 else 0 := by
  rw [← hS, ← hC]; exact T.2.1 s hs
theorem TK.w {tok : Int32} (T : TK tok m) (w : Nat) (hw : w < 12) (C : Int32) (hC : cw w = C) : isW w m = some (if tok = C then 1 else 0) := by
  rw [← hC]; exact T.1 w hw
abbrev qR : Type := vMH → Option (Int32 × vMH)
abbrev qL : Type := Int32 → vMH → Option (Int32 × vMH)
/-- how the loop of a rank goes on, and stops -/
def qLP (jt : Int32 → Prop) (L : qR → qL → qL) : Prop := (∀ (R : qR) (rec : qL) (v tok : Int32) (m : vMH), TK tok m → ¬ jt tok → L R rec v m = some (v, m)) ∧ ∀ (R : qR) (rec : qL) (v tok : Int32) (m : vMH), TK tok m → jt tok → L R rec v m = (X6_next m).bind fun q7 => (R q7).bind fun q9 => rec (X3_joined tok v q9.1) q9.2
theorem qLP_term : qLP (fun j => j = -14) X6_term_L5 := by
  constructor
  · intro R rec v tok m T h
    unfold X6_term_L5
    rw [T.s 5 (by decide) 42 (-14) rfl rfl, if_neg h, if_pos rfl]
  · intro R rec v tok m T h
    unfold X6_term_L5
    rw [T.s 5 (by decide) 42 (-14) rfl rfl, if_pos h, if_neg (by decide), h]
    rfl
theorem qLP_added : qLP (fun j => j = -12 ∨ j = -13) X6_added_L5 := by
  constructor
  · intro R rec v tok m T h
    unfold X6_added_L5
    simp only [wj0]
    rw [T.s 3 (by decide) 43 (-12) rfl rfl, T.s 4 (by decide) 45 (-13) rfl rfl, if_neg (fun z => h (Or.inl z)), if_neg (fun z => h (Or.inr z)), if_pos rfl, if_pos rfl]
  · intro R rec v tok m T h
    have e1 := T.s 3 (by decide) 43 (-12) rfl rfl
    have e2 := T.s 4 (by decide) 45 (-13) rfl rfl
    unfold X6_added_L5
    simp only [wj0, wj1]
    rcases h with rfl | rfl
    · rw [if_pos rfl] at e1
      have := isSign_1 (s := 43) (m := m) (by rw [e1]; decide)
      rw [e1, if_neg (by decide), if_pos (show lg_cmp m.2 43 = 0 from this.2.2)]
      rfl
    · rw [if_neg (by decide)] at e1
      rw [if_pos rfl] at e2
      have h2 := isSign_1 (s := 45) (m := m) (by rw [e2]; decide)
      have h3 := isSign_0 e1 h2.1 h2.2.1
      rw [e1, e2, if_pos rfl, if_neg (by decide), if_neg (show ¬ lg_cmp m.2 43 = 0 from h3)]
      rfl
theorem qLP_both : qLP (fun j => j = -8) X6_both_L5 := by
  constructor
  · intro R rec v tok m T h
    unfold X6_both_L5
    rw [show X6_isWord 97 110 100 0 0 0 0 0 m = _ from T.w 7 (by decide) (-8) rfl, if_neg h, bd_s, if_pos rfl]
  · intro R rec v tok m T h
    unfold X6_both_L5
    rw [show X6_isWord 97 110 100 0 0 0 0 0 m = _ from T.w 7 (by decide) (-8) rfl, if_pos h, bd_s, if_neg (by decide), h]
    congr 1; funext q9; congr 1; funext q11
    simp only [wj0]
    have e : ∀ a b : Int32, X3_joined (-8) a b = if a = 0 then 0 else if b = 0 then 0 else 1 := fun a b => rfl
    rw [e]
    by_cases h1 : v = 0
    · rw [if_pos h1, if_pos h1]
    · rw [if_neg h1, if_neg h1]
      by_cases h2 : q11.1 = 0
      · rw [if_pos h2, if_pos h2]
      · rw [if_neg h2, if_neg h2]
theorem qLP_either : qLP (fun j => j = -7) X6_either_L5 := by
  constructor
  · intro R rec v tok m T h
    unfold X6_either_L5
    rw [show X6_isWord 111 114 0 0 0 0 0 0 m = _ from T.w 6 (by decide) (-7) rfl, if_neg h, bd_s, if_pos rfl]
  · intro R rec v tok m T h
    unfold X6_either_L5
    rw [show X6_isWord 111 114 0 0 0 0 0 0 m = _ from T.w 6 (by decide) (-7) rfl, if_pos h, bd_s, if_neg (by decide), h]
    congr 1; funext q9; congr 1; funext q11
    simp only [wj0]
    have e : ∀ a b : Int32, X3_joined (-7) a b = if a = 0 then (if b = 0 then 0 else 1) else 1 := fun a b => rfl
    rw [e]
    by_cases h1 : v = 0
    · rw [if_pos h1, if_pos h1]
      by_cases h2 : q11.1 = 0
      · rw [if_pos h2, if_pos h2]
      · rw [if_neg h2, if_neg h2]
    · rw [if_neg h1, if_neg h1]
def JN (k : Nat) (jt : Int32 → Prop) : Prop := (∀ tok, X1_isJoint (nI k) tok = 0 ↔ ¬ jt tok) ∧ (∀ tok, jt tok → tok ≠ -20 ∧ tok ≠ -19 ∧ tok < -6 ∧ ¬ (tok = -9 ∨ tok = -15))
theorem jn_if {P : Prop} {i : Decidable P} : ((if P then (1 : Int32) else 0) = 0) ↔ ¬ P := by
  by_cases h : P
  · rw [if_pos h]; simp [h]
  · rw [if_neg h]; simp [h]
theorem JN_0 : JN 0 (fun j => j = -7) := ⟨fun tok => by
  show ((if tok = -7 then (1 : Int32) else 0) = 0) ↔ _
  exact jn_if, fun tok h => by rw [h]; decide⟩
theorem JN_1 : JN 1 (fun j => j = -8) := ⟨fun tok => by
  show ((if tok = -8 then (1 : Int32) else 0) = 0) ↔ _
  exact jn_if, fun tok h => by rw [h]; decide⟩
theorem JN_4 : JN 4 (fun j => j = -14) := ⟨fun tok => by
  show ((if tok = -14 then (1 : Int32) else 0) = 0) ↔ _
  exact jn_if, fun tok h => by rw [h]; decide⟩
theorem jn_if2 {P Q : Prop} {i : Decidable P} {j : Decidable Q} : ((if P then (1 : Int32) else (if Q then 1 else 0)) = 0) ↔ ¬ (P ∨ Q) := by
  by_cases h : P
  · rw [if_pos h]; simp [h]
  · rw [if_neg h, jn_if]; simp [h]
theorem JN_3 : JN 3 (fun j => j = -12 ∨ j = -13) := ⟨fun tok => by
  show ((if tok = -12 then (1 : Int32) else (if tok = -13 then 1 else 0)) = 0) ↔ _
  exact jn_if2, fun tok h => by rcases h with h | h <;> rw [h] <;> decide⟩
theorem JN_2 : JN 2 (fun j => j = -10 ∨ j = -11) := ⟨fun tok => by
  show ((if tok = -10 then (1 : Int32) else (if tok = -11 then 1 else 0)) = 0) ↔ _
  exact jn_if2, fun tok h => by rcases h with h | h <;> rw [h] <;> decide⟩
theorem mstep_j {nv : Nat → Int32} {tok w v : Int32} {S : List Int32} (h1 : tok < -6) (h2 : ¬ (tok = -9 ∨ tok = -15)) : mstep nv tok (w :: v :: S) = X3_joined tok v w :: S := by
  unfold mstep
  rw [if_pos h1, if_neg h2]
/-- the inner rank -/
def INN (t z o : Nat) (RC : vMH → Option vMH) (RM : qR) : Prop := ∀ (c m : vMH) (p x : Nat), RS t z c m → GD z o c m p → NX t x c → x ≤ 160 * t + p → ∃ (c' : vMH) (w : Int32) (m' : vMH), RC c = some c' ∧ RM m = some (w, m') ∧ EO t z o 0 (fun S => S) (fun S => w :: S) c m p x c' m'
theorem stop_C {k : Nat} {jt : Int32 → Prop} (J : JN k jt) {v2 s5 : Int32} {R : Int32 → Int32 → vMH → Option vMH} {rec : Int32 → vMH → Option vMH} {i : Int32} (h : ¬ jt (c.1 6 5)) : X1_readRank_L75 (nI k) v2 s5 R rec i c = some c := by
  unfold X1_readRank_L75
  split
  · rfl
  · rw [if_pos ((J.1 _).mpr h)]
theorem loop_ok {k : Nat} {jt : Int32 → Prop} {L : qR → qL → qL} (J : JN k jt) (hL : qLP jt L) {RC : Int32 → Int32 → vMH → Option vMH} {RM : qR} (hin : INN t z o (RC (nI (k + 1)) (nI o)) RM) : ∀ (r p : Nat), z - p ≤ r → ∀ i : Nat, i ≤ p → ∀ N N' : Nat, r < N → r < N' → ∀ (c m : vMH) (v : Int32) (x : Nat), RS t z c m → GD z o c m p → NX t x c → x ≤ 160 * t + p → ∃ (c' : vMH) (v' : Int32) (m' : vMH), lq2 N (X1_readRank_L75 (nI k) (nI o) 160 RC) (nI i) c = some c' ∧ lq2 N' (L RM) v m = some (v', m') ∧ EO t z o 0 (fun S => v :: S) (fun S => v' :: S) c m p x c' m' := by
  intro r
  induction r with
  | zero =>
    intro p hp i hi N N' hN hN' c m v x R G X hx
    obtain ⟨N, rfl⟩ : ∃ M, N = M + 1 := ⟨N - 1, by omega⟩
    obtain ⟨N', rfl⟩ : ∃ M, N' = M + 1 := ⟨N' - 1, by omega⟩
    have T := G.2.2.2.2.2.1
    have hnj : ¬ jt (c.1 6 5) := by
      intro hj
      have h2 := J.2 _ hj
      have := G.2.2.2.2.2.2.2.1 h2.2.1
      omega
    refine ⟨c, v, m, by rw [lq2_s, stop_C J hnj], by rw [lq2_s, hL.1 _ _ _ _ _ T hnj], ⟨x, X, Nat.le_refl _, fun _ _ => rfl, Kp.rf, Kp.rf, Or.inr ⟨p, G, Nat.le_refl _, by omega, fun S => by rw [Nat.sub_self]; rfl⟩⟩⟩
  | succ r ih =>
    intro p hp i hi N N' hN hN' c m v x R G X hx
    obtain ⟨N, rfl⟩ : ∃ M, N = M + 1 := ⟨N - 1, by omega⟩
    obtain ⟨N', rfl⟩ : ∃ M, N' = M + 1 := ⟨N' - 1, by omega⟩
    have T := G.2.2.2.2.2.1
    have hz := R.2.1
    by_cases hj : jt (c.1 6 5)
    · have h2 := J.2 _ hj
      have hpz := G.2.2.2.2.2.2.2.1 h2.2.1
      obtain ⟨c1, m1, p1, a1, a2, a3, a4, a5, a6⟩ := adv_gd R G h2.1 h2.2.1
      have R1 := R.L a5 a6
      have X1 : NX t x c1 := X.kp a5 (by unfold PcL; omega)
      obtain ⟨c2, w, m2, b1, b2, b3⟩ := hin c1 m1 p1 x R1 a4 X1 (by omega)
      have b4 : EO t z o 0 (fun S => v :: S) (fun S => w :: v :: S) c1 m1 p1 x c2 m2 := by
        obtain ⟨x', y1, y2, y3, y4, y5, y6⟩ := b3
        exact ⟨x', y1, y2, y3, y4, y5, y6.imp id (fun ⟨p', g1, g2, g3, g4⟩ => ⟨p', g1, g2, g3, fun S => g4 (v :: S)⟩)⟩
      have b5 := EO.pre a5 (PmLR a6) a3 b4
      obtain ⟨c3, d1, d2, d3⟩ := b5.wr R.1 hz hx (step := c.1 6 5) (fin' := fun S => X3_joined (c.1 6 5) v w :: S) (fun S => mstep_j h2.2.2.1 h2.2.2.2)
      have eC : X1_readRank_L75 (nI k) (nI o) 160 RC (lq2 N (X1_readRank_L75 (nI k) (nI o) 160 RC)) (nI i) c = lq2 N (X1_readRank_L75 (nI k) (nI o) 160 RC) (nI (i + 1)) c3 := by
        rw [X1_readRank_L75, if_neg (by rw [show (160 : Int32) = nI 160 from rfl]; exact nI_ge (by omega) (by decide)), if_neg (fun z => (J.1 _).mp z hj), a1, bd_s, nI_1, b1, bd_s, d1, bd_s, nI_1]
      have eM : L RM (lq2 N' (L RM)) v m = lq2 N' (L RM) (X3_joined (c.1 6 5) v w) m2 := by
        rw [hL.2 _ _ _ _ _ T hj, a2, bd_s, b2, bd_s]
      rw [lq2_s, lq2_s, eC, eM]
      obtain ⟨x3, y1, y2, y3, y4, y5, y6⟩ := d2
      rcases y6 with B | ⟨p3, g1, g2, g3, g4⟩
      · have hb : ¬ jt (c3.1 6 5) := fun hj3 => (J.2 _ hj3).1 B.2.1
        obtain ⟨N, rfl⟩ : ∃ M, N = M + 1 := ⟨N - 1, by omega⟩
        obtain ⟨N', rfl⟩ : ∃ M, N' = M + 1 := ⟨N' - 1, by omega⟩
        refine ⟨c3, X3_joined (c.1 6 5) v w, m2, by rw [lq2_s, stop_C J hb], by rw [lq2_s, hL.1 _ _ _ (-20) _ (TK_bad B.1) (fun hj3 => (J.2 _ hj3).1 rfl)], ⟨x3, y1, y2, y3, y4, y5, Or.inl B⟩⟩
      · have hp1 : p + 1 ≤ p3 := by
          rcases b3 with ⟨x', q1, q2, q3, q4, q5, q6⟩
          rcases q6 with B | ⟨p', g1', g2', -⟩
          · have := (B.kc d3 (fun j _ _ => by omega)).1
            rw [g1.1] at this
            exact absurd this (by decide)
          · have e1 := (g1'.kc d3 (fun j _ _ => by omega)).2.2.2.1
            have e2 := g1.2.2.2.1
            rw [e1] at e2
            have h3 : p' ≤ z := g1'.2.2.2.2.2.2.1
            have h4 : p3 ≤ z := g1.2.2.2.2.2.2.1
            have := (nI_eq (by omega) (by omega)).mp e2
            omega
        obtain ⟨c4, v4, m4, f1, f2, f3⟩ := ih p3 (by omega) (i + 1) (by omega) N N' (by omega) (by omega) c3 m2 (X3_joined (c.1 6 5) v w) x3 (R.R y4 y5) g1 y1 (by omega)
        exact ⟨c4, v4, m4, f1, f2, EO.tr y4 y5 y2 y3 g2 g3 g4 f3⟩
    · refine ⟨c, v, m, by rw [lq2_s, stop_C J hj], by rw [lq2_s, hL.1 _ _ _ _ _ T hj], ⟨x, X, Nat.le_refl _, fun _ _ => rfl, Kp.rf, Kp.rf, Or.inr ⟨p, G, Nat.le_refl _, by omega, fun S => by rw [Nat.sub_self]; rfl⟩⟩⟩
/-- a rank with a loop -/
theorem rank_ok {k : Nat} {jt : Int32 → Prop} {L : qR → qL → qL} (J : JN k jt) (hL : qLP jt L) {RC : Int32 → Int32 → vMH → Option vMH} {RM : qR} (hin : INN t z o (RC (nI (k + 1)) (nI o)) RM) : INN t z o (fun c => (RC (nI (k + 1)) (nI o) c).bind fun q3 => lq2 4096 (X1_readRank_L75 (nI k) (nI o) 160 RC) 0 q3) (fun m => (RM m).bind fun q1 => lq2 4096 (L RM) q1.1 q1.2) := by
  intro c m p x R G X hx
  have hz := R.2.1
  obtain ⟨c1, w, m1, b1, b2, b3⟩ := hin c m p x R G X hx
  obtain ⟨x1, y1, y2, y3, y4, y5, y6⟩ := b3
  show ∃ (c' : vMH) (w : Int32) (m' : vMH), ((RC (nI (k + 1)) (nI o) c).bind fun q3 => lq2 4096 (X1_readRank_L75 (nI k) (nI o) 160 RC) 0 q3) = some c' ∧ ((RM m).bind fun q1 => lq2 4096 (L RM) q1.1 q1.2) = some (w, m') ∧ _
  rw [b1, b2, bd_s, bd_s]
  rcases y6 with B | ⟨p1, g1, g2, g3, g4⟩
  · have hb : ¬ jt (c1.1 6 5) := fun hj3 => (J.2 _ hj3).1 B.2.1
    refine ⟨c1, w, m1, by rw [show (4096 : Nat) = 4095 + 1 from rfl, lq2_s, stop_C J hb], by rw [show (4096 : Nat) = 4095 + 1 from rfl, lq2_s, hL.1 _ _ _ (-20) _ (TK_bad B.1) (fun hj3 => (J.2 _ hj3).1 rfl)], ⟨x1, y1, y2, y3, y4, y5, Or.inl B⟩⟩
  · have hp1 : p1 ≤ z := g1.2.2.2.2.2.2.1
    obtain ⟨c4, v4, m4, f1, f2, f3⟩ := loop_ok J hL hin (z - p1) p1 (Nat.le_refl _) 0 (Nat.zero_le _) 4096 4096 (by omega) (by omega) c1 m1 w x1 (R.R y4 y5) g1 y1 (by omega)
    exact ⟨c4, v4, m4, f1, f2, EO.tr y4 y5 y2 y3 g2 g3 g4 f3⟩
end EXPR
