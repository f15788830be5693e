/-! PURE PART, a new text; the relation -/
def nres (nv : Nat → Int32) : Nat → Int32 := fun i => if i < 6 then nv i else 0
theorem mstep_res (nv : Nat → Int32) (x : Int32) (S : List Int32) : mstep nv x S = mstep (nres nv) x S := by
  unfold mstep
  by_cases h : x < -6
  · rw [if_pos h, if_pos h]
  · rw [if_neg h, if_neg h]
    by_cases h2 : x < 0
    · rw [if_pos h2, if_pos h2]
      unfold nres
      rw [if_pos (nm_ix h h2).2]
    · rw [if_neg h2, if_neg h2]
theorem mrun_res (nv : Nat → Int32) : ∀ (l S : List Int32), mrun nv l S = mrun (nres nv) l S
  | [], _ => rfl
  | x :: l, S => by rw [mrun, mrun, mstep_res nv x S]; exact mrun_res nv l _
def mset (m : vMH) (nv : Nat → Int32) : vMH := v_up (v_up (v_up (v_up (v_up (v_up m 0 17 (nv 0)) 0 18 (nv 1)) 0 19 (nv 2)) 0 20 (nv 3)) 0 21 (nv 4)) 0 22 (nv 5)
theorem mset_nv (m : vMH) (nv : Nat → Int32) : mnv (mset m nv) = nres nv := by
  funext i
  unfold mnv nres mset
  by_cases hi : i < 6
  · rw [if_pos hi, if_pos hi]
    have : i = 0 ∨ i = 1 ∨ i = 2 ∨ i = 3 ∨ i = 4 ∨ i = 5 := by omega
    rcases this with rfl | rfl | rfl | rfl | rfl | rfl <;> simp [rd_up]
  · rw [if_neg hi, if_neg hi]
theorem mset_kp (m : vMH) (nv : Nat → Int32) : Kp (fun q k => q = 0 ∧ 17 ≤ k ∧ k ≤ 22) m (mset m nv) := by
  unfold mset
  exact (((((Kp.rf.up (by omega)).up (by omega)).up (by omega)).up (by omega)).up (by omega)).up (by omega)
theorem nres_mnv (m : vMH) : nres (mnv m) = mnv m := by
  funext i
  unfold nres mnv
  by_cases hi : i < 6
  · rw [if_pos hi]
  · rw [if_neg hi, if_neg hi]
/-- the steps of a part, where the ends say -/
def segP (t w : Nat) (c : vMH) : List Int32 := if w = 0 then seg (c.1 25) (160 * t) (jn (c.1 26 (3 * t)) - 160 * t) else if w = 1 then seg (c.1 25) (jn (c.1 26 (3 * t))) (jn (c.1 26 (3 * t + 1)) - jn (c.1 26 (3 * t))) else seg (c.1 25) (jn (c.1 26 (3 * t + 1))) (jn (c.1 26 (3 * t + 2)) - jn (c.1 26 (3 * t + 1)))
def valP (t : Nat) (c : vMH) (w : Nat) (nv : Nat → Int32) : Int32 := (mrun (nres nv) (segP t w c) []).headD 0
theorem new_text {t z : Nat} {c c' m : vMH} (ht : t < 6) (hz : z ≤ 160) (h0 : c.1 5 0 = nI t) (hs : c.1 6 0 = nI z) (hm2 : m.1 2 t = nI z) (hb : ∀ j, j < z → ∃ b : Nat, b ≤ 255 ∧ c.1 29 j = nI b ∧ m.1 1 (160 * t + j) = nI b) (hr : X1_readTape c = some (-1, c')) : TC t (valP t c') c' ∧ TM t (valP t c') m := by
  have key : ∀ m2 : vMH, m2.1 2 t = nI z → (∀ j, j < z → m2.1 1 (160 * t + j) = m.1 1 (160 * t + j)) → ∃ (v0 v1 v2 : Int32) (m' : vMH), (∀ W, X6_read (nI t) W m2 = selW W v0 v1 v2 m') ∧ Kp PmU m2 m' ∧ okSem t (mnv m2) c' v0 v1 v2 := by
    intro m2 e1 e2
    obtain ⟨f, c2, v0, v1, v2, m', y1, y2, y3, y4, y5, y6⟩ := read_ok ht hz h0 hs e1 (fun j hj => by
      obtain ⟨b, b1, b2, b3⟩ := hb j hj
      exact ⟨b, b1, b2, by rw [e2 j hj]; exact b3⟩)
    rw [hr] at y1
    cases y1
    rcases y6 with ⟨-, -, h⟩ | ⟨q, hq, h, -⟩
    · exact ⟨v0, v1, v2, m', y2, y3, h⟩
    · exact absurd h.symm (nIm1 (by omega))
  have sem : ∀ (nv : Nat → Int32) (v0 v1 v2 : Int32), okSem t nv c' v0 v1 v2 → nres nv = nv → mrun nv (segP t 0 c') [] = [v0] ∧ mrun nv (segP t 1 c') [] = [v1] ∧ mrun nv (segP t 2 c') [] = [v2] ∧ valP t c' 0 nv = v0 ∧ valP t c' 1 nv = v1 ∧ valP t c' 2 nv = v2 := by
    intro nv v0 v1 v2 h hn
    obtain ⟨e0, e1, e2, b1, b2, b3, b4, b5, b6, b7, b8, b9, b10⟩ := h
    have s0 : segP t 0 c' = seg (c'.1 25) (160 * t) (e0 - 160 * t) := by unfold segP; rw [if_pos rfl, b5, jn_nI (by omega)]
    have s1 : segP t 1 c' = seg (c'.1 25) e0 (e1 - e0) := by unfold segP; rw [if_neg (by decide), if_pos rfl, b5, b6, jn_nI (by omega), jn_nI (by omega)]
    have s2 : segP t 2 c' = seg (c'.1 25) e1 (e2 - e1) := by unfold segP; rw [if_neg (by decide), if_neg (by decide), b6, b7, jn_nI (by omega), jn_nI (by omega)]
    unfold valP
    rw [hn, s0, s1, s2, b8, b9, b10]
    exact ⟨rfl, rfl, rfl, rfl, rfl, rfl⟩
  constructor
  · obtain ⟨v0, v1, v2, m', -, -, h⟩ := key m hm2 (fun _ _ => rfl)
    obtain ⟨e0, e1, e2, b1, b2, b3, b4, b5, b6, b7, -⟩ := h
    refine ⟨e0, e1, e2, b1, b2, b3, b4, b5, b6, b7, ?_⟩
    have s0 : segP t 0 c' = seg (c'.1 25) (160 * t) (e0 - 160 * t) := by unfold segP; rw [if_pos rfl, b5, jn_nI (by omega)]
    have s1 : segP t 1 c' = seg (c'.1 25) e0 (e1 - e0) := by unfold segP; rw [if_neg (by decide), if_pos rfl, b5, b6, jn_nI (by omega), jn_nI (by omega)]
    have s2 : segP t 2 c' = seg (c'.1 25) e1 (e2 - e1) := by unfold segP; rw [if_neg (by decide), if_neg (by decide), b6, b7, jn_nI (by omega), jn_nI (by omega)]
    rw [← s0, ← s1, ← s2]
    have all : ∀ nv : Nat → Int32, mrun nv (segP t 0 c') [] = [valP t c' 0 nv] ∧ mrun nv (segP t 1 c') [] = [valP t c' 1 nv] ∧ mrun nv (segP t 2 c') [] = [valP t c' 2 nv] := by
      intro nv
      obtain ⟨u0, u1, u2, m'', -, -, h2⟩ := key (mset m nv) (by rw [mset_kp _ _ _ _ (by omega)]; exact hm2) (fun j _ => by rw [mset_kp _ _ _ _ (by omega)])
      rw [mset_nv] at h2
      have hnn : nres (nres nv) = nres nv := by funext i; unfold nres; by_cases hi : i < 6 <;> simp [hi]
      obtain ⟨a0, a1, a2, a3, a4, a5⟩ := sem _ _ _ _ h2 hnn
      have ev : ∀ w, valP t c' w nv = valP t c' w (nres nv) := fun w => by unfold valP; rw [hnn]
      rw [mrun_res, mrun_res nv, mrun_res nv (segP t 2 c'), a0, a1, a2, ev, ev, ev, a3, a4, a5]
      exact ⟨rfl, rfl, rfl⟩
    exact ⟨fun nv => (all nv).1, fun nv => (all nv).2.1, fun nv => (all nv).2.2⟩
  · refine ⟨z, hz, hm2, fun m2 g1 g2 w hw => ?_⟩
    obtain ⟨v0, v1, v2, m', y1, y2, y3⟩ := key m2 g2 (fun j hj => g1 j (by omega))
    obtain ⟨-, -, -, a3, a4, a5⟩ := sem _ _ _ _ y3 (nres_mnv m2)
    refine ⟨m', ?_, y2.mono (fun q k h => by unfold PmU at h; unfold PmS; omega)⟩
    have hww : w = 0 ∨ w = 1 ∨ w = 2 := by omega
    rcases hww with rfl | rfl | rfl
    · rw [y1, a3]; rfl
    · rw [y1, a4]; rfl
    · rw [y1, a5]; rfl
-- ===== the relation =====
def TAP (z : Nat) (c m : vMH) : Prop := z ≤ 160 ∧ c.1 6 0 = nI z ∧ m.1 0 6 = nI z ∧ ∀ j, j < z → ∃ b : Nat, b ≤ 255 ∧ c.1 29 j = nI b ∧ m.1 3 j = nI b
def IMG (T : Nat) (c m : vMH) : Prop := (c.1 0 8 = 0 ∧ m.1 0 41 = -1) ∨ (c.1 0 8 = 1 ∧ ∃ K : qV, K 4 0 ≤ 12 ∧ K 4 1 < 2 ^ K 4 0 ∧ K 4 2 ≤ 9 ∧ K 4 3 ≤ 10 ∧ K 4 4 ≤ 99 ∧ K 4 5 < T ∧ (∀ j, j < K 4 0 → K 1 j < 48 ∧ K 2 j ≤ 20 ∧ c.1 14 j = nI (K 1 j) ∧ m.1 10 j = nI (K 1 j) ∧ c.1 15 j = nI (K 2 j) ∧ m.1 11 j = nI (K 2 j)) ∧ c.1 2 4 = nI (K 4 0) ∧ c.1 2 5 = nI (K 4 1) ∧ c.1 2 6 = nI (K 4 2) ∧ c.1 2 7 = nI (K 4 3) ∧ c.1 2 8 = nI (K 4 4) ∧ c.1 2 10 = nI (K 4 5) ∧ c.1 2 9 = m.1 0 46 ∧ m.1 0 41 = nI (K 4 0) ∧ m.1 0 42 = nI (K 4 1) ∧ m.1 0 43 = nI (K 4 2) ∧ m.1 0 44 = nI (K 4 3) ∧ m.1 0 45 = nI (K 4 4) ∧ m.1 0 47 = nI (K 4 5))
def SHT (c m : vMH) : Prop := ∀ s, s < 4 → (c.1 30 s = -1 ∧ m.1 12 s = 0) ∨ (m.1 12 s = 1 ∧ ∃ q k : Nat, q ≤ 2 ∧ k ≤ 40 ∧ c.1 30 s = nI q ∧ m.1 13 s = nI q ∧ c.1 31 s = nI k ∧ m.1 14 s = nI k ∧ ∀ j, j < k → c.1 32 (40 * s + j) = m.1 15 (40 * s + j))
def RST (T : Nat) (E : qE) (c m : vMH) : Prop := TXC T E c ∧ TXM T E m ∧ (∃ z, TAP z c m) ∧ c.1 1 9 = m.1 0 16 ∧ IMG T c m ∧ SHT c m
def Rel (c m : vMH) : Prop := ∃ (V : qV) (T : Nat) (E : qE), OKV V ∧ FC 1 V c ∧ FM V m ∧ V 4 5 < T ∧ RST T E c m
def PcY (q k : Nat) : Prop := (q = 1 ∧ k ≠ 9) ∨ q = 3 ∨ q = 4 ∨ (9 ≤ q ∧ q ≤ 12) ∨ (17 ≤ q ∧ q ≤ 24) ∨ q = 27 ∨ q = 28 ∨ q = 7 ∨ (q = 5 ∧ k = 5) ∨ (q = 6 ∧ 3 ≤ k)
def PmY (q k : Nat) : Prop := (q = 0 ∧ (k = 4 ∨ (11 ≤ k ∧ k ≤ 15) ∨ (17 ≤ k ∧ k ≤ 40))) ∨ (4 ≤ q ∧ q ≤ 9)
theorem RST.kp {T : Nat} {E : qE} {c m c' m' : vMH} (h : RST T E c m) (k1 : Kp PcY c c') (k2 : Kp PmY m m') : RST T E c' m' := by
  obtain ⟨h1, h2, ⟨z, h3⟩, h4, h5, h6⟩ := h
  refine ⟨h1.kp k1 (by unfold PcY; omega) (fun j => by unfold PcY; omega) (fun j => by unfold PcY; omega), h2.kp k2 (by unfold PmY; omega) (fun j => by unfold PmY; omega) (fun j => by unfold PmY; omega), ⟨z, ?_⟩, ?_, ?_, ?_⟩
  · obtain ⟨a1, a2, a3, a4⟩ := h3
    refine ⟨a1, by rw [k1 _ _ (by unfold PcY; omega)]; exact a2, by rw [k2 _ _ (by unfold PmY; omega)]; exact a3, fun j hj => ?_⟩
    rw [k1 _ _ (by unfold PcY; omega), k2 _ _ (by unfold PmY; omega)]
    exact a4 j hj
  · rw [k1 _ _ (by unfold PcY; omega), k2 _ _ (by unfold PmY; omega)]; exact h4
  · have e2 : ∀ k, c'.1 2 k = c.1 2 k := fun k => k1 _ _ (by unfold PcY; omega)
    have e14 : ∀ k, c'.1 14 k = c.1 14 k := fun k => k1 _ _ (by unfold PcY; omega)
    have e15 : ∀ k, c'.1 15 k = c.1 15 k := fun k => k1 _ _ (by unfold PcY; omega)
    have em : ∀ k, 41 ≤ k → m'.1 0 k = m.1 0 k := fun k hk => k2 _ _ (by unfold PmY; omega)
    have m10 : ∀ k, m'.1 10 k = m.1 10 k := fun k => k2 _ _ (by unfold PmY; omega)
    have m11 : ∀ k, m'.1 11 k = m.1 11 k := fun k => k2 _ _ (by unfold PmY; omega)
    unfold IMG
    simp only [k1 0 8 (by unfold PcY; omega), e2, e14, e15, m10, m11, em 41 (by decide), em 42 (by decide), em 43 (by decide), em 44 (by decide), em 45 (by decide), em 46 (by decide), em 47 (by decide)]
    exact h5
  · intro s hs
    have c30 : ∀ k, c'.1 30 k = c.1 30 k := fun k => k1 _ _ (by unfold PcY; omega)
    have c31 : ∀ k, c'.1 31 k = c.1 31 k := fun k => k1 _ _ (by unfold PcY; omega)
    have c32 : ∀ k, c'.1 32 k = c.1 32 k := fun k => k1 _ _ (by unfold PcY; omega)
    have m12 : ∀ k, m'.1 12 k = m.1 12 k := fun k => k2 _ _ (by unfold PmY; omega)
    have m13 : ∀ k, m'.1 13 k = m.1 13 k := fun k => k2 _ _ (by unfold PmY; omega)
    have m14 : ∀ k, m'.1 14 k = m.1 14 k := fun k => k2 _ _ (by unfold PmY; omega)
    have m15 : ∀ k, m'.1 15 k = m.1 15 k := fun k => k2 _ _ (by unfold PmY; omega)
    simp only [c30, c31, c32, m12, m13, m14, m15]
    exact h6 s hs
theorem PcSY {a b : vMH} (h : Kp PcS a b) : Kp PcY a b := h.mono (fun q k z => by unfold PcS at z; unfold PcY; omega)
theorem PmSY {a b : vMH} (h : Kp PmS a b) : Kp PmY a b := h.mono (fun q k z => by unfold PmS at z; unfold PmY; omega)
/-- the field is as it was, all else scratch -/
theorem Rel.S {c m c' m' : vMH} (h : Rel c m) (k1 : Kp PcS c c') (k2 : Kp PmS m m') : Rel c' m' := by
  obtain ⟨V, T, E, O, F, G, hu, R⟩ := h
  exact ⟨V, T, E, O, F.kS isF1 k1, G.kS O k2, hu, R.kp (PcSY k1) (PmSY k2)⟩
theorem rel_same {α : Type} {c m : vMH} {f g : vMH → Option (α × vMH)} (R : Rel c m) (x : α) (h1 : f c = some (x, c)) (h2 : g m = some (x, m)) : ∃ (x : α) (c' m' : vMH), f c = some (x, c') ∧ g m = some (x, m') ∧ Rel c' m' := ⟨x, c, m, h1, h2, R⟩
