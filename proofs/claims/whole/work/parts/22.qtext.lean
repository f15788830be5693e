/-! PURE PART, texts: a stack of steps; what a text says of a find -/
def PcS (r _k : Nat) : Prop := r = 27 ∨ r = 28
def PmS (r k : Nat) : Prop := r = 0 ∧ 17 ≤ k ∧ k ≤ 31
def mstep (nv : Nat → Int32) (x : Int32) (S : List Int32) : List Int32 :=
  if x < -6 then
    (if x = -9 ∨ x = -15 then (match S with | [] => [] | a :: t => X3_turned x a :: t)
    else (match S with | [] => [] | [a] => [a] | b :: a :: t => X3_joined x a b :: t))
  else (if x < 0 then nv (jn (-1 - x)) else x) :: S
def mrun (nv : Nat → Int32) : List Int32 → List Int32 → List Int32
  | [], S => S
  | x :: l, S => mrun nv l (mstep nv x S)
theorem mrun_app (nv : Nat → Int32) : ∀ (l1 l2 S : List Int32), mrun nv (l1 ++ l2) S = mrun nv l2 (mrun nv l1 S)
  | [], _, _ => rfl
  | x :: l, l2, S => mrun_app nv l l2 (mstep nv x S)
def seg (f : Nat → Int32) : Nat → Nat → List Int32
  | _, 0 => []
  | a, n + 1 => f a :: seg f (a + 1) n
theorem seg_app (f : Nat → Int32) : ∀ (n k a : Nat), seg f a (n + k) = seg f a n ++ seg f (a + n) k
  | 0, k, a => by simp [seg]
  | n + 1, k, a => by
    rw [show n + 1 + k = (n + k) + 1 by omega, seg, seg, seg_app f n k (a + 1), show a + 1 + n = a + (n + 1) by omega]; rfl
theorem seg_congr {f g : Nat → Int32} : ∀ (n a : Nat), (∀ i, a ≤ i → i < a + n → f i = g i) → seg f a n = seg g a n
  | 0, _, _ => rfl
  | n + 1, a, h => by rw [seg, seg, h a (by omega) (by omega), seg_congr n (a + 1) (fun i h1 h2 => h i (by omega) (by omega))]
theorem mstep_len (nv : Nat → Int32) (x : Int32) (S : List Int32) : (mstep nv x S).length ≤ S.length + 1 := by
  unfold mstep
  split
  · split
    · split <;> simp
    · split <;> simp
  · simp
/-- the stack's row holds these, the last at the head -/
def SK : List Int32 → (Nat → Int32) → Prop
  | [], _ => True
  | a :: t, st => st t.length = a ∧ SK t st
theorem SK_up {st : Nat → Int32} {k : Nat} {x : Int32} : ∀ {S : List Int32}, SK S st → S.length ≤ k → SK S (fun j => if j = k then x else st j)
  | [], _, _ => trivial
  | a :: t, h, hl => by
    simp only [List.length_cons] at hl
    refine ⟨?_, SK_up h.2 (by omega)⟩
    show (if t.length = k then x else st t.length) = a
    rw [if_neg (by omega)]; exact h.1
def cnv (c : vMH) : Nat → Int32 := fun i => if i < 6 then c.1 27 i else 0
def mnv (m : vMH) : Nat → Int32 := fun i => if i < 6 then m.1 0 (17 + i) else 0
theorem rd_st (c : vMH) (k : Nat) (x : Int32) : (v_up c 28 k x).1 28 = fun j => if j = k then x else c.1 28 j := by
  funext j
  rw [rd_up]
  simp
theorem nm_ix {x : Int32} (h1 : ¬ x < -6) (h2 : x < 0) : inb (-1 - x) 6 ∧ jn (-1 - x) < 6 := by
  rw [Int32.lt_iff_toInt_lt] at h1 h2
  have e1 : ((-6 : Int32)).toInt = -6 := rfl
  have e2 : ((0 : Int32)).toInt = 0 := rfl
  have e3 : (-1 - x).toInt = -1 - x.toInt := by
    rw [qi_sub] <;> rw [show ((-1 : Int32)).toInt = -1 from rfl] <;> omega
  have e4 : jn (-1 - x) = (-1 - x).toInt.toNat := rfl
  refine ⟨?_, by omega⟩
  show ¬ ((-1 - x) < 0 ∨ 6 ≤ jn (-1 - x))
  rw [Int32.lt_iff_toInt_lt]
  omega
theorem two_way {ρ : Type} {x : Int32} {A B : ρ} (h : x = -9 ∨ x = -15) : (if x = -9 then A else if x = -15 then A else B) = A := by
  by_cases h1 : x = -9
  · rw [if_pos h1]
  · rw [if_neg h1, if_pos (h.resolve_left h1)]
theorem run_loop {nv code : Nat → Int32} {b : Nat} (hb : b ≤ 960) (J : vMH → Option (Int32 × vMH)) : ∀ (n a : Nat) (S : List Int32) (c : vMH), a + n = b → S.length + n ≤ 160 → c.1 25 = code → cnv c = nv → SK S (c.1 28) → ∀ N, n < N → ∃ c', lq3 N (X3_run_L5 (nI b) J) (nI S.length) (nI a) c = J c' ∧ Kp (fun r _ => r = 28) c c' ∧ SK (mrun nv (seg code a n) S) (c'.1 28) := by
  intro n
  induction n with
  | zero =>
    intro a S c hab hl hc hn hS N hN
    obtain ⟨N, rfl⟩ : ∃ M, N = M + 1 := ⟨N - 1, by omega⟩
    refine ⟨c, ?_, Kp.rf, hS⟩
    rw [lq3_s]; rw [X3_run_L5]
    rw [if_pos (nI_le (by omega) (by omega))]
  | succ n ih =>
    intro a S c hab hl hc hn hS N hN
    obtain ⟨N, rfl⟩ : ∃ M, N = M + 1 := ⟨N - 1, by omega⟩
    have ha : a < 960 := by omega
    have hlen := mstep_len nv (code a) S
    have step : ∀ c2 : vMH, Kp (fun r _ => r = 28) c c2 → SK (mstep nv (code a) S) (c2.1 28) → ∃ c', lq3 N (X3_run_L5 (nI b) J) (nI (mstep nv (code a) S).length) (nI a + 1) c2 = J c' ∧ Kp (fun r _ => r = 28) c c' ∧ SK (mrun nv (seg code a (n + 1)) S) (c'.1 28) := by
      intro c2 k2 s2
      have hc2 : c2.1 25 = code := by rw [← hc]; funext j; exact k2 25 j (show ¬ (25 : Nat) = 28 by decide)
      have hn2 : cnv c2 = nv := by
        rw [← hn]; funext j; unfold cnv; rw [k2 27 j (show ¬ (27 : Nat) = 28 by decide)]
      obtain ⟨c', h1, h2, h3⟩ := ih (a + 1) (mstep nv (code a) S) c2 (by omega) (by omega) hc2 hn2 s2 N (by omega)
      rw [nI_1]
      exact ⟨c', h1, k2.tr h2, h3⟩
    have hst : ∀ (k : Nat) (x : Int32), Kp (fun r _ => r = 28) c (v_up c 28 k x) := fun k x => Kp.rf.up rfl
    rw [lq3_s]; rw [X3_run_L5]
    rw [if_neg (nI_ge (by omega) (by omega)), if_neg (by rw [show (960 : Int32) = nI 960 from rfl]; exact nI_ge ha (by decide)), chk_t (inb_nI ha (by decide)), jn_nI (by omega), hc]
    simp only [wj0, wj1]
    unfold mstep at step
    by_cases h1 : code a < -6
    · rw [if_pos h1]
      rw [if_pos h1] at step
      by_cases h2 : code a = -9 ∨ code a = -15
      · rw [if_pos h2] at step
        rw [two_way h2]
        cases S with
        | nil =>
          rw [if_pos (by decide)]
          exact step c Kp.rf trivial
        | cons x t =>
          simp only [List.length_cons] at step hl ⊢
          rw [if_neg (by rw [show (1 : Int32) = nI 1 from rfl]; exact nI_nlt (by omega) (by omega)), chk_t (by rw [nI_pred]; exact inb_nI (by omega) (by decide)), nI_pred, jn_nI (by omega), hS.1]
          refine step _ (hst _ _) ?_
          rw [rd_st]
          refine ⟨?_, SK_up hS.2 (Nat.le_refl _)⟩
          simp
      · rw [if_neg h2] at step
        rw [if_neg (fun z => h2 (Or.inl z)), if_neg (fun z => h2 (Or.inr z))]
        match S, hS, step, hl with
        | [], hS, step, hl =>
          rw [if_pos (by decide)]
          exact step c Kp.rf trivial
        | [x], hS, step, hl =>
          rw [if_pos (show nI ([x] : List Int32).length < 2 from (by decide : nI 1 < 2))]
          exact step c Kp.rf hS
        | y :: x :: t, hS, step, hl =>
          simp only [List.length_cons] at step hl ⊢
          rw [if_neg (by rw [show (2 : Int32) = nI 2 from rfl]; exact nI_nlt (by omega) (by omega)), chk_t (by rw [pk_m1 (t.length + 1), nI_pred t.length]; exact inb_nI (by omega) (by decide)), chk_t (by rw [pk_m1 (t.length + 1)]; exact inb_nI (by omega) (by decide)), pk_m1 (t.length + 1), nI_pred t.length, jn_nI (show t.length < 2 ^ 31 by omega), jn_nI (show t.length + 1 < 2 ^ 31 by omega), hS.2.1, show c.1 28 (t.length + 1) = y from hS.1]
          refine step _ (hst _ _) ?_
          rw [rd_st]
          refine ⟨?_, SK_up hS.2.2 (Nat.le_refl _)⟩
          simp
    · rw [if_neg h1]
      rw [if_neg h1] at step
      rw [if_neg (by rw [show (160 : Int32) = nI 160 from rfl]; exact nI_ge (by omega) (by omega))]
      have hpush : ∀ v : Int32, v = (if code a < 0 then nv (jn (-1 - code a)) else code a) → ∃ c', chk (inb (nI S.length) 160) (lq3 N (X3_run_L5 (nI b) J) (nI S.length + 1) (nI a + 1) (v_up c 28 (jn (nI S.length)) v)) = J c' ∧ Kp (fun r _ => r = 28) c c' ∧ SK (mrun nv (seg code a (n + 1)) S) (c'.1 28) := by
        intro v hv
        rw [chk_t (inb_nI (by omega) (by decide)), jn_nI (by omega), nI_1 S.length]
        rw [← hv] at step
        refine step _ (hst _ _) ?_
        rw [rd_st]
        refine ⟨?_, SK_up hS (Nat.le_refl _)⟩
        simp
      by_cases h2 : code a < 0
      · rw [if_pos h2] at hpush ⊢
        obtain ⟨i1, i2⟩ := nm_ix h1 h2
        rw [chk_t i1]
        refine hpush _ ?_
        rw [← hn]; unfold cnv; rw [if_pos i2]
      · rw [if_neg h2] at hpush ⊢
        exact hpush _ rfl
theorem run_ok {c : vMH} {a n : Nat} {v : Int32} (hb : a + n ≤ 960) (hn : n ≤ 160) (h : mrun (cnv c) (seg (c.1 25) a n) [] = [v]) : ∃ c', X3_run (nI a) (nI (a + n)) c = some (v, c') ∧ Kp (fun r _ => r = 28) c c' := by
  obtain ⟨c', h1, h2, h3⟩ := run_loop (b := a + n) hb (fun mh1 => some ((mh1.1 28 (jn 0)), mh1)) n a [] c rfl (by simpa using hn) rfl rfl trivial 4096 (by omega)
  refine ⟨c', ?_, h2⟩
  unfold X3_run
  simp only [wj1]
  rw [h] at h3
  have : c'.1 28 (jn 0) = v := h3.1
  rw [← this]
  exact h1
-- ===== what a text says =====
abbrev qE : Type := Nat → Nat → (Nat → Int32) → Int32
def TC (t : Nat) (e : Nat → (Nat → Int32) → Int32) (c : vMH) : Prop := ∃ e0 e1 e2 : Nat, 160 * t ≤ e0 ∧ e0 ≤ e1 ∧ e1 ≤ e2 ∧ e2 ≤ 160 * t + 160 ∧ c.1 26 (3 * t) = nI e0 ∧ c.1 26 (3 * t + 1) = nI e1 ∧ c.1 26 (3 * t + 2) = nI e2 ∧ (∀ nv, mrun nv (seg (c.1 25) (160 * t) (e0 - 160 * t)) [] = [e 0 nv]) ∧ (∀ nv, mrun nv (seg (c.1 25) e0 (e1 - e0)) [] = [e 1 nv]) ∧ ∀ nv, mrun nv (seg (c.1 25) e1 (e2 - e1)) [] = [e 2 nv]
def TM (t : Nat) (e : Nat → (Nat → Int32) → Int32) (m : vMH) : Prop := ∃ z, z ≤ 160 ∧ m.1 2 t = nI z ∧ ∀ m' : vMH, (∀ j, j < 160 → m'.1 1 (160 * t + j) = m.1 1 (160 * t + j)) → m'.1 2 t = nI z → ∀ w, w < 3 → ∃ m'', X6_read (nI t) (nI w) m' = some (e w (mnv m'), m'') ∧ Kp PmS m' m''
def TXC (T : Nat) (E : qE) (c : vMH) : Prop := 1 ≤ T ∧ T ≤ 6 ∧ c.1 5 0 = nI T ∧ ∀ t, t < T → TC t (E t) c
def TXM (T : Nat) (E : qE) (m : vMH) : Prop := m.1 0 3 = nI T ∧ ∀ t, t < T → TM t (E t) m
theorem TXC.kp {P : Nat → Nat → Prop} {T : Nat} {E : qE} {c c' : vMH} (h : TXC T E c) (k : Kp P c c') (h1 : ¬ P 5 0) (h2 : ∀ j, ¬ P 25 j) (h3 : ∀ j, ¬ P 26 j) : TXC T E c' := by
  obtain ⟨a1, a2, a3, a4⟩ := h
  refine ⟨a1, a2, by rw [k _ _ h1]; exact a3, fun t ht => ?_⟩
  obtain ⟨e0, e1, e2, b⟩ := a4 t ht
  have hc : c'.1 25 = c.1 25 := funext fun j => k _ _ (h2 j)
  refine ⟨e0, e1, e2, ?_⟩
  rw [hc, k _ _ (h3 _), k _ _ (h3 _), k _ _ (h3 _)]
  exact b
theorem TXM.kp {P : Nat → Nat → Prop} {T : Nat} {E : qE} {m m' : vMH} (h : TXM T E m) (k : Kp P m m') (h1 : ¬ P 0 3) (h2 : ∀ j, ¬ P 1 j) (h3 : ∀ j, ¬ P 2 j) : TXM T E m' := by
  obtain ⟨a3, a4⟩ := h
  refine ⟨by rw [k _ _ h1]; exact a3, fun t ht => ?_⟩
  obtain ⟨z, b1, b2, b3⟩ := a4 t ht
  refine ⟨z, b1, by rw [k _ _ (h3 _)]; exact b2, fun m2 g1 g2 => b3 m2 (fun j hj => ?_) g2⟩
  rw [g1 j hj, k _ _ (h2 _)]
def nmV (V : qV) (f : Nat) (L : Int32) : Nat → Int32 := fun i => if i = 0 then nI (toneZ (V 0 f) (V 3 f)) else if i = 1 then L else if i = 2 then nI (V 4 2) else if i = 3 then nI (V 4 3) else if i = 4 then nI (V 1 f / 8) else if i = 5 then nI (V 1 f % 8) else 0
theorem cell_y {x : Nat} (h : x < 48) : nI x / 8 = nI (x / 8) := pk_div (by omega) (by decide) (by decide)
theorem cell_x {x : Nat} (h : x < 48) : jr (nI x) 8 = nI (x % 8) := pk_rem (by omega) (by decide) (by decide)
def clampZ (x : Int32) : Nat := if x.toInt < 0 then 0 else if 99 < x.toInt then 99 else x.toInt.toNat
theorem clamp_le (x : Int32) : clampZ x ≤ 99 := by unfold clampZ; split; · omega
                                                   · split <;> omega
theorem held_c (x : Int32) : X5_held x 99 = nI (clampZ x) ∧ X6_within x 0 99 = nI (clampZ x) := by
  unfold X5_held X6_within clampZ
  simp only [Int32.le_iff_toInt_le, show ((0 : Int32)).toInt = 0 from rfl, show ((99 : Int32)).toInt = 99 from rfl]
  by_cases h1 : x.toInt < 0
  · rw [if_pos h1, if_neg (by omega)]; exact ⟨rfl, rfl⟩
  · rw [if_neg h1, if_pos (by omega)]
    by_cases h2 : 99 < x.toInt
    · rw [if_pos h2, if_neg (by omega)]; exact ⟨rfl, rfl⟩
    · rw [if_neg h2, if_pos (by omega)]
      have : x = nI x.toInt.toNat := by
        apply Int32.toInt_inj.mp
        rw [nI_toInt (by omega)]; omega
      exact ⟨this, this⟩
section SAYS
variable {r T : Nat} {V : qV} {E : qE} {c m : vMH}
theorem reck_ok (hr : isF r) (F : FC r V c) (O : OKV V) (tc : TXC T E c) (hu : V 4 5 < T) {f : Nat} (hf : f < V 4 0) {w : Nat} (hw : w < 3) (L : Int32) : ∃ c', X3_reckon r (nI w) (nI f) L c = some (if w = 0 then E (V 4 5) 0 (nmV V f L) else X5_held (E (V 4 5) w (nmV V f L)) 99, c') ∧ Kp PcS c c' := by
  have h12 := lt_n O hf
  have hT6 := tc.2.1
  have hx := O.x hf
  have hne : ¬ (4 * r + 6 = 27) := by rcases hr with rfl | rfl | rfl | rfl <;> decide
  obtain ⟨e0, e1, e2, b1, b2, b3, b4, b5, b6, b7, b8, b9, b10⟩ := tc.2.2.2 _ hu
  unfold X3_reckon
  have hhas : ¬ X3_has (c.1 r 10) c = 0 := by
    unfold X3_has
    rw [F.u, tc.2.2.1, if_neg (nI_pos (by omega)), if_neg (nI_ge hu (by omega))]; decide
  have hwi : ¬ X5_isWithin (nI w) 0 2 = 0 := by
    rw [wi_z, nI_toInt (by omega)]
    have : ((2 : Int32)).toInt = 2 := rfl
    have : ((0 : Int32)).toInt = 0 := rfl
    omega
  have hix : (c.1 r 10) * 3 + nI w = nI (3 * V 4 5 + w) := by
    rw [F.u, show (3 : Int32) = nI 3 from rfl, pk_mul, nI_add, Nat.mul_comm]
  rw [if_neg hhas, if_neg (has_f F O hf), if_neg hwi, hix, if_pos (by rw [show (18 : Int32) = nI 18 from rfl]; exact nI_lt (by omega) (by decide)), chk_t (inb_nI h12 (by decide))]
  simp only [rd_up, hne, false_and, if_false, F.k h12, F.s h12, F.x hf h12, F.w, F.p, F.u, (tone_tab _ (O.k hf) _ (O.s hf)).1, cell_y hx, cell_x hx, wj1]
  generalize hc2 : (v_up (v_up (v_up (v_up (v_up (v_up c 27 (jn 0) (nI (toneZ (V 0 f) (V 3 f)))) 27 (jn 1) L) 27 (jn 2) (nI (V 4 2))) 27 (jn 3) (nI (V 4 3))) 27 (jn 4) (nI (V 1 f / 8))) 27 (jn 5) (nI (V 1 f % 8))) = c2
  have k2 : Kp PcS c c2 := by
    rw [← hc2]
    exact (((((Kp.rf.up (Or.inl rfl)).up (Or.inl rfl)).up (Or.inl rfl)).up (Or.inl rfl)).up (Or.inl rfl)).up (Or.inl rfl)
  have hcode : c2.1 25 = c.1 25 := funext fun j => k2 25 j (by unfold PcS; omega)
  have hnv : cnv c2 = nmV V f L := by
    funext i
    unfold cnv nmV
    rw [← hc2]
    by_cases hi : i < 6
    · rw [if_pos hi]
      have : i = 0 ∨ i = 1 ∨ i = 2 ∨ i = 3 ∨ i = 4 ∨ i = 5 := by omega
      rcases this with rfl | rfl | rfl | rfl | rfl | rfl <;> simp [rd_up, show jn 0 = 0 from rfl, show jn 1 = 1 from rfl, show jn 2 = 2 from rfl, show jn 3 = 3 from rfl, show jn 4 = 4 from rfl, show jn 5 = 5 from rfl]
    · rw [if_neg hi, if_neg (by omega), if_neg (by omega), if_neg (by omega), if_neg (by omega), if_neg (by omega), if_neg (by omega)]
  have fin : ∀ (a n : Nat) (v : Int32), a + n ≤ 960 → n ≤ 160 → mrun (nmV V f L) (seg (c.1 25) a n) [] = [v] → ∃ c', X3_run (nI a) (nI (a + n)) c2 = some (v, c') ∧ Kp PcS c c' := by
    intro a n v g1 g2 g3
    obtain ⟨c', h1, h2⟩ := run_ok (c := c2) (a := a) (n := n) (v := v) g1 g2 (by rw [hnv, hcode]; exact g3)
    exact ⟨c', h1, k2.tr (h2.mono (fun r k h => Or.inr h))⟩
  have hww : w = 0 ∨ w = 1 ∨ w = 2 := by omega
  rcases hww with rfl | rfl | rfl
  · obtain ⟨c', h1, h2⟩ := fin (160 * V 4 5) (e0 - 160 * V 4 5) _ (by omega) (by omega) (b8 _)
    rw [show 160 * V 4 5 + (e0 - 160 * V 4 5) = e0 by omega] at h1
    refine ⟨c', ?_, h2⟩
    rw [if_pos (show nI 0 = 0 from rfl), chk_t (inb_nI (by omega) (by decide)), jn_nI (by omega), Nat.add_zero, b5, show (160 : Int32) = nI 160 from rfl, pk_mul, Nat.mul_comm, h1, bd_s]
    rfl
  · obtain ⟨c', h1, h2⟩ := fin e0 (e1 - e0) _ (by omega) (by omega) (b9 _)
    rw [show e0 + (e1 - e0) = e1 by omega] at h1
    refine ⟨c', ?_, h2⟩
    rw [if_neg (show ¬ nI 1 = 0 by decide), chk_t (by rw [nI_pred]; exact inb_nI (by omega) (by decide)), chk_t (inb_nI (by omega) (by decide)), nI_pred, jn_nI (by omega), jn_nI (by omega), b5, b6, h1, bd_s]
    rfl
  · obtain ⟨c', h1, h2⟩ := fin e1 (e2 - e1) _ (by omega) (by omega) (b10 _)
    rw [show e1 + (e2 - e1) = e2 by omega] at h1
    refine ⟨c', ?_, h2⟩
    rw [if_neg (show ¬ nI 2 = 0 by decide), show 3 * V 4 5 + 2 = (3 * V 4 5 + 1) + 1 from rfl, chk_t (by rw [nI_pred]; exact inb_nI (by omega) (by decide)), chk_t (inb_nI (by omega) (by decide)), nI_pred, jn_nI (by omega), jn_nI (by omega), b6, show 3 * V 4 5 + 1 + 1 = 3 * V 4 5 + 2 from rfl, b7, h1, bd_s]
    rfl
theorem says_ok (G : FM V m) (O : OKV V) (tm : TXM T E m) (hu : V 4 5 < T) {f : Nat} (hf : f < V 4 0) {w : Nat} (hw : w < 3) (L : Int32) : ∃ m', X6_says (nI w) (nI f) L m = some (E (V 4 5) w (nmV V f L), m') ∧ Kp PmS m m' := by
  have h12 := lt_n O hf
  have hx := O.x hf
  obtain ⟨z, b1, b2, b3⟩ := tm.2 _ hu
  unfold X6_says
  rw [M_tone G O hf, bd_s, chk_t (inb_nI h12 (by decide)), G.x hf h12, G.w, G.p, G.u, cell_y hx, cell_x hx]
  generalize hm2 : (v_up (v_up (v_up (v_up (v_up (v_up m 0 17 (nI (toneZ (V 0 f) (V 3 f)))) 0 18 L) 0 19 (nI (V 4 2))) 0 20 (nI (V 4 3))) 0 21 (nI (V 1 f / 8))) 0 22 (nI (V 1 f % 8))) = m2
  have k2 : Kp PmS m m2 := by
    rw [← hm2]
    exact (((((Kp.rf.up ⟨rfl, by decide⟩).up ⟨rfl, by decide⟩).up ⟨rfl, by decide⟩).up ⟨rfl, by decide⟩).up ⟨rfl, by decide⟩).up ⟨rfl, by decide⟩
  obtain ⟨m', h1, h2⟩ := b3 m2 (fun j _ => k2 _ _ (by unfold PmS; omega)) (by rw [k2 _ _ (by unfold PmS; omega)]; exact b2) w hw
  have hnv : mnv m2 = nmV V f L := by
    funext i
    unfold mnv nmV
    rw [← hm2]
    by_cases hi : i < 6
    · rw [if_pos hi]
      have : i = 0 ∨ i = 1 ∨ i = 2 ∨ i = 3 ∨ i = 4 ∨ i = 5 := by omega
      rcases this with rfl | rfl | rfl | rfl | rfl | rfl <;> simp [rd_up]
    · rw [if_neg hi, if_neg (by omega), if_neg (by omega), if_neg (by omega), if_neg (by omega), if_neg (by omega), if_neg (by omega)]
  rw [hnv] at h1
  exact ⟨m', by rw [h1]; rfl, k2.tr h2⟩
def sayV (V : qV) (E : qE) (w f : Nat) : Int32 := E (V 4 5) w (nmV V f (nI (heardZ V f)))
def hearsB (V : qV) (E : qE) (f : Nat) : Bool := decide (clampZ (sayV V E 1 f) ≤ heardZ V f)
def digsB (V : qV) (E : qE) (f : Nat) : Bool := decide (sayV V E 0 f ≠ 0)
theorem isH_ok (G : FM V m) (O : OKV V) (tm : TXM T E m) (hu : V 4 5 < T) {f : Nat} (hf : f < V 4 0) : ∃ m', X6_isHeard (nI f) m = some (if hearsB V E f = true then 1 else 0, m') ∧ Kp PmS m m' := by
  unfold X6_isHeard
  rw [M_heard G O hf, bd_s]
  obtain ⟨m', h1, h2⟩ := says_ok G O tm hu hf (w := 1) (by decide) (nI (heardZ V f))
  have hh := heard_le O hf
  have hc := clamp_le (E (V 4 5) 1 (nmV V f (nI (heardZ V f))))
  rw [show (1 : Int32) = nI 1 from rfl, h1, bd_s]
  refine ⟨m', ?_, h2⟩
  show (if _ < X6_within (E (V 4 5) 1 (nmV V f (nI (heardZ V f)))) 0 99 then _ else _) = _
  rw [(held_c _).2]
  simp only [nI_lts (show heardZ V f < 2 ^ 31 by omega) (show clampZ (E (V 4 5) 1 (nmV V f (nI (heardZ V f)))) < 2 ^ 31 by omega)]
  unfold hearsB sayV
  by_cases h : heardZ V f < clampZ (E (V 4 5) 1 (nmV V f (nI (heardZ V f))))
  · rw [if_pos h, if_neg (by simp; omega)]
  · rw [if_neg h, if_pos (by simp; omega)]
end SAYS
