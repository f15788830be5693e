/-! PURE PART, a field: V holds its numbers; 0 kinds, 1 cells, 2 depths, 3 sizes, 4: count, taken, wet, plate, year, rule -/
abbrev qV : Type := Nat → Nat → Nat
def qs (V : qV) (a j x : Nat) : qV := fun a' j' => if a' = a ∧ j' = j then x else V a' j'
def OKV (V : qV) : Prop := V 4 0 ≤ 12 ∧ V 4 1 < 2 ^ V 4 0 ∧ V 4 2 ≤ 9 ∧ V 4 3 ≤ 10 ∧ V 4 4 ≤ 99 ∧ (∀ j, j < 12 → V 0 j ≤ 5 ∧ V 3 j ≤ 9) ∧ (∀ j, j < V 4 0 → V 1 j < 48 ∧ V 2 j ≤ 20)
def FC (r : Nat) (V : qV) (c : vMH) : Prop := c.1 r 4 = nI (V 4 0) ∧ c.1 r 5 = nI (V 4 1) ∧ c.1 r 6 = nI (V 4 2) ∧ c.1 r 7 = nI (V 4 3) ∧ c.1 r 8 = nI (V 4 4) ∧ c.1 r 10 = nI (V 4 5) ∧ (∀ j, j < 12 → c.1 (4 * r + 5) j = nI (V 0 j) ∧ c.1 (4 * r + 8) j = nI (V 3 j)) ∧ (∀ j, j < V 4 0 → c.1 (4 * r + 6) j = nI (V 1 j) ∧ c.1 (4 * r + 7) j = nI (V 2 j))
def FM (V : qV) (m : vMH) : Prop := m.1 0 11 = nI (V 4 0) ∧ m.1 0 12 = nI (V 4 1) ∧ m.1 0 13 = nI (V 4 2) ∧ m.1 0 14 = nI (V 4 3) ∧ m.1 0 15 = nI (V 4 4) ∧ m.1 0 4 = nI (V 4 5) ∧ (∀ j, j < 12 → m.1 4 j = nI (V 0 j) ∧ m.1 7 j = nI (V 3 j)) ∧ (∀ j, j < V 4 0 → m.1 5 j = nI (V 1 j) ∧ m.1 6 j = nI (V 2 j))
theorem OKV.n {V : qV} (h : OKV V) : V 4 0 ≤ 12 := h.1
theorem OKV.g {V : qV} (h : OKV V) : V 4 1 < 4096 := Nat.lt_of_lt_of_le h.2.1 (Nat.le_trans (Nat.pow_le_pow_right (by decide) h.1) (by decide))
theorem OKV.k {V : qV} (h : OKV V) {j : Nat} (hj : j < V 4 0) : V 0 j ≤ 5 := (h.2.2.2.2.2.1 j (by have := h.1; omega)).1
theorem OKV.s {V : qV} (h : OKV V) {j : Nat} (hj : j < V 4 0) : V 3 j ≤ 9 := (h.2.2.2.2.2.1 j (by have := h.1; omega)).2
theorem OKV.x {V : qV} (h : OKV V) {j : Nat} (hj : j < V 4 0) : V 1 j < 48 := (h.2.2.2.2.2.2 j hj).1
theorem OKV.d {V : qV} (h : OKV V) {j : Nat} (hj : j < V 4 0) : V 2 j ≤ 20 := (h.2.2.2.2.2.2 j hj).2
section FIELD
variable {r : Nat} {V : qV} {c m : vMH}
theorem FC.n (h : FC r V c) : c.1 r 4 = nI (V 4 0) := h.1
theorem FC.g (h : FC r V c) : c.1 r 5 = nI (V 4 1) := h.2.1
theorem FC.w (h : FC r V c) : c.1 r 6 = nI (V 4 2) := h.2.2.1
theorem FC.p (h : FC r V c) : c.1 r 7 = nI (V 4 3) := h.2.2.2.1
theorem FC.y (h : FC r V c) : c.1 r 8 = nI (V 4 4) := h.2.2.2.2.1
theorem FC.u (h : FC r V c) : c.1 r 10 = nI (V 4 5) := h.2.2.2.2.2.1
theorem FC.k (h : FC r V c) {j : Nat} (hj : j < 12) : c.1 (4 * r + 5) (jn (nI j)) = nI (V 0 j) := by rw [jn_nI (by omega)]; exact (h.2.2.2.2.2.2.1 j hj).1
theorem FC.s (h : FC r V c) {j : Nat} (hj : j < 12) : c.1 (4 * r + 8) (jn (nI j)) = nI (V 3 j) := by rw [jn_nI (by omega)]; exact (h.2.2.2.2.2.2.1 j hj).2
theorem FC.x (h : FC r V c) {j : Nat} (hj : j < V 4 0) (h2 : j < 12) : c.1 (4 * r + 6) (jn (nI j)) = nI (V 1 j) := by rw [jn_nI (by omega)]; exact (h.2.2.2.2.2.2.2 j hj).1
theorem FC.d (h : FC r V c) {j : Nat} (hj : j < V 4 0) (h2 : j < 12) : c.1 (4 * r + 7) (jn (nI j)) = nI (V 2 j) := by rw [jn_nI (by omega)]; exact (h.2.2.2.2.2.2.2 j hj).2
theorem FM.n (h : FM V m) : m.1 0 11 = nI (V 4 0) := h.1
theorem FM.g (h : FM V m) : m.1 0 12 = nI (V 4 1) := h.2.1
theorem FM.w (h : FM V m) : m.1 0 13 = nI (V 4 2) := h.2.2.1
theorem FM.p (h : FM V m) : m.1 0 14 = nI (V 4 3) := h.2.2.2.1
theorem FM.y (h : FM V m) : m.1 0 15 = nI (V 4 4) := h.2.2.2.2.1
theorem FM.u (h : FM V m) : m.1 0 4 = nI (V 4 5) := h.2.2.2.2.2.1
theorem FM.k (h : FM V m) {j : Nat} (hj : j < 12) : m.1 4 (jn (nI j)) = nI (V 0 j) := by rw [jn_nI (by omega)]; exact (h.2.2.2.2.2.2.1 j hj).1
theorem FM.s (h : FM V m) {j : Nat} (hj : j < 12) : m.1 7 (jn (nI j)) = nI (V 3 j) := by rw [jn_nI (by omega)]; exact (h.2.2.2.2.2.2.1 j hj).2
theorem FM.x (h : FM V m) {j : Nat} (hj : j < V 4 0) (h2 : j < 12) : m.1 5 (jn (nI j)) = nI (V 1 j) := by rw [jn_nI (by omega)]; exact (h.2.2.2.2.2.2.2 j hj).1
theorem FM.d (h : FM V m) {j : Nat} (hj : j < V 4 0) (h2 : j < 12) : m.1 6 (jn (nI j)) = nI (V 2 j) := by rw [jn_nI (by omega)]; exact (h.2.2.2.2.2.2.2 j hj).2
theorem FC.kp {P : Nat → Nat → Prop} {c' : vMH} (h : FC r V c) (k : Kp P c c') (h1 : ∀ k, 4 ≤ k → k ≤ 10 → k ≠ 9 → ¬ P r k) (h2 : ∀ q k, 4 * r + 5 ≤ q → q ≤ 4 * r + 8 → ¬ P q k) : FC r V c' := by
  obtain ⟨a1, a2, a3, a4, a5, a6, a7, a8⟩ := h
  refine ⟨?_, ?_, ?_, ?_, ?_, ?_, fun j hj => ⟨?_, ?_⟩, fun j hj => ⟨?_, ?_⟩⟩
  · rw [k _ _ (h1 4 (by omega) (by omega) (by omega))]; exact a1
  · rw [k _ _ (h1 5 (by omega) (by omega) (by omega))]; exact a2
  · rw [k _ _ (h1 6 (by omega) (by omega) (by omega))]; exact a3
  · rw [k _ _ (h1 7 (by omega) (by omega) (by omega))]; exact a4
  · rw [k _ _ (h1 8 (by omega) (by omega) (by omega))]; exact a5
  · rw [k _ _ (h1 10 (by omega) (by omega) (by omega))]; exact a6
  · rw [k _ _ (h2 _ _ (by omega) (by omega))]; exact (a7 j hj).1
  · rw [k _ _ (h2 _ _ (by omega) (by omega))]; exact (a7 j hj).2
  · rw [k _ _ (h2 _ _ (by omega) (by omega))]; exact (a8 j hj).1
  · rw [k _ _ (h2 _ _ (by omega) (by omega))]; exact (a8 j hj).2
theorem FM.kp {P : Nat → Nat → Prop} {m' : vMH} (h : FM V m) (k : Kp P m m') (h1 : ∀ k, k = 4 ∨ (11 ≤ k ∧ k ≤ 15) → ¬ P 0 k) (h2 : ∀ q k, 4 ≤ q → q ≤ 7 → k < 12 → ¬ P q k) (hn : V 4 0 ≤ 12) : FM V m' := by
  obtain ⟨a1, a2, a3, a4, a5, a6, a7, a8⟩ := h
  refine ⟨?_, ?_, ?_, ?_, ?_, ?_, fun j hj => ⟨?_, ?_⟩, fun j hj => ⟨?_, ?_⟩⟩
  · rw [k _ _ (h1 11 (by omega))]; exact a1
  · rw [k _ _ (h1 12 (by omega))]; exact a2
  · rw [k _ _ (h1 13 (by omega))]; exact a3
  · rw [k _ _ (h1 14 (by omega))]; exact a4
  · rw [k _ _ (h1 15 (by omega))]; exact a5
  · rw [k _ _ (h1 4 (by omega))]; exact a6
  · rw [k _ _ (h2 _ _ (by omega) (by omega) hj)]; exact (a7 j hj).1
  · rw [k _ _ (h2 _ _ (by omega) (by omega) hj)]; exact (a7 j hj).2
  · rw [k _ _ (h2 _ _ (by omega) (by omega) (by omega))]; exact (a8 j hj).1
  · rw [k _ _ (h2 _ _ (by omega) (by omega) (by omega))]; exact (a8 j hj).2
-- ===== had, lies =====
theorem has_z (F : FC r V c) (O : OKV V) (v : Int32) : (X0_has r v c = 0) = ¬ (0 ≤ v.toInt ∧ v.toInt < V 4 0) := by
  unfold X0_has
  have := O.n
  simp only [F.n, Int32.lt_iff_toInt_lt, Int32.le_iff_toInt_le, show (0 : Int32).toInt = 0 from rfl, nI_toInt (show V 4 0 < 2 ^ 31 by omega)]
  by_cases h1 : v.toInt < 0
  · rw [if_pos h1]; simp; omega
  · rw [if_neg h1]
    by_cases h2 : (V 4 0 : Int) ≤ v.toInt
    · rw [if_pos h2]; simp; omega
    · rw [if_neg h2]; simp; omega
theorem isf_z (F : FM V m) (O : OKV V) (v : Int32) : (X6_isFind v m = 0) = ¬ (0 ≤ v.toInt ∧ v.toInt < V 4 0) := by
  unfold X6_isFind
  have := O.n
  rw [in_z, F.n, il, il, show (0 : Int64).toInt = 0 from rfl]
  have h1 : (nI (V 4 0) - 1).toInt = (V 4 0 : Int) - 1 := by
    rw [qi_sub] <;> rw [nI_toInt (by omega), show (1 : Int32).toInt = 1 from rfl] <;> omega
  rw [h1]
  apply propext
  constructor <;> intro h <;> omega
theorem has_f (F : FC r V c) (O : OKV V) {f : Nat} (hf : f < V 4 0) : ¬ X0_has r (nI f) c = 0 := by
  have := O.n
  rw [has_z F O, nI_toInt (by omega)]; omega
theorem lies_z (F : FC r V c) (O : OKV V) {f : Nat} (hf : f < V 4 0) : (X0_lies r (nI f) c = 0) = ((V 4 1).testBit f = true) := by
  have hn := O.n
  unfold X0_lies
  rw [if_neg (has_f F O hf), F.g]
  simp only [bit0 O.g (show f < 12 by omega)]
  cases h : (V 4 1).testBit f <;> simp
theorem lies_no (F : FC r V c) (O : OKV V) {v : Int32} (h : v < 0) : X0_lies r v c = 0 := by
  unfold X0_lies
  rw [if_pos]
  rw [has_z F O]
  rw [Int32.lt_iff_toInt_lt] at h
  have : (0 : Int32).toInt = 0 := rfl
  omega
theorem liesM_z (F : FM V m) (O : OKV V) {f : Nat} (hf : f < V 4 0) : (X6_lies (nI f) m = 0) = ((V 4 1).testBit f = true) := by
  have hn := O.n
  unfold X6_lies
  rw [F.g]
  simp only [bit0 O.g (show f < 12 by omega)]
  cases h : (V 4 1).testBit f <;> simp
theorem lt_n (O : OKV V) {i : Nat} (hi : i < V 4 0) : i < 12 := Nat.lt_of_lt_of_le hi O.n
theorem n_le (O : OKV V) {i : Nat} (hi : i ≤ V 4 0) : (nI (V 4 0) ≤ nI i) = (V 4 0 ≤ i) := nI_les (by have := O.n; omega) (by have := O.n; omega)
-- ===== tone, loud, drags =====
def toneZ (k s : Nat) : Nat := if k = 1 then s + 60 else if k = 2 then (10 + s) / 2 else if k = 3 then 60 else if k = 4 then s + 40 else if k = 5 then (if s ≤ 4 then s + 60 else s + 69) else 10 + s
def dragZ (k s d : Nat) : Nat := if k = 2 then 0 else if k = 3 then 2 else if k = 4 then (if 5 ≤ s then 0 else 1) else if k = 5 then (if 10 ≤ d then 0 else 1) else 1
def plainZ (s d p w : Nat) : Int := 10 * s + 5 * p + 2 * w - 6 * d
def loudZ (k s d p w : Nat) : Int := if k = 1 then plainZ s d p w + 8 else if k = 2 then plainZ s d p w - 5 * w else if k = 3 then (plainZ s d p w + 8).tdiv 2 else if k = 5 then 2 * (plainZ s d p w + 8) else plainZ s d p w
def mtone (k s : Int32) : Option Int32 := (if k = 2 then (some ((10 + s) / 2)) else (if k = 4 then (some ((10 + s) + 30)) else (if k = 3 then (some (((10 + s) + 50) - s)) else (if k = 0 then (some (10 + s)) else (wj0 (some (((10 + s) + 50) + 0)) fun J6 => (if k = 5 then (if s ≤ 4 then J6 else (some (((10 + s) + 50) + 9))) else J6))))))
theorem mtone_d (v : Int32) (m : vMH) : X6_tone v m = chk (inb v 12) (mtone (m.1 4 (jn v)) (m.1 7 (jn v))) := rfl
theorem tone_tab : ∀ k, k ≤ 5 → ∀ s, s ≤ 9 → X5_toneOf (nI k) (nI s) = nI (toneZ k s) ∧ mtone (nI k) (nI s) = some (nI (toneZ k s)) := by decide +kernel
theorem drag_tab : ∀ k, k ≤ 5 → ∀ s, s ≤ 9 → ∀ d, d ≤ 20 → X5_dragsOf (nI k) (nI s) (nI d) = nI (dragZ k s d) ∧ X6_dragsAt (nI k) (nI s) (nI d) = nI (dragZ k s d) ∧ dragZ k s d ≤ 2 := by decide +kernel
def mloud (k s d p w : Int32) : Option Int32 := (wj1 (fun (v3_2 : Int32) => (wj1 (fun (v3_4 : Int32) => (wj1 (fun (v3_6 : Int32) => (wj1 (fun (v3_8 : Int32) => (if 0 ≤ v3_8 then (some v3_8) else (some 0))) fun J9 => (if k = 5 then (J9 (2 * (v3_6 + 8))) else (J9 v3_6)))) fun J7 => (if k = 3 then (J7 ((v3_4 + 8) / 2)) else (J7 v3_4)))) fun J5 => (if k = 1 then (J5 (v3_2 + 8)) else (J5 v3_2)))) fun J3 => (if k = 2 then (J3 (((((10 * s) + (5 * p)) + (2 * w)) - (6 * d)) - (5 * w))) else (J3 ((((10 * s) + (5 * p)) + (2 * w)) - (6 * d)))))
theorem mloud_d (v : Int32) (m : vMH) : X6_loud v m = chk (inb v 12) (mloud (m.1 4 (jn v)) (m.1 7 (jn v)) (m.1 6 (jn v)) (m.1 0 14) (m.1 0 13)) := rfl
theorem plain_z (s d p w : Nat) : (((10 * nI s) + (5 * nI p)) + (2 * nI w)) - (6 * nI d) = zI (plainZ s d p w) := by
  simp only [zI_n, show (10 : Int32) = zI 10 from rfl, show (5 : Int32) = zI 5 from rfl, show (2 : Int32) = zI 2 from rfl, show (6 : Int32) = zI 6 from rfl, zI_mul, zI_add, zI_sub]
  rfl
theorem plain_bd {s d p w : Nat} (hs : s ≤ 9) (hd : d ≤ 20) (hp : p ≤ 10) (hw : w ≤ 9) : -120 ≤ plainZ s d p w ∧ plainZ s d p w ≤ 158 := by
  unfold plainZ; omega
theorem loud_bd {k s d p w : Nat} (hs : s ≤ 9) (hd : d ≤ 20) (hp : p ≤ 10) (hw : w ≤ 9) : -240 ≤ loudZ k s d p w ∧ loudZ k s d p w ≤ 332 := by
  have := plain_bd hs hd hp hw
  unfold loudZ
  have h2 : (plainZ s d p w + 8).tdiv 2 ≤ 166 ∧ -240 ≤ (plainZ s d p w + 8).tdiv 2 := by
    by_cases h : 0 ≤ plainZ s d p w + 8
    · rw [Int.tdiv_eq_ediv_of_nonneg h]; omega
    · rw [show plainZ s d p w + 8 = -(-(plainZ s d p w + 8)) by omega, Int.neg_tdiv, Int.tdiv_eq_ediv_of_nonneg (by omega)]; omega
  repeat' split
  all_goals omega
theorem loudOf_z {k s d p w : Nat} (hk : k ≤ 5) (hs : s ≤ 9) (hd : d ≤ 20) (hp : p ≤ 10) (hw : w ≤ 9) : X5_loudOf (nI k) (nI s) (nI d) (nI p) (nI w) = zI (loudZ k s d p w) := by
  have hb := plain_bd hs hd hp hw
  unfold X5_loudOf
  rw [plain_z, show (8 : Int32) = zI 8 from rfl, zI_add, zI_half (by omega) (by omega), show (1 : Int32) = nI 1 from rfl, show (3 : Int32) = nI 3 from rfl, show (2 : Int32) = nI 2 from rfl, show (5 : Int32) = nI 5 from rfl]
  simp only [nI_eqs (show k < 2 ^ 31 by omega) (show 1 < 2 ^ 31 by decide), nI_eqs (show k < 2 ^ 31 by omega) (show 2 < 2 ^ 31 by decide), nI_eqs (show k < 2 ^ 31 by omega) (show 3 < 2 ^ 31 by decide), nI_eqs (show k < 2 ^ 31 by omega) (show 5 < 2 ^ 31 by decide)]
  unfold loudZ
  simp only [zI_n, zI_mul, zI_sub]
  repeat' split
  all_goals rfl
theorem mx0 {a : Int} (h1 : -2147483648 ≤ a) (h2 : a < 2147483648) : jmax 0 (zI a) = nI a.toNat ∧ (if 0 ≤ zI a then (some (zI a)) else (some 0)) = some (nI a.toNat) := by
  unfold jmax
  rw [show (0 : Int32) = zI 0 from rfl]
  simp only [zI_lt (show -2147483648 ≤ (0 : Int) by decide) (show (0 : Int) < 2147483648 by decide) h1 h2, zI_le (show -2147483648 ≤ (0 : Int) by decide) (show (0 : Int) < 2147483648 by decide) h1 h2]
  by_cases h : 0 ≤ a
  · rw [if_pos h, zI_nn h]
    refine ⟨?_, rfl⟩
    split
    · rfl
    · have : a = 0 := by omega
      subst this; rfl
  · rw [if_neg h, if_neg (by omega), show a.toNat = 0 by omega]
    exact ⟨rfl, rfl⟩
theorem mloud_z {k s d p w : Nat} (hk : k ≤ 5) (hs : s ≤ 9) (hd : d ≤ 20) (hp : p ≤ 10) (hw : w ≤ 9) : mloud (nI k) (nI s) (nI d) (nI p) (nI w) = some (nI (loudZ k s d p w).toNat) := by
  have hb := plain_bd hs hd hp hw
  have hl := loud_bd (k := k) hs hd hp hw
  rw [← (mx0 (a := loudZ k s d p w) (by omega) (by omega)).2]
  unfold mloud
  rw [plain_z, show (8 : Int32) = zI 8 from rfl, show (1 : Int32) = nI 1 from rfl, show (3 : Int32) = nI 3 from rfl]
  simp only [wj1]
  have e : ∀ j : Nat, j < 2 ^ 31 → ∀ x : Int32, x = nI j → (nI k = x) = (k = j) := fun j hj x hx => by rw [hx]; exact nI_eqs (by omega) hj
  simp only [e 2 (by decide) 2 rfl, e 5 (by decide) 5 rfl, e 1 (by decide) (nI 1) rfl, e 3 (by decide) (nI 3) rfl]
  have hk' : k = 0 ∨ k = 1 ∨ k = 2 ∨ k = 3 ∨ k = 4 ∨ k = 5 := by omega
  rcases hk' with rfl | rfl | rfl | rfl | rfl | rfl
  · rfl
  · simp only [Nat.reduceEqDiff, if_true, if_false, zI_add]; rfl
  · simp only [Nat.reduceEqDiff, if_true, if_false]
    have : zI (plainZ s d p w) - 5 * nI w = zI (loudZ 2 s d p w) := by
      rw [zI_n, show (5 : Int32) = zI 5 from rfl, zI_mul, zI_sub]; rfl
    rw [this]
  · simp only [Nat.reduceEqDiff, if_true, if_false, zI_add]
    rw [zI_half (by omega) (by omega)]; rfl
  · rfl
  · simp only [Nat.reduceEqDiff, if_true, if_false, zI_add]
    rw [show (2 : Int32) = zI 2 from rfl, zI_mul]; rfl
theorem C_loud (F : FC r V c) (O : OKV V) {f : Nat} (hf : f < V 4 0) : X0_loud r (nI f) c = some (nI (loudZ (V 0 f) (V 3 f) (V 2 f) (V 4 3) (V 4 2)).toNat) := by
  have h12 := lt_n O hf
  have hl := loud_bd (k := V 0 f) (O.s hf) (O.d hf) O.2.2.2.1 O.2.2.1
  unfold X0_loud
  rw [if_neg (has_f F O hf), chk_t (inb_nI h12 (by decide)), F.k h12, F.s h12, F.d hf h12, F.p, F.w, loudOf_z (O.k hf) (O.s hf) (O.d hf) O.2.2.2.1 O.2.2.1, (mx0 (by omega) (by omega)).1]
theorem M_loud (F : FM V m) (O : OKV V) {f : Nat} (hf : f < V 4 0) : X6_loud (nI f) m = some (nI (loudZ (V 0 f) (V 3 f) (V 2 f) (V 4 3) (V 4 2)).toNat) := by
  have h12 := lt_n O hf
  rw [mloud_d, chk_t (inb_nI h12 (by decide)), F.k h12, F.s h12, F.d hf h12, F.p, F.w, mloud_z (O.k hf) (O.s hf) (O.d hf) O.2.2.2.1 O.2.2.1]
theorem M_tone (F : FM V m) (O : OKV V) {f : Nat} (hf : f < V 4 0) : X6_tone (nI f) m = some (nI (toneZ (V 0 f) (V 3 f))) := by
  have h12 := lt_n O hf
  rw [mtone_d, chk_t (inb_nI h12 (by decide)), F.k h12, F.s h12, (tone_tab _ (O.k hf) _ (O.s hf)).2]
-- ===== heard =====
def ironP (V : qV) (f i : Nat) : Bool := decide (i ≠ f) && decide (V 0 i = 2) && decide (V 1 i = V 1 f) && !(V 4 1).testBit i
def heardZ (V : qV) (f : Nat) : Nat := (loudZ (V 0 f) (V 3 f) (V 2 f) (V 4 3) (V 4 2) - 10 * (cnt (ironP V f) (V 4 0) : Nat)).toNat
theorem heard_le (O : OKV V) {f : Nat} (hf : f < V 4 0) : heardZ V f ≤ 332 := by
  have hl := loud_bd (k := V 0 f) (O.s hf) (O.d hf) O.2.2.2.1 O.2.2.1
  unfold heardZ; omega
theorem C_heard_loop (F : FC r V c) (O : OKV V) {f : Nat} (hf : f < V 4 0) (J : Int32 → Option Int32) (A : Int) : ∀ k i : Nat, i + k = V 4 0 → ∀ N : Nat, k < N → lq2 N (X0_heard_L42 r (nI f) c J) (zI (A - 10 * (cnt (ironP V f) i : Nat))) (nI i) = J (zI (A - 10 * (cnt (ironP V f) (V 4 0) : Nat))) := by
  intro k
  induction k with
  | zero =>
    intro i hi N hN
    obtain ⟨N, rfl⟩ : ∃ M, N = M + 1 := ⟨N - 1, by omega⟩
    rw [lq2_s]; rw [X0_heard_L42]
    rw [F.n, if_pos (nI_le (by omega) (by have := O.n; omega)), show i = V 4 0 by omega]
  | succ k ih =>
    intro i hi N hN
    obtain ⟨N, rfl⟩ : ∃ M, N = M + 1 := ⟨N - 1, by omega⟩
    have hi' : i < V 4 0 := by omega
    have h12 := lt_n O hi'
    have hf12 := lt_n O hf
    have hx := O.x hi'
    have hxf := O.x hf
    have hk := O.k hi'
    have IH := ih (i + 1) (by omega) N (by omega)
    rw [lq2_s]; rw [X0_heard_L42]
    rw [F.n, chk_t (inb_nI h12 (by decide)), F.k h12, F.x hi' h12, F.x hf hf12, if_neg (nI_ge hi' (by have := O.n; omega)), nI_1]
    simp only [lies_z F O hi', show (2 : Int32) = nI 2 from rfl, nI_eqs (show V 0 i < 2 ^ 31 by omega) (show 2 < 2 ^ 31 by decide), nI_eqs (show V 1 i < 2 ^ 31 by omega) (show V 1 f < 2 ^ 31 by omega), nI_eqs (show i < 2 ^ 31 by omega) (show f < 2 ^ 31 by omega)]
    rw [show zI (A - 10 * (cnt (ironP V f) i : Nat)) + (-10) = zI (A - 10 * (cnt (ironP V f) i : Nat) - 10) by rw [show (-10 : Int32) = zI (-10) from rfl, zI_add]; rfl]
    have hstep : cnt (ironP V f) (i + 1) = cnt (ironP V f) i + (if ironP V f i then 1 else 0) := rfl
    by_cases c1 : i = f
    · rw [if_pos c1]
      rw [show ironP V f i = false by simp [ironP, c1]] at hstep
      rw [hstep] at IH; exact IH
    · rw [if_neg c1]
      by_cases c2 : V 0 i = 2
      · rw [if_pos c2]
        by_cases c3 : V 1 i = V 1 f
        · rw [if_pos c3]
          by_cases c4 : (V 4 1).testBit i = true
          · rw [if_pos c4]
            rw [show ironP V f i = false by simp [ironP, c4]] at hstep
            rw [hstep] at IH; exact IH
          · rw [if_neg c4]
            rw [show ironP V f i = true by simp [ironP, c1, c2, c3]; simpa using c4] at hstep
            rw [hstep] at IH
            rw [show A - 10 * (cnt (ironP V f) i : Nat) - 10 = A - 10 * ((cnt (ironP V f) i + (if true = true then 1 else 0) : Nat)) by simp; omega]
            exact IH
        · rw [if_neg c3]
          rw [show ironP V f i = false by simp [ironP, c3]] at hstep
          rw [hstep] at IH; exact IH
      · rw [if_neg c2]
        rw [show ironP V f i = false by simp [ironP, c2]] at hstep
        rw [hstep] at IH; exact IH
theorem C_heard (F : FC r V c) (O : OKV V) {f : Nat} (hf : f < V 4 0) (hl : (V 4 1).testBit f = false) : X0_heard r (nI f) c = some (nI (heardZ V f)) := by
  have h12 := lt_n O hf
  have hb := loud_bd (k := V 0 f) (O.s hf) (O.d hf) O.2.2.2.1 O.2.2.1
  have hn := O.n
  unfold X0_heard
  rw [if_neg (by rw [lies_z F O hf, hl]; decide), chk_t (inb_nI h12 (by decide)), F.k h12, F.s h12, F.d hf h12, F.p, F.w, loudOf_z (O.k hf) (O.s hf) (O.d hf) O.2.2.2.1 O.2.2.1]
  simp only [wj1]
  have := C_heard_loop F O hf (fun v => some (jmax 0 v)) (loudZ (V 0 f) (V 3 f) (V 2 f) (V 4 3) (V 4 2)) (V 4 0) 0 (by omega) 4096 (by omega)
  rw [show cnt (ironP V f) 0 = 0 from rfl] at this
  rw [show (nI 0 : Int32) = 0 from rfl, show loudZ (V 0 f) (V 3 f) (V 2 f) (V 4 3) (V 4 2) - 10 * ((0 : Nat) : Int) = loudZ (V 0 f) (V 3 f) (V 2 f) (V 4 3) (V 4 2) by simp] at this
  rw [this]
  have hc := cnt_le (ironP V f) (V 4 0)
  rw [(mx0 (by omega) (by omega)).1]
  rfl
theorem M_heard_loop (F : FM V m) (O : OKV V) {f : Nat} (hf : f < V 4 0) (J : Int32 → Option Int32) (A : Int) : ∀ k i : Nat, i + k = V 4 0 → ∀ N : Nat, k < N → lq2 N (X6_heard_L8 (nI f) m J) (zI (A - 10 * (cnt (ironP V f) i : Nat))) (nI i) = J (zI (A - 10 * (cnt (ironP V f) (V 4 0) : Nat))) := by
  intro k
  induction k with
  | zero =>
    intro i hi N hN
    obtain ⟨N, rfl⟩ : ∃ M, N = M + 1 := ⟨N - 1, by omega⟩
    rw [lq2_s]; rw [X6_heard_L8]
    rw [F.n, if_pos (nI_le (by omega) (by have := O.n; omega)), show i = V 4 0 by omega]
  | succ k ih =>
    intro i hi N hN
    obtain ⟨N, rfl⟩ : ∃ M, N = M + 1 := ⟨N - 1, by omega⟩
    have hi' : i < V 4 0 := by omega
    have h12 := lt_n O hi'
    have hf12 := lt_n O hf
    have hx := O.x hi'
    have hxf := O.x hf
    have hk := O.k hi'
    have IH := ih (i + 1) (by omega) N (by omega)
    rw [lq2_s]; rw [X6_heard_L8]
    rw [F.n, chk_t (inb_nI h12 (by decide)), chk_t (inb_nI hf12 (by decide)), F.k h12, F.x hi' h12, F.x hf hf12, if_neg (nI_ge hi' (by have := O.n; omega)), nI_1]
    simp only [liesM_z F O hi', show (2 : Int32) = nI 2 from rfl, nI_eqs (show V 0 i < 2 ^ 31 by omega) (show 2 < 2 ^ 31 by decide), nI_eqs (show V 1 i < 2 ^ 31 by omega) (show V 1 f < 2 ^ 31 by omega), nI_eqs (show i < 2 ^ 31 by omega) (show f < 2 ^ 31 by omega)]
    rw [show zI (A - 10 * (cnt (ironP V f) i : Nat)) + (-10) = zI (A - 10 * (cnt (ironP V f) i : Nat) - 10) by rw [show (-10 : Int32) = zI (-10) from rfl, zI_add]; rfl]
    have hstep : cnt (ironP V f) (i + 1) = cnt (ironP V f) i + (if ironP V f i then 1 else 0) := rfl
    by_cases c1 : i = f
    · rw [if_pos c1]
      rw [show ironP V f i = false by simp [ironP, c1]] at hstep
      rw [hstep] at IH; exact IH
    · rw [if_neg c1]
      by_cases c2 : V 0 i = 2
      · rw [if_pos c2]
        by_cases c4 : (V 4 1).testBit i = true
        · rw [if_pos c4]
          rw [show ironP V f i = false by simp [ironP, c4]] at hstep
          rw [hstep] at IH; exact IH
        · rw [if_neg c4]
          by_cases c3 : V 1 i = V 1 f
          · rw [if_pos c3]
            rw [show ironP V f i = true by simp [ironP, c1, c2, c3]; simpa using c4] at hstep
            rw [hstep] at IH
            rw [show A - 10 * (cnt (ironP V f) i : Nat) - 10 = A - 10 * ((cnt (ironP V f) i + (if true = true then 1 else 0) : Nat)) by simp; omega]
            exact IH
          · rw [if_neg c3]
            rw [show ironP V f i = false by simp [ironP, c3]] at hstep
            rw [hstep] at IH; exact IH
      · rw [if_neg c2]
        rw [show ironP V f i = false by simp [ironP, c2]] at hstep
        rw [hstep] at IH; exact IH
theorem M_heard (F : FM V m) (O : OKV V) {f : Nat} (hf : f < V 4 0) : X6_heard (nI f) m = some (nI (heardZ V f)) := by
  have h12 := lt_n O hf
  have hb := loud_bd (k := V 0 f) (O.s hf) (O.d hf) O.2.2.2.1 O.2.2.1
  have hn := O.n
  have hc := cnt_le (ironP V f) (V 4 0)
  unfold X6_heard
  rw [M_loud F O hf, bd_s]
  simp only [wj1]
  have := M_heard_loop F O hf (fun v => if 0 ≤ v then some v else some 0) ((loudZ (V 0 f) (V 3 f) (V 2 f) (V 4 3) (V 4 2)).toNat : Int) (V 4 0) 0 (by omega) 4096 (by omega)
  rw [show cnt (ironP V f) 0 = 0 from rfl] at this
  rw [show (nI 0 : Int32) = 0 from rfl, show ((loudZ (V 0 f) (V 3 f) (V 2 f) (V 4 3) (V 4 2)).toNat : Int) - 10 * ((0 : Nat) : Int) = ((loudZ (V 0 f) (V 3 f) (V 2 f) (V 4 3) (V 4 2)).toNat : Int) by simp] at this
  rw [← zI_n] at this
  rw [this]
  show (if 0 ≤ zI _ then _ else _) = _
  rw [(mx0 (by omega) (by omega)).2]
  congr 2
  unfold heardZ
  omega
end FIELD
