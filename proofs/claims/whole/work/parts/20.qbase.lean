/-! PURE PART, base: numbers, pictures, loops -/
def zI (z : Int) : Int32 := Int32.ofInt z
theorem zI_n (k : Nat) : nI k = zI k := (Int32.ofInt_eq_ofNat).symm
theorem zI_toInt {a : Int} (h1 : -2147483648 ≤ a) (h2 : a < 2147483648) : (zI a).toInt = a := Int32.toInt_ofInt_of_le h1 h2
theorem zI_add (a b : Int) : zI a + zI b = zI (a + b) := (Int32.ofInt_add a b).symm
theorem zI_sub (a b : Int) : zI a - zI b = zI (a - b) := (Int32.ofInt_sub a b).symm
theorem zI_mul (a b : Int) : zI a * zI b = zI (a * b) := (Int32.ofInt_mul a b).symm
theorem zI_neg (a : Int) : -zI a = zI (-a) := (Int32.ofInt_neg a).symm
theorem zI_le {a b : Int} (h1 : -2147483648 ≤ a) (h2 : a < 2147483648) (h3 : -2147483648 ≤ b) (h4 : b < 2147483648) : zI a ≤ zI b ↔ a ≤ b := by
  rw [Int32.le_iff_toInt_le, zI_toInt h1 h2, zI_toInt h3 h4]
theorem zI_lt {a b : Int} (h1 : -2147483648 ≤ a) (h2 : a < 2147483648) (h3 : -2147483648 ≤ b) (h4 : b < 2147483648) : zI a < zI b ↔ a < b := by
  rw [Int32.lt_iff_toInt_lt, zI_toInt h1 h2, zI_toInt h3 h4]
theorem zI_eq {a b : Int} (h1 : -2147483648 ≤ a) (h2 : a < 2147483648) (h3 : -2147483648 ≤ b) (h4 : b < 2147483648) : zI a = zI b ↔ a = b := by
  rw [← Int32.toInt_inj, zI_toInt h1 h2, zI_toInt h3 h4]
theorem qi_bm {n : Int} (h1 : -2147483648 ≤ n) (h2 : n < 2147483648) : n.bmod (2 ^ 32) = n := by
  rw [Int.bmod_def]; omega
theorem qi_add {x y : Int32} (h1 : -2147483648 ≤ x.toInt + y.toInt) (h2 : x.toInt + y.toInt < 2147483648) : (x + y).toInt = x.toInt + y.toInt := by rw [Int32.toInt_add, qi_bm h1 h2]
theorem qi_sub {x y : Int32} (h1 : -2147483648 ≤ x.toInt - y.toInt) (h2 : x.toInt - y.toInt < 2147483648) : (x - y).toInt = x.toInt - y.toInt := by rw [Int32.toInt_sub, qi_bm h1 h2]
theorem zI_half {a : Int} (h1 : -2147483648 ≤ a) (h2 : a < 2147483648) : zI a / 2 = zI (a.tdiv 2) := by
  apply Int32.toInt_inj.mp
  rw [Int32.toInt_div_of_ne_right _ _ (by decide), zI_toInt h1 h2, show (2 : Int32).toInt = 2 from rfl]
  have h3 : -2147483648 ≤ a.tdiv 2 ∧ a.tdiv 2 < 2147483648 := by
    by_cases h : 0 ≤ a
    · rw [Int.tdiv_eq_ediv_of_nonneg h]; omega
    · rw [show a = -(-a) by omega, Int.neg_tdiv, Int.tdiv_eq_ediv_of_nonneg (by omega)]; omega
  rw [zI_toInt h3.1 h3.2]
theorem zI_nn {a : Int} (h : 0 ≤ a) : zI a = nI a.toNat := by
  rw [zI_n]; congr 1; omega
theorem jn_nI {k : Nat} (h : k < 2 ^ 31) : jn (nI k) = k := nI_clamp h
theorem inb_nI {k N : Nat} (h : k < N) (hN : N < 2 ^ 31) : inb (nI k) N := nI_in h hN
theorem chk_t {ρ : Type} {c : Prop} {i : Decidable c} {k : Option ρ} (h : c) : chk c k = k := if_pos h
theorem nI_lts {a b : Nat} (ha : a < 2 ^ 31) (hb : b < 2 ^ 31) : (nI a < nI b) = (a < b) := propext (nI_ltI ha hb)
theorem nI_les {a b : Nat} (ha : a < 2 ^ 31) (hb : b < 2 ^ 31) : (nI a ≤ nI b) = (a ≤ b) := propext (nI_leI ha hb)
theorem nI_eqs {a b : Nat} (ha : a < 2 ^ 31) (hb : b < 2 ^ 31) : (nI a = nI b) = (a = b) := propext (nI_eq ha hb)
theorem nI_neg0 {a : Nat} (ha : a < 2 ^ 31) : (nI a < 0) = False := eq_false (nI_pos ha)
-- ===== pictures =====
theorem rd_up (mh : vMH) (a k : Nat) (x : Int32) (r j : Nat) : (v_up mh a k x).1 r j = if r = a ∧ j = k then x else mh.1 r j := by
  simp only [v_up, v_row]
  by_cases h : r = a
  · subst h; simp [upd]
  · simp [h]
theorem rd_cpq (mh : vMH) (a b sp dp n : Nat) (r j : Nat) : (v_cp mh a b sp dp n).1 r j = if r = b ∧ dp ≤ j ∧ j < dp + n then mh.1 a (sp + (j - dp)) else mh.1 r j := by
  simp only [v_cp, v_row]
  by_cases h : r = b
  · subst h; simp [va_cpy]
  · simp [h]
theorem rd_up_l (mh : vMH) (a k : Nat) (x : Int32) : (v_up mh a k x).2 = mh.2 := rfl
theorem rd_ul_l (mh : vMH) (x : Int64) : (v_ul mh x).2 = x := rfl
/-- all but P is kept -/
def Kp (P : Nat → Nat → Prop) (c c' : vMH) : Prop := ∀ r k, ¬ P r k → c'.1 r k = c.1 r k
theorem Kp.rf {P : Nat → Nat → Prop} {c : vMH} : Kp P c c := fun _ _ _ => rfl
theorem Kp.tr {P : Nat → Nat → Prop} {a b c : vMH} (h : Kp P a b) (h2 : Kp P b c) : Kp P a c := fun r k hp => (h2 r k hp).trans (h r k hp)
theorem Kp.mono {P Q : Nat → Nat → Prop} {a b : vMH} (h : Kp P a b) (hq : ∀ r k, P r k → Q r k) : Kp Q a b := fun r k hp => h r k (fun z => hp (hq r k z))
theorem Kp.sy {P : Nat → Nat → Prop} {a b : vMH} (h : Kp P a b) : Kp P b a := fun r k hp => (h r k hp).symm
theorem Kp.up {P : Nat → Nat → Prop} {a b : vMH} {r k : Nat} {x : Int32} (h : Kp P a b) (hp : P r k) : Kp P a (v_up b r k x) := by
  intro r' k' hq
  rw [rd_up, if_neg (fun z => hq (by rw [z.1, z.2]; exact hp))]
  exact h r' k' hq
theorem Kp.ul {P : Nat → Nat → Prop} {a b : vMH} {x : Int64} (h : Kp P a b) : Kp P a (v_ul b x) := h
theorem Kp.cp {P : Nat → Nat → Prop} {a b : vMH} {r r' sp dp n : Nat} (h : Kp P a b) (hp : ∀ k, P r' k) : Kp P a (v_cp b r r' sp dp n) := by
  intro q k hq
  rw [rd_cpq, if_neg (fun z => hq (by rw [z.1]; exact hp k))]
  exact h q k hq
-- ===== loops =====
theorem lq1_s {A1 ρ : Type} {n : Nat} {F : (A1 → Option ρ) → A1 → Option ρ} {a1 : A1} : lq1 (n + 1) F a1 = F (lq1 n F) a1 := rfl
theorem lq2_s {A1 A2 ρ : Type} {n : Nat} {F : (A1 → A2 → Option ρ) → A1 → A2 → Option ρ} {a1 : A1} {a2 : A2} : lq2 (n + 1) F a1 a2 = F (lq2 n F) a1 a2 := rfl
theorem lq3_s {A1 A2 A3 ρ : Type} {n : Nat} {F : (A1 → A2 → A3 → Option ρ) → A1 → A2 → A3 → Option ρ} {a1 : A1} {a2 : A2} {a3 : A3} : lq3 (n + 1) F a1 a2 a3 = F (lq3 n F) a1 a2 a3 := rfl
theorem lq4_s {A1 A2 A3 A4 ρ : Type} {n : Nat} {F : (A1 → A2 → A3 → A4 → Option ρ) → A1 → A2 → A3 → A4 → Option ρ} {a1 : A1} {a2 : A2} {a3 : A3} {a4 : A4} : lq4 (n + 1) F a1 a2 a3 a4 = F (lq4 n F) a1 a2 a3 a4 := rfl
theorem bd_s {α ρ : Type} {x : α} {f : α → Option ρ} : (some x).bind f = f x := rfl
-- ===== the law's small words: in, within =====
theorem lg_lt0 (x y : Int64) : (lg_cmp x y < 0) = (x < y) := by
  unfold lg_cmp
  by_cases h : x > y
  · rw [if_pos h]
    have : ¬ x < y := fun z => absurd (Int64.lt_trans h z) Int64.lt_irrefl
    simp [this]
  · rw [if_neg h]
    by_cases h2 : x = y
    · subst h2; simp
    · rw [if_neg h2]
      have : x < y := by
        rw [Int64.lt_iff_toInt_lt]
        have h3 : ¬ y.toInt < x.toInt := fun z => h (Int64.lt_iff_toInt_lt.mpr z)
        have h4 : x.toInt ≠ y.toInt := fun z => h2 (Int64.toInt_inj.mp z)
        omega
      simp [this]
theorem lg_gt0 (x y : Int64) : (0 < lg_cmp x y) = (y < x) := by
  unfold lg_cmp
  by_cases h : x > y
  · rw [if_pos h]; simp [h]
  · rw [if_neg h]
    by_cases h2 : x = y
    · subst h2; simp
    · rw [if_neg h2]
      simp [h]
theorem lg_eq0 (x y : Int64) : (lg_cmp x y = 0) = (x = y) := by
  unfold lg_cmp
  by_cases h : x > y
  · rw [if_pos h]
    have : ¬ x = y := fun z => by subst z; exact absurd h Int64.lt_irrefl
    simp [this]
  · rw [if_neg h]
    by_cases h2 : x = y
    · subst h2; simp
    · rw [if_neg h2]; simp [h2]
theorem in_z {v a b : Int64} : (X6_in v a b = 0) = ¬ (a.toInt ≤ v.toInt ∧ v.toInt ≤ b.toInt) := by
  unfold X6_in
  simp only [lg_lt0, lg_gt0, Int64.lt_iff_toInt_lt]
  by_cases h1 : v.toInt < a.toInt
  · rw [if_pos h1]; simp; omega
  · rw [if_neg h1]
    by_cases h2 : b.toInt < v.toInt
    · rw [if_pos h2]; simp; omega
    · rw [if_neg h2]; simp; omega
theorem wi_z {v a b : Int32} : (X5_isWithin v a b = 0) = ¬ (a.toInt ≤ v.toInt ∧ v.toInt ≤ b.toInt) := by
  unfold X5_isWithin
  simp only [Int32.lt_iff_toInt_lt]
  by_cases h1 : v.toInt < a.toInt
  · rw [if_pos h1]; simp; omega
  · rw [if_neg h1]
    by_cases h2 : b.toInt < v.toInt
    · rw [if_pos h2]; simp; omega
    · rw [if_neg h2]; simp; omega
theorem ce_z {v : Int32} : (X5_isCell v = 0) = ¬ (0 ≤ v.toInt ∧ v.toInt ≤ 47) := by
  unfold X5_isCell
  simp only [Int32.lt_iff_toInt_lt, Int32.le_iff_toInt_le, show (0 : Int32).toInt = 0 from rfl, show (48 : Int32).toInt = 48 from rfl]
  by_cases h1 : v.toInt < 0
  · rw [if_pos h1]; simp; omega
  · rw [if_neg h1]
    by_cases h2 : 48 ≤ v.toInt
    · rw [if_pos h2]; simp; omega
    · rw [if_neg h2]; simp; omega
theorem sh_z {v : Int32} : (X5_isSheet v = 0) = ¬ (0 ≤ v.toInt ∧ v.toInt ≤ 3) := by
  unfold X5_isSheet
  simp only [Int32.lt_iff_toInt_lt, Int32.le_iff_toInt_le, show (0 : Int32).toInt = 0 from rfl, show (4 : Int32).toInt = 4 from rfl]
  by_cases h1 : v.toInt < 0
  · rw [if_pos h1]; simp; omega
  · rw [if_neg h1]
    by_cases h2 : 4 ≤ v.toInt
    · rw [if_pos h2]; simp; omega
    · rw [if_neg h2]; simp; omega
theorem il (v : Int32) : v.toInt64.toInt = v.toInt := Int32.toInt_toInt64 v
theorem nI_ofI {v : Int32} {n : Nat} (h0 : 0 ≤ v.toInt) (h : v.toInt ≤ n) (hn : n < 2 ^ 31) : ∃ j, j ≤ n ∧ v = nI j := by
  refine ⟨v.toInt.toNat, by omega, ?_⟩
  apply Int32.toInt_inj.mp
  rw [nI_toInt (by omega)]; omega
-- ===== bits =====
theorem js_bit {g f : Nat} (hg : g < 4096) (hf : f < 12) : (js (nI g) (nI f)) &&& 1 = nI (g / 2 ^ f % 2) := by
  have h2 : (((nI f &&& 31) : Int32).toBitVec.smod 32).toNat = f := by
    have : ∀ f, f < 12 → (((nI f &&& 31) : Int32).toBitVec.smod 32).toNat = f := by decide +kernel
    exact this f hf
  unfold js
  rw [pk_shrN (by omega) _ f h2]
  have h3 : g / 2 ^ f ≤ g := Nat.div_le_self _ _
  exact pk_andN (by omega) 1 (by decide)
theorem bit_tb (g f : Nat) : g.testBit f = decide (g / 2 ^ f % 2 = 1) := Nat.testBit_eq_decide_div_mod_eq
theorem bit0 {g f : Nat} (hg : g < 4096) (hf : f < 12) : (((js (nI g) (nI f)) &&& 1) = 0) = (g.testBit f = false) := by
  rw [js_bit hg hf, bit_tb, show (0 : Int32) = nI 0 from rfl, nI_eqs (by omega) (by omega)]
  simp only [decide_eq_false_iff_not, eq_iff_iff]
  omega
theorem bit1 {g f : Nat} (hg : g < 4096) (hf : f < 12) : (((js (nI g) (nI f)) &&& 1) = 1) = (g.testBit f = true) := by
  rw [js_bit hg hf, bit_tb, show (1 : Int32) = nI 1 from rfl, nI_eqs (by omega) (by omega)]
  simp only [decide_eq_true_eq, eq_iff_iff]
theorem jl1 : ∀ f, f < 12 → jl 1 (nI f) = nI (2 ^ f) := by decide +kernel
theorem nI_or (a b : Nat) : nI a ||| nI b = nI (a ||| b) := by
  apply Int32.toBitVec.inj
  simp only [nI, Int32.toBitVec_or, Int32.toBitVec_ofNat']
  exact (BitVec.ofNat_or ..).symm
theorem or_jl {g f : Nat} (hf : f < 12) : nI g ||| (jl 1 (nI f)) = nI (g ||| 2 ^ f) := by rw [jl1 f hf, nI_or]
theorem or_lt {g f n : Nat} (hg : g < 2 ^ n) (hf : f < n) : g ||| 2 ^ f < 2 ^ n := Nat.or_lt_two_pow hg (Nat.pow_lt_pow_right (by decide) hf)
theorem or_tb (g f i : Nat) : (g ||| 2 ^ f).testBit i = (g.testBit i || decide (f = i)) := by
  rw [Nat.testBit_or, Nat.testBit_two_pow]
/-- how many of the first n are so -/
def cnt (P : Nat → Bool) : Nat → Nat
  | 0 => 0
  | n + 1 => cnt P n + (if P n then 1 else 0)
theorem cnt_le (P : Nat → Bool) : ∀ n, cnt P n ≤ n
  | 0 => Nat.le_refl _
  | n + 1 => by
    have := cnt_le P n
    rw [cnt]; split <;> omega
theorem cnt_congr {P Q : Nat → Bool} : ∀ {n : Nat}, (∀ i, i < n → P i = Q i) → cnt P n = cnt Q n
  | 0, _ => rfl
  | n + 1, h => by
    rw [cnt, cnt, cnt_congr (n := n) (fun i hi => h i (by omega)), h n (by omega)]
theorem cnt_ext (P : Nat → Bool) (n : Nat) : ∀ k, (∀ i, n ≤ i → P i = false) → cnt P (n + k) = cnt P n
  | 0, _ => rfl
  | k + 1, h => by
    rw [← Nat.add_assoc, cnt, cnt_ext P n k h, h (n + k) (by omega)]; rfl
theorem cnt_or {P Q : Nat → Bool} : ∀ {n : Nat}, (∀ i, i < n → ¬ (P i = true ∧ Q i = true)) → cnt (fun i => P i || Q i) n = cnt P n + cnt Q n
  | 0, _ => rfl
  | n + 1, h => by
    rw [cnt, cnt, cnt, cnt_or (n := n) (fun i hi => h i (by omega))]
    have := h n (by omega)
    cases hp : P n <;> cases hq : Q n <;> simp_all <;> omega
theorem cnt_not {P : Nat → Bool} : ∀ n : Nat, cnt (fun i => !P i) n + cnt P n = n
  | 0 => rfl
  | n + 1 => by
    have := cnt_not (P := P) n
    rw [cnt, cnt]
    cases hp : P n <;> simp <;> omega
theorem cnt_one {f : Nat} : ∀ {n : Nat}, f < n → cnt (fun i => decide (f = i)) n = 1
  | 0, h => absurd h (Nat.not_lt_zero _)
  | n + 1, h => by
    rw [cnt]
    by_cases e : f = n
    · subst e
      have : cnt (fun i => decide (f = i)) f = 0 := by
        have : ∀ k, k ≤ f → cnt (fun i => decide (f = i)) k = 0 := by
          intro k
          induction k with
          | zero => intro _; rfl
          | succ k ih =>
            intro hk
            rw [cnt, ih (by omega)]
            simp; omega
        exact this f (Nat.le_refl _)
      rw [this]; simp
    · rw [cnt_one (f := f) (n := n) (by omega)]; simp [e]
def pop (g : Nat) : Nat := cnt (fun i => g.testBit i) 12
theorem pop_tab : ∀ a, a < 64 → ∀ b, b < 64 → J6_bitCount_0f7a4 (nI (64 * a + b)) = nI (pop (64 * a + b)) ∧ X6_bitsOf (nI (64 * a + b)) = some (nI (pop (64 * a + b))) ∧ (pop (64 * a + b) = 0 ↔ 64 * a + b = 0) := by decide +kernel
theorem bc_tab (g : Nat) (h : g < 4096) : J6_bitCount_0f7a4 (nI g) = nI (pop g) := by
  have := (pop_tab (g / 64) (by omega) (g % 64) (by omega)).1
  rwa [Nat.div_add_mod] at this
theorem bo_tab (g : Nat) (h : g < 4096) : X6_bitsOf (nI g) = some (nI (pop g)) := by
  have := (pop_tab (g / 64) (by omega) (g % 64) (by omega)).2.1
  rwa [Nat.div_add_mod] at this
theorem pop_le (g : Nat) : pop g ≤ 12 := cnt_le _ _
theorem pop0 {g : Nat} (hg : g < 4096) : pop g = 0 ↔ g = 0 := by
  have := (pop_tab (g / 64) (by omega) (g % 64) (by omega)).2.2
  rwa [Nat.div_add_mod] at this
theorem pop_n {g n : Nat} (hg : g < 2 ^ n) (hn : n ≤ 12) : pop g = cnt (fun i => g.testBit i) n := by
  have := cnt_ext (fun i => g.testBit i) n (12 - n) (fun i hi => Nat.testBit_lt_two_pow (Nat.lt_of_lt_of_le hg (Nat.pow_le_pow_right (by decide) hi)))
  rw [show n + (12 - n) = 12 by omega] at this
  exact this
