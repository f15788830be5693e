/-! what the Statement gives of the start: statics, text constants -/
def FL0 : List Cond := flatC (Jvm.Cond.and given_1 narrow_1)
theorem va_Xof {args : Array Value} {s : State} {tm : Term} {N : Nat} {f : Nat → Int32} {A : Nat → Prop} (hN : N < 2 ^ 31) (harr : (Cond.arrayOf tm .int).before args s = true) (hlen : (Term.length tm).eval args s none [] s = some (.int (Int32.ofNat N))) (hel : ∀ j : Nat, j < N → (Term.elem tm (.int (Int32.ofNat j))).eval args s none [] s = some (.int (f j))) (hA : ∀ a : Nat, a < s.heap.size → ¬ A a) : ∃ t : Nat, tm.eval args s none [] s = some (.ref t) ∧ va_X t N f s s.heap ∧ t < s.heap.size := by
  obtain ⟨t, ht, cell, h1, h2, h3, h4, h5, h6, h7⟩ := va_Tof (f := fun j => .int (f j)) hN harr hlen hel hA
  obtain ⟨t', cell', ht', hat, hv⟩ := Term.length_spec hlen
  cases ht.symm.trans ht'
  obtain ⟨hcell, -⟩ := State.arrayAt?_spec hat
  cases h1.symm.trans hcell
  have hsz : cell.slots.size < 2 ^ 31 := by
    have hl := hlen
    simp only [Term.eval, ht, hat, Option.bind_eq_bind, Option.bind_some] at hl
    by_cases hlt : cell.slots.size < 2147483648
    · exact hlt
    · simp [hlt] at hl
  have hs : cell.slots.size = N := (nI_eq hsz hN).mp h5
  exact ⟨t, ht, ⟨cell, h1, h2, h3, hs, h6⟩, (Array.getElem?_eq_some_iff.mp h1).1⟩
def v_stm (i : Nat) : Term := .string "FieldBeeps$Reader" (v_six.getD i 0)
theorem s_ex : ∀ i, i < 12 → Cond.exactly (v_stm i) "java/lang/String" ∈ FL0 := by decide +kernel
theorem s_co : ∀ i, i < 12 → Cond.eq (.field (v_stm i) "java/lang/String" "coder" "B") (.int 0) ∈ FL0 := by decide +kernel
theorem s_ar : ∀ i, i < 12 → Cond.arrayOf (.field (v_stm i) "java/lang/String" "value" "[B") .byte ∈ FL0 := by decide +kernel
theorem s_le : ∀ i, i < 12 → Cond.eq (.length (.field (v_stm i) "java/lang/String" "value" "[B")) (.int (Int32.ofNat (v_slen.getD i 0))) ∈ FL0 := by decide +kernel
theorem s_el : ∀ i, i < 12 → ∀ j, j < v_slen.getD i 0 → Cond.eq (.elem (.field (v_stm i) "java/lang/String" "value" "[B") (.int (Int32.ofNat j))) (.int ((v_sbyt.getD i []).getD j 0)) ∈ FL0 := by decide +kernel
theorem s_ne : ∀ i, i < 12 → ∀ j, j < 12 → i ≠ j → (Cond.not (Cond.eq (v_stm i) (v_stm j)) ∈ FL0 ∨ Cond.not (Cond.eq (v_stm j) (v_stm i)) ∈ FL0) := by decide +kernel
theorem s_ref : ∀ i, i < 12 → Cond.stringRef RX1 (v_six.getD i 0) (v_stx.getD i "") ∈ lw_tbl := by decide +kernel
theorem s_len : ∀ i, i < 12 → v_slen.getD i 0 < 2 ^ 31 := by decide +kernel
theorem s_ft1 : ∀ j, j < 7 → Cond.eq (.elem (.static "FieldBeeps" "FIRST_TEXT" "[I") (.int (Int32.ofNat j))) (.int (([30, -1, -10, 10, -1, 10, -13] : List Int32).getD j 0)) ∈ FL0 := by decide +kernel
theorem s_ft2 : ∀ j, j < 3 → Cond.eq (.elem (.static "FieldBeeps" "FIRST_ENDS" "[I") (.int (Int32.ofNat j))) (.int (([3, 4, 7] : List Int32).getD j 0)) ∈ FL0 := by decide +kernel
theorem s_abv : ∀ j, j < 6 → Cond.eq (.elem (.static "FieldBeeps" "ABOVE" "[I") (.int (Int32.ofNat j))) (.int (([-1, 0, 0, 1, 0, 1] : List Int32).getD j 0)) ∈ FL0 := by decide +kernel
theorem s_nest : ∀ w ∈ v_nest, w ∈ lw_tbl := by decide +kernel
theorem start_ext {s : State} {b : Nat} (hts : ∀ w ∈ lw_tbl, w.before #[Value.ref b] s = true) (hgv : (Jvm.Cond.and given_1 narrow_1).before #[Value.ref b] s = true) : ∃ (ext : Nat → Nat) (t1 t2 : Nat), v_Ext ext (fun q => s.heap.size ≤ q) s s.heap ∧ v_E3 t1 t2 (fun q => s.heap.size ≤ q) s s.heap := by
  have hs : ∀ w ∈ FL0, w.before #[Value.ref b] s = true := flat_of_before _ hgv
  have hA : ∀ a : Nat, a < s.heap.size → ¬ (fun q => s.heap.size ≤ q) a := fun a h => Nat.not_le.mpr h
  obtain ⟨t1, e1, x1, l1⟩ := va_Xof (tm := .static "FieldBeeps" "FIRST_TEXT" "[I") (N := 7) (f := ft1) (A := fun q => s.heap.size ≤ q) (by decide) (hs _ (by decide +kernel)) (va_eqt (hs (.eq (.length (.static "FieldBeeps" "FIRST_TEXT" "[I")) (.int 7)) (by decide +kernel))) (fun j hj => va_eqt (hs _ (s_ft1 j hj))) hA
  obtain ⟨t2, e2, x2, l2⟩ := va_Xof (tm := .static "FieldBeeps" "FIRST_ENDS" "[I") (N := 3) (f := ft2) (A := fun q => s.heap.size ≤ q) (by decide) (hs _ (by decide +kernel)) (va_eqt (hs (.eq (.length (.static "FieldBeeps" "FIRST_ENDS" "[I")) (.int 3)) (by decide +kernel))) (fun j hj => va_eqt (hs _ (s_ft2 j hj))) hA
  obtain ⟨tA, eA, xA⟩ := va_Tof (tm := .static "FieldBeeps" "ABOVE" "[I") (ty := .int) (N := 6) (f := fun j => .int (v_above j)) (A := fun q => s.heap.size ≤ q) (by decide) (hs _ (by decide +kernel)) (va_eqt (hs (.eq (.length (.static "FieldBeeps" "ABOVE" "[I")) (.int 6)) (by decide +kernel))) (fun j hj => va_eqt (hs _ (s_abv j hj))) hA
  have i5 : (Cond.initialized "FieldBeeps").before #[Value.ref b] s = true := hts _ (by decide +kernel)
  have z1 := va_Zof (A := fun q => s.heap.size ≤ q) (hts (.laysStatic "FieldBeeps" "FIRST_TEXT" "[I") (by decide +kernel)) i5 e1 hA
  have z2 := va_Zof (A := fun q => s.heap.size ≤ q) (hts (.laysStatic "FieldBeeps" "FIRST_ENDS" "[I") (by decide +kernel)) i5 e2 hA
  have zA := va_Zof (A := fun q => s.heap.size ≤ q) (hts (.laysStatic "FieldBeeps" "ABOVE" "[I") (by decide +kernel)) i5 eA hA
  have zC := va_Zof (A := fun q => s.heap.size ≤ q) (hts (.laysStatic "java/lang/String" "COMPACT_STRINGS" "Z") (by decide +kernel)) (hts (.initialized "java/lang/String") (by decide +kernel)) (va_eqi (z := 1) (hs _ (by decide +kernel))) hA
  have zQ := va_Zqof (A := fun q => s.heap.size ≤ q) (hts (.laysStatic "jdk/internal/util/Preconditions" "SIOOBE_FORMATTER" "Ljava/util/function/BiFunction;") (by decide +kernel)) (hts (.initialized "jdk/internal/util/Preconditions") (by decide +kernel)) (hs _ (by decide +kernel)) hA
  obtain ⟨adK, adV, hSt, hev⟩ := vk_Sof (s := s) (N := 12) (tm := v_stm) (len := v_slen) (byt := v_sbyt) (A := fun q => s.heap.size ≤ q) (args := #[Value.ref b]) s_len (fun i hi => hs _ (s_ex i hi)) (fun i hi => hs _ (s_co i hi)) (fun i hi => hs _ (s_ar i hi)) (fun i hi => hs _ (s_le i hi)) (fun i hi j hj => hs _ (s_el i hi j hj)) (fun i j hi hj h => (s_ne i hi j hj h).imp (hs _) (hs _)) hA
  obtain ⟨tS, hQ⟩ : ∃ tS, va_Z "jdk/internal/util/Preconditions" "SIOOBE_FORMATTER" "Ljava/util/function/BiFunction;" .null (fun q => s.heap.size ≤ q) s s.heap ∨ va_Z "jdk/internal/util/Preconditions" "SIOOBE_FORMATTER" "Ljava/util/function/BiFunction;" (.ref tS) (fun q => s.heap.size ≤ q) s s.heap := by
    rcases zQ with z | ⟨t, z⟩
    · exact ⟨0, Or.inl z⟩
    · exact ⟨t, Or.inr z⟩
  refine ⟨fun r => if r = 999 then tA else if r = 3000 then tS else if r < 2000 then adK (r - 1000) else adV (r - 2000), t1, t2, ⟨fun w hw => ?_, zA, xA, fun i hi => ?_, ?_, zC, hQ⟩, ?_⟩
  · exact v_nest_all (P := fun w => w.before #[Value.ref b] s = true → va_Nw w s) (fun _ _ _ _ h => va_Nw.of rfl h) w hw (hts w (s_nest w hw))
  · have e : (if 1000 + i = 999 then tA else if 1000 + i = 3000 then tS else if 1000 + i < 2000 then adK (1000 + i - 1000) else adV (1000 + i - 2000)) = adK i := by
      rw [if_neg (by omega), if_neg (by omega), if_pos (by omega), Nat.add_sub_cancel_left]
    dsimp only
    rw [e]
    exact vk_R.of (hts _ (s_ref i hi)) (hev i hi)
  · have e1 : ∀ i, i < 12 → (if 1000 + i = 999 then tA else if 1000 + i = 3000 then tS else if 1000 + i < 2000 then adK (1000 + i - 1000) else adV (1000 + i - 2000)) = adK i := fun i hi => by
      rw [if_neg (by omega), if_neg (by omega), if_pos (by omega), Nat.add_sub_cancel_left]
    have e2 : ∀ i, i < 12 → (if 2000 + i = 999 then tA else if 2000 + i = 3000 then tS else if 2000 + i < 2000 then adK (2000 + i - 1000) else adV (2000 + i - 2000)) = adV i := fun i hi => by
      rw [if_neg (by omega), if_neg (by omega), if_neg (by omega), Nat.add_sub_cancel_left]
    refine ⟨fun i hi => ?_, fun i j hi hj h => ?_⟩
    · have := hSt.1 i hi
      simp only [e1 i hi, e2 i hi]
      exact this
    · dsimp only at h
      rw [e1 i hi, e1 j hj] at h
      exact hSt.2 i j hi hj h
  · exact ⟨⟨va_Nw.of rfl (hts (.fieldLinkNest RX3 31 "FieldBeeps" "FIRST_TEXT" "[I" RX5) (by decide +kernel)), va_Nw.of rfl (hts (.fieldLinkNest RX3 40 "FieldBeeps" "FIRST_ENDS" "[I" RX5) (by decide +kernel))⟩, ⟨va_Nw.of rfl (hts (.methodLinkNest RX5 11 yX0_init RX5) (by decide +kernel)), va_Nw.of rfl (hts (.methodLinkNest RX5 50 yX2_init RX5) (by decide +kernel))⟩, z1, z2, ⟨x1, l1, Nat.not_le.mpr l1⟩, x2, l2, Nat.not_le.mpr l2⟩
theorem start_K {s : State} {b : Nat} (hts : ∀ w ∈ gw, w.before #[Value.ref b] s = true) : ∃ (D : va_G) (cA : ClassId × ClassId), va_K D v_cl (v_tys cA) s := by
  obtain ⟨cI, kI, pI, f1, f2, f3⟩ := Cond.arrayClass_spec (hts _ ar_I)
  obtain ⟨cZ, kZ, pZ, g1, g2, g3⟩ := Cond.arrayClass_spec (hts _ ar_Z)
  obtain ⟨c0, i0, k0⟩ := u_known (C := RX0) (T := TX0) (N := 11) (n := 11) hts uX0 (hts _ it_X0)
  obtain ⟨c1, i1, k1⟩ := u_known (C := RX1) (T := TX1) (N := 7) (n := 7) hts uX1 (hts _ it_X1)
  obtain ⟨c2, i2, k2⟩ := u_known (C := RX2) (T := TX2) (N := 3) (n := 3) hts uX2 (hts _ it_X2)
  obtain ⟨c3, i3, k3⟩ := u_known (C := RX3) (T := TX3) (N := 6) (n := 6) hts uX3 (hts _ it_X3)
  obtain ⟨c4, i4, k4⟩ := u_known (C := RX4) (T := TX4) (N := 2) (n := 2) hts uX4 (hts _ it_X4)
  obtain ⟨c5, i5, k5⟩ := u_known (C := RX5) (T := TX5) (N := 9) (n := 9) hts uX5 (hts _ it_X5)
  obtain ⟨c6, i6, k6⟩ := u_known (C := RX6) (T := TX6) (N := 52) (n := 52) hts uX6 (hts _ it_X6)
  refine ⟨(fun k => [c0, c1, c2, c3, c4, c5, c6].getD k c0, fun k => [i0, i1, i2, i3, i4, i5, i6].getD k i0), (cI, cZ), ⟨fun c q hq => ?_, fun k q hq => ?_⟩⟩
  · match c, hq with
    | 0, hq => cases hq; exact k0
    | 1, hq => cases hq; exact k1
    | 2, hq => cases hq; exact k2
    | 3, hq => cases hq; exact k3
    | 4, hq => cases hq; exact k4
    | 5, hq => cases hq; exact k5
    | 6, hq => cases hq; exact k6
    | c + 7, hq => simp [v_cl] at hq
  · match k, hq with
    | 0, hq => cases hq; exact ⟨fun n z => ⟨fun k h => (by cases h), kI, f2, pI, f3⟩, f1⟩
    | 1, hq => cases hq; exact ⟨fun n z => ⟨fun k h => (by cases h), kZ, g2, pZ, g3⟩, g1⟩
    | k + 2, hq => simp [v_tys] at hq
