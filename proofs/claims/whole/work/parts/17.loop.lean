/-! the law's loop, and the law from its entry, over any relation that the calls keep -/
section LOOP
variable {Y : lX} {x3 : Int32} {cv mv : vMH} {pc : Nat} {st : List Value}
theorem L_inc (C : LCx Y) {n : Int} {y3 : Int32} (hd : decode code pc = .ok (.iinc 3 n, 3)) (hy : x3 + Int32.ofInt n = y3) (k : LW Y y3 cv mv (pc + 3) st) : LW Y x3 cv mv pc st := by
  obtain ⟨p, l, e, s, m, below, meth, c, D, cA, adC, adM, b, L, xs⟩ := Y
  obtain ⟨hx, hb, -⟩ := C
  intro H locs ls hP hS hl
  refine lv_iinc (v := y3) (lv' := [(3, .int y3), (0, .ref b), (1, .ref (adC 0)), (2, .ref (adM 0))]) hx hb hd hl (k := 3) rfl hy (by decide) rfl (fun ls hl => ?_)
  exact k H locs ls hP hS (lv_sub hl [1, 2, 3, 0] rfl)
theorem L_sw (C : LCx Y) {x : Int32} {dflt lo hi : Int} {offs : Array Int} {len tgt : Nat} (hd : decode code pc = .ok (.tableswitch dflt lo hi offs, len)) {v : Int32} (hv : x = v) (h1 : ¬ v.toInt < lo) (h2 : ¬ hi < v.toInt) {off : Int} (ho : offs[(v.toInt - lo).toNat]? = some off) (ht : (pc : Int) + off = (tgt : Int)) (k : LW Y x3 cv mv tgt st) : LW Y x3 cv mv pc (.int x :: st) := by
  subst hv
  obtain ⟨p, l, e, s, m, below, meth, c, D, cA, adC, adM, b, L, xs⟩ := Y
  obtain ⟨hx, hb, -⟩ := C
  exact fun H locs ls hP hS hl => lv_tableIn hx hb hd h1 h2 ho ht (k H locs ls hP hS hl)
theorem law_loop {Rl : vMH → vMH → Prop} (C : LCx Y) (O : Ops Rl) (hL : lL Y ≤ 3072) : ∀ (n i : Nat) (x3 : Int32) (cv mv : vMH), i ≤ lL Y + 6 → lL Y + 7 ≤ i + 6 * n → x3 = nI i → Rl cv mv → LW Y x3 cv mv 18 [] := by
  intro n
  induction n with
  | zero => intro i x3 cv mv h1 h2; omega
  | succ n ih =>
    intro i x3 cv mv hi hin ex hR
    -- the head
    have hhead : (i + 6 ≤ lL Y → LW Y x3 cv mv 27 []) → LW Y x3 cv mv 18 [] := by
      intro kk
      obtain ⟨p, l, e, s, m, below, meth, c, D, cA, adC, adM, b, L, xs⟩ := Y
      have hL : L ≤ 3072 := hL
      have hi : i ≤ L + 6 := hi
      obtain ⟨hx, hb, hml, hown, hts, hret, hlk, hK, hD, hE1, hE2, hX, hbl⟩ := C
      intro H locs ls hP hS hl
      refine lv_iload_n hx hb dL_law_18 rfl (lv_at hl 3 rfl) ?_
      refine lv_aload_n hx hb dL_law_19 rfl (lv_at hl 0 rfl) ?_
      refine va_slen hx hb hX hbl (Nat.not_le.mpr hbl) hS dL_law_20 ?_
      refine lv_bipush (v := 6) hx hb dL_law_21 (by decide) ?_
      refine lv_isub hx hb dL_law_23 ?_
      refine lv_icmp_gt (tgt := 1089) hx hb dL_law_24 (by decide) (fun _ => ?_) (fun hc => ?_)
      · refine lv_iconst (v := 1) hx hb dL_law_1089 (by decide) ?_
        refine va_forget (fun q hq => hS.2.2 q hq) ?_
        refine W.widen (k := 600000) (n := 7302250) (Nat.le_of_ble_eq_true rfl) (Nat.le_of_ble_eq_true rfl) ?_
        exact lw_ret hx hb hret hlk dL_law_1090
      · have h6 : i + 6 ≤ L := by
          rcases Nat.lt_or_ge L (i + 6) with q | q
          · exfalso
            apply hc
            rw [ex]
            rw [Int32.lt_iff_toInt_lt]
            have e1 := pk_sub_toInt (a := L) (b := 6) (by omega) (by omega)
            have e2 := nI_toInt (n := i) (by omega)
            have e3 : (Int32.ofNat L - 6 : Int32).toInt = (L : Int) - 6 := e1
            rw [e3, e2]
            omega
          · exact q
        exact kk h6 H locs ls hP hS hl
    refine hhead (fun h6 => ?_)
    have hv : ∀ k, k < 6 → vp_in (x3 + nI k) (lL Y) := by
      intro k hk
      rw [ex, nI_add]
      exact vp_in_nI (by omega) (by omega)
    have K : ∀ cv' mv', Rl cv' mv' → LW Y x3 cv' mv' 1083 [] := by
      intro cv' mv' hR'
      refine L_inc (pc := 1083) (y3 := x3 + 6) C dL_law_1083 rfl ?_
      refine L_goto (pc := 1086) (tgt := 18) C dL_law_1086 (by decide) ?_
      exact ih (i + 6) (x3 + 6) cv' mv' (by omega) (by omega) (by rw [ex]; exact nI_add i 6) hR'
    have hsw : ∀ x : Int32, LW Y x3 cv mv 33 [.int (x &&& 31)] := by
      intro x
      obtain ⟨j, hj, e⟩ := pk_andE x (m := 31) 5 (by decide)
      have h1 := hv 1 (by decide); have h2 := hv 2 (by decide); have h3 := hv 3 (by decide); have h4 := hv 4 (by decide); have h5 := hv 5 (by decide)
      have hj' : j < 32 := hj
      rcases (show j = 0 ∨ j = 1 ∨ j = 2 ∨ j = 3 ∨ j = 4 ∨ j = 5 ∨ j = 6 ∨ j = 7 ∨ j = 8 ∨ j = 9 ∨ j = 10 ∨ j = 11 ∨ j = 12 ∨ j = 13 ∨ j = 14 ∨ j = 15 ∨ j = 16 ∨ j = 17 ∨ j = 18 ∨ j = 19 ∨ j = 20 ∨ j = 21 ∨ j = 22 ∨ j = 23 ∨ j = 24 ∨ j = 25 ∨ j = 26 ∨ j = 27 ∨ j = 28 ∨ j = 29 ∨ j = 30 ∨ j = 31 by omega) with rfl | rfl | rfl | rfl | rfl | rfl | rfl | rfl | rfl | rfl | rfl | rfl | rfl | rfl | rfl | rfl | rfl | rfl | rfl | rfl | rfl | rfl | rfl | rfl | rfl | rfl | rfl | rfl | rfl | rfl | rfl | rfl
      · exact L_sw (pc := 33) (tgt := 176) C dL_law_33 (v := 0) e (by decide) (by decide) (off := 143) (by decide) (by decide) (law_0 C O hR h1 h2 h3 h4 h5 K)
      · exact L_sw (pc := 33) (tgt := 219) C dL_law_33 (v := 1) e (by decide) (by decide) (off := 186) (by decide) (by decide) (law_1 C O hR h1 h2 h3 h4 h5 K)
      · exact L_sw (pc := 33) (tgt := 262) C dL_law_33 (v := 2) e (by decide) (by decide) (off := 229) (by decide) (by decide) (law_2 C O hR h1 h2 h3 h4 h5 K)
      · exact L_sw (pc := 33) (tgt := 295) C dL_law_33 (v := 3) e (by decide) (by decide) (off := 262) (by decide) (by decide) (law_3 C O hR h1 h2 h3 h4 h5 K)
      · exact L_sw (pc := 33) (tgt := 318) C dL_law_33 (v := 4) e (by decide) (by decide) (off := 285) (by decide) (by decide) (law_4 C O hR h1 h2 h3 h4 h5 K)
      · exact L_sw (pc := 33) (tgt := 331) C dL_law_33 (v := 5) e (by decide) (by decide) (off := 298) (by decide) (by decide) (law_5 C O hR h1 h2 h3 h4 h5 K)
      · exact L_sw (pc := 33) (tgt := 354) C dL_law_33 (v := 6) e (by decide) (by decide) (off := 321) (by decide) (by decide) (law_6 C O hR h1 h2 h3 h4 h5 K)
      · exact L_sw (pc := 33) (tgt := 377) C dL_law_33 (v := 7) e (by decide) (by decide) (off := 344) (by decide) (by decide) (law_7 C O hR h1 h2 h3 h4 h5 K)
      · exact L_sw (pc := 33) (tgt := 400) C dL_law_33 (v := 8) e (by decide) (by decide) (off := 367) (by decide) (by decide) (law_8 C O hR h1 h2 h3 h4 h5 K)
      · exact L_sw (pc := 33) (tgt := 413) C dL_law_33 (v := 9) e (by decide) (by decide) (off := 380) (by decide) (by decide) (law_9 C O hR h1 h2 h3 h4 h5 K)
      · exact L_sw (pc := 33) (tgt := 446) C dL_law_33 (v := 10) e (by decide) (by decide) (off := 413) (by decide) (by decide) (law_10 C O hR h1 h2 h3 h4 h5 K)
      · exact L_sw (pc := 33) (tgt := 469) C dL_law_33 (v := 11) e (by decide) (by decide) (off := 436) (by decide) (by decide) (law_11 C O hR h1 h2 h3 h4 h5 K)
      · exact L_sw (pc := 33) (tgt := 492) C dL_law_33 (v := 12) e (by decide) (by decide) (off := 459) (by decide) (by decide) (law_12 C O hR h1 h2 h3 h4 h5 K)
      · exact L_sw (pc := 33) (tgt := 525) C dL_law_33 (v := 13) e (by decide) (by decide) (off := 492) (by decide) (by decide) (law_13 C O hR h1 h2 h3 h4 h5 K)
      · exact L_sw (pc := 33) (tgt := 538) C dL_law_33 (v := 14) e (by decide) (by decide) (off := 505) (by decide) (by decide) (law_14 C O hR h1 h2 h3 h4 h5 K)
      · exact L_sw (pc := 33) (tgt := 571) C dL_law_33 (v := 15) e (by decide) (by decide) (off := 538) (by decide) (by decide) (law_15 C O hR h1 h2 h3 h4 h5 K)
      · exact L_sw (pc := 33) (tgt := 584) C dL_law_33 (v := 16) e (by decide) (by decide) (off := 551) (by decide) (by decide) (law_16 C O hR h1 h2 h3 h4 h5 K)
      · exact L_sw (pc := 33) (tgt := 617) C dL_law_33 (v := 17) e (by decide) (by decide) (off := 584) (by decide) (by decide) (law_17 C O hR h1 h2 h3 h4 h5 K)
      · exact L_sw (pc := 33) (tgt := 640) C dL_law_33 (v := 18) e (by decide) (by decide) (off := 607) (by decide) (by decide) (law_18 C O hR h1 h2 h3 h4 h5 K)
      · exact L_sw (pc := 33) (tgt := 653) C dL_law_33 (v := 19) e (by decide) (by decide) (off := 620) (by decide) (by decide) (law_19 C O hR h1 h2 h3 h4 h5 K)
      · exact L_sw (pc := 33) (tgt := 686) C dL_law_33 (v := 20) e (by decide) (by decide) (off := 653) (by decide) (by decide) (law_20 C O hR h1 h2 h3 h4 h5 K)
      · exact L_sw (pc := 33) (tgt := 699) C dL_law_33 (v := 21) e (by decide) (by decide) (off := 666) (by decide) (by decide) (law_21 C O hR h1 h2 h3 h4 h5 K)
      · exact L_sw (pc := 33) (tgt := 722) C dL_law_33 (v := 22) e (by decide) (by decide) (off := 689) (by decide) (by decide) (law_22 C O hR h1 h2 h3 h4 h5 K)
      · exact L_sw (pc := 33) (tgt := 745) C dL_law_33 (v := 23) e (by decide) (by decide) (off := 712) (by decide) (by decide) (law_23 C O hR h1 h2 h3 h4 h5 K)
      · exact L_sw (pc := 33) (tgt := 799) C dL_law_33 (v := 24) e (by decide) (by decide) (off := 766) (by decide) (by decide) (law_24 C O hR h1 h2 h3 h4 h5 K)
      · exact L_sw (pc := 33) (tgt := 812) C dL_law_33 (v := 25) e (by decide) (by decide) (off := 779) (by decide) (by decide) (law_25 C O hR h1 h2 h3 h4 h5 K)
      · exact L_sw (pc := 33) (tgt := 825) C dL_law_33 (v := 26) e (by decide) (by decide) (off := 792) (by decide) (by decide) (law_26 C O hR h1 h2 h3 h4 h5 K)
      · exact L_sw (pc := 33) (tgt := 848) C dL_law_33 (v := 27) e (by decide) (by decide) (off := 815) (by decide) (by decide) (law_27 C O hR h1 h2 h3 h4 h5 K)
      · exact L_sw (pc := 33) (tgt := 891) C dL_law_33 (v := 28) e (by decide) (by decide) (off := 858) (by decide) (by decide) (law_28 C O hR h1 h2 h3 h4 h5 K)
      · exact L_sw (pc := 33) (tgt := 934) C dL_law_33 (v := 29) e (by decide) (by decide) (off := 901) (by decide) (by decide) (law_29 C O hR h1 h2 h3 h4 h5 K)
      · exact L_sw (pc := 33) (tgt := 997) C dL_law_33 (v := 30) e (by decide) (by decide) (off := 964) (by decide) (by decide) (law_30 C O hR h1 h2 h3 h4 h5 K)
      · exact L_sw (pc := 33) (tgt := 1050) C dL_law_33 (v := 31) e (by decide) (by decide) (off := 1017) (by decide) (by decide) (law_31 C O hR h1 h2 h3 h4 h5 K)
    obtain ⟨p, l, e, s, m, below, meth, c, D, cA, adC, adM, b, L, xs⟩ := Y
    have hv0 : vp_in x3 L := by rw [ex]; have h6 : i + 6 ≤ L := h6; have hL : L ≤ 3072 := hL; exact vp_in_nI (by omega) (by omega)
    obtain ⟨hx, hb, hml, hown, hts, hret, hlk, hK, hD, hE1, hE2, hX, hbl⟩ := C
    intro H locs ls hP hS hl
    refine lv_aload_n hx hb dL_law_27 rfl (lv_at hl 0 rfl) ?_
    refine lv_iload_n hx hb dL_law_28 rfl (lv_at hl 3 rfl) ?_
    refine va_sld hx hb hX hbl (Nat.not_le.mpr hbl) hS hv0 dL_law_29 ?_
    refine lv_bipush (v := 31) hx hb dL_law_30 (by decide) ?_
    refine lv_iand hx hb dL_law_32 ?_
    exact hsw _ H locs ls hP hS hl
end LOOP
