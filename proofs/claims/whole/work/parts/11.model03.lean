def X6_found (v1 : Int32) (v2 : Int32) (mh : vMH) : Option (Int32 × vMH) := (if (X6_in (Int32.toInt64 v1) 0 63) = 0 then (some ((-2), mh)) else (if (X6_in (Int32.toInt64 v2) 0 1) = 0 then (some ((-2), mh)) else ((X6_laysAside mh).bind fun q3 => ((X6_walksAll v1 q3).bind fun q5 => (wj1 (fun (s7 : Int32) => ((X6_laysBack q5).bind fun q9 => (some (s7, q9)))) fun J8 => (if v2 = 0 then (J8 (q5.1 0 32)) else (J8 (q5.1 0 33))))))))
set_option maxRecDepth 100000 in
set_option maxHeartbeats 8000000 in
theorem c_X6_found (d : Nat) (v1 : Int32) (v2 : Int32) (mh : vMH) {res : Int32 × vMH} (h : X6_found v1 v2 mh = some res) : MC LM (d + 77) yX6_found cX6_found 4 (some .int) [.ref 0, .int v1, .int v2] mh (some (.int res.1)) res.2 := by
  refine MC_of 1 (by decide) rfl (fun X C hG => ?_)
  replace C : Cx X (d + 77) 4 cX6_found RX6 (some .int) := C
  show Vw LM X (d + 77) 4 0 [some (.ref 0), some (.int v1), some (.int v2), none] [] mh
  unfold X6_found at h
  refine V_iload_n (pc := 0) C dX6_found_0 rfl rfl ?_
  refine V_i2l (pc := 1) C dX6_found_1 ?_
  refine V_lconst (pc := 2) C (v := 0) dX6_found_2 (by decide) ?_
  refine V_ldc2 (pc := 3) C dX6_found_3 kc_X6_291 ?_
  refine V_callSi (pc := 6) (rest := []) C cs_X6_76 (c_X6_in (d + 76) (Int32.toInt64 v1) 0 63 mh) (by omega) (by decide) rfl rfl (Nat.le_of_ble_eq_true rfl) dX6_found_6 ?_
  refine V_ifeq (pc := 9) (tgt := 22) C dX6_found_9 (by decide) (fun hc1 => ?_) (fun hc1 => ?_)
  · have h := it_t h hc1
    refine V_bipush (pc := 22) C (v := (-2)) dX6_found_22 (by decide) ?_
    exact V_iret (pc := 24) C (gdow h hG) dX6_found_24
  · have h := it_f h hc1
    refine V_iload_n (pc := 12) C dX6_found_12 rfl rfl ?_
    refine V_i2l (pc := 13) C dX6_found_13 ?_
    refine V_lconst (pc := 14) C (v := 0) dX6_found_14 (by decide) ?_
    refine V_lconst (pc := 15) C (v := 1) dX6_found_15 (by decide) ?_
    refine V_callSi (pc := 16) (rest := []) C cs_X6_76 (c_X6_in (d + 76) (Int32.toInt64 v2) 0 1 mh) (by omega) (by decide) rfl rfl (Nat.le_of_ble_eq_true rfl) dX6_found_16 ?_
    refine V_ifne (pc := 19) (tgt := 25) C dX6_found_19 (by decide) (fun hc2 => ?_) (fun hc2 => ?_)
    · have h := it_f h hc2
      refine V_aload_n (pc := 25) C dX6_found_25 rfl rfl ?_
      obtain ⟨q3, hq4, h⟩ := bnd_ok h
      refine V_callVv (pc := 26) (rest := []) C cs_X6_293 (c_X6_laysAside (d + 76) mh hq4) CF6.1 LO6 (by omega) (by decide) rfl rfl (Nat.le_of_ble_eq_true rfl) dX6_found_26 ?_
      refine V_aload_n (pc := 29) C dX6_found_29 rfl rfl ?_
      refine V_iload_n (pc := 30) C dX6_found_30 rfl rfl ?_
      obtain ⟨q5, hq6, h⟩ := bnd_ok h
      refine V_callVv (pc := 31) (rest := []) C cs_X6_296 (c_X6_walksAll (d + 0) v1 q3 hq6) CF6.1 LO6 (by omega) (by decide) rfl rfl (Nat.le_of_ble_eq_true rfl) dX6_found_31 ?_
      refine V_iload_n (pc := 34) C dX6_found_34 rfl rfl ?_
      refine wj1_ok (fun (s7 : Int32) => Vw LM X (d + 77) 4 49 [some (.ref 0), some (.int v1), some (.int v2), none] [.int s7] q5) h (fun s7 h => ?_) (fun J8 hJ8 h => ?_)
      · refine V_istore_n (pc := 49) C (lv' := [some (.ref 0), some (.int v1), some (.int v2), some (.int s7)]) dX6_found_49 rfl (by decide) (Nat.le_of_ble_eq_true rfl) rfl rfl ?_
        refine V_aload_n (pc := 50) C dX6_found_50 rfl rfl ?_
        obtain ⟨q9, hq10, h⟩ := bnd_ok h
        refine V_callVv (pc := 51) (rest := []) C cs_X6_299 (c_X6_laysBack (d + 76) q5 hq10) CF6.1 LO6 (by omega) (by decide) rfl rfl (Nat.le_of_ble_eq_true rfl) dX6_found_51 ?_
        refine V_iload_n (pc := 54) C dX6_found_54 rfl rfl ?_
        exact V_iret (pc := 55) C (gdow h hG) dX6_found_55
      · refine V_ifne (pc := 35) (tgt := 45) C dX6_found_35 (by decide) (fun hc11 => ?_) (fun hc11 => ?_)
        · have h := it_f h hc11
          refine V_aload_n (pc := 45) C dX6_found_45 rfl rfl ?_
          refine V_getI (pc := 46) C CF6 fl_X6_263 LO6 (by decide) rfl dX6_found_46 (v := (q5.1 0 33)) rfl ?_
          exact hJ8 (q5.1 0 33) h
        · have h := it_t h hc11
          refine V_aload_n (pc := 38) C dX6_found_38 rfl rfl ?_
          refine V_getI (pc := 39) C CF6 fl_X6_260 LO6 (by decide) rfl dX6_found_39 (v := (q5.1 0 32)) rfl ?_
          refine V_goto (pc := 42) (tgt := 49) C dX6_found_42 (by decide) ?_
          exact hJ8 (q5.1 0 32) h
    · have h := it_t h hc2
      refine V_bipush (pc := 22) C (v := (-2)) dX6_found_22 (by decide) ?_
      exact V_iret (pc := 24) C (gdow h hG) dX6_found_24
def X6_years_L21 (v1 : Int32) (J5 : vMH → Option (Int32 × vMH)) (rec10 : Int32 → vMH → Option (Int32 × vMH)) (v2_8 : Int32) (mh9 : vMH) : Option (Int32 × vMH) := (if v1 ≤ v2_8 then (J5 mh9) else ((X6_walksAll 63 mh9).bind fun q12 => ((X6_ploughs q12).bind fun q14 => (rec10 (v2_8 + 1) q14))))
def X6_years (v1 : Int32) (mh : vMH) : Option (Int32 × vMH) := (if (X6_in (Int32.toInt64 v1) 0 20) = 0 then (some ((-2), mh)) else ((X6_laysAside mh).bind fun q2 => (wj1 (fun (mh4 : vMH) => ((X6_laysBack mh4).bind fun q6 => (some ((mh4.1 0 32), q6)))) fun J5 => (lq2 4096 (X6_years_L21 v1 J5) 0 q2))))
set_option maxRecDepth 100000 in
set_option maxHeartbeats 8000000 in
theorem c_X6_years (d : Nat) (v1 : Int32) (mh : vMH) {res : Int32 × vMH} (h : X6_years v1 mh = some res) : MC LM (d + 77) yX6_years cX6_years 3 (some .int) [.ref 0, .int v1] mh (some (.int res.1)) res.2 := by
  refine MC_of 1 (by decide) rfl (fun X C hG => ?_)
  replace C : Cx X (d + 77) 3 cX6_years RX6 (some .int) := C
  show Vw LM X (d + 77) 3 0 [some (.ref 0), some (.int v1), none] [] mh
  unfold X6_years at h
  refine V_iload_n (pc := 0) C dX6_years_0 rfl rfl ?_
  refine V_i2l (pc := 1) C dX6_years_1 ?_
  refine V_lconst (pc := 2) C (v := 0) dX6_years_2 (by decide) ?_
  refine V_ldc2 (pc := 3) C dX6_years_3 kc_X6_98 ?_
  refine V_callSi (pc := 6) (rest := []) C cs_X6_76 (c_X6_in (d + 76) (Int32.toInt64 v1) 0 20 mh) (by omega) (by decide) rfl rfl (Nat.le_of_ble_eq_true rfl) dX6_years_6 ?_
  refine V_ifne (pc := 9) (tgt := 15) C dX6_years_9 (by decide) (fun hc1 => ?_) (fun hc1 => ?_)
  · have h := it_f h hc1
    refine V_aload_n (pc := 15) C dX6_years_15 rfl rfl ?_
    obtain ⟨q2, hq3, h⟩ := bnd_ok h
    refine V_callVv (pc := 16) (rest := []) C cs_X6_293 (c_X6_laysAside (d + 76) mh hq3) CF6.1 LO6 (by omega) (by decide) rfl rfl (Nat.le_of_ble_eq_true rfl) dX6_years_16 ?_
    refine V_iconst (pc := 19) C (v := 0) dX6_years_19 (by decide) ?_
    refine V_istore_n (pc := 20) C (lv' := [some (.ref 0), some (.int v1), some (.int 0)]) dX6_years_20 rfl (by decide) (Nat.le_of_ble_eq_true rfl) rfl rfl ?_
    refine wj1_ok (fun (mh4 : vMH) => Vw LM X (d + 77) 3 42 [some (.ref 0), some (.int v1), none] [] mh4) h (fun mh4 h => ?_) (fun J5 hJ5 h => ?_)
    · refine V_aload_n (pc := 42) C dX6_years_42 rfl rfl ?_
      refine V_getI (pc := 43) C CF6 fl_X6_260 LO6 (by decide) rfl dX6_years_43 (v := (mh4.1 0 32)) rfl ?_
      refine V_istore_n (pc := 46) C (lv' := [some (.ref 0), some (.int v1), some (.int (mh4.1 0 32))]) dX6_years_46 rfl (by decide) (Nat.le_of_ble_eq_true rfl) rfl rfl ?_
      refine V_aload_n (pc := 47) C dX6_years_47 rfl rfl ?_
      obtain ⟨q6, hq7, h⟩ := bnd_ok h
      refine V_callVv (pc := 48) (rest := []) C cs_X6_299 (c_X6_laysBack (d + 76) mh4 hq7) CF6.1 LO6 (by omega) (by decide) rfl rfl (Nat.le_of_ble_eq_true rfl) dX6_years_48 ?_
      refine V_iload_n (pc := 51) C dX6_years_51 rfl rfl ?_
      exact V_iret (pc := 52) C (gdow h hG) dX6_years_52
    · refine lq2_ok (fun (v2_8 : Int32) (mh9 : vMH) => Vw LM X (d + 77) 3 21 [some (.ref 0), some (.int v1), some (.int v2_8)] [] mh9) h (fun rec10 hrec10 v2_8 mh9 h => ?_)
      unfold X6_years_L21 at h
      refine V_iload_n (pc := 21) C dX6_years_21 rfl rfl ?_
      refine V_iload_n (pc := 22) C dX6_years_22 rfl rfl ?_
      refine V_icmpge (pc := 23) (tgt := 42) C dX6_years_23 (by decide) (fun hc11 => ?_) (fun hc11 => ?_)
      · have h := it_t h hc11
        refine V_mask [true, true, false] (lv' := [some (.ref 0), some (.int v1), none]) rfl ?_
        exact hJ5 mh9 h
      · have h := it_f h hc11
        refine V_aload_n (pc := 26) C dX6_years_26 rfl rfl ?_
        refine V_bipush (pc := 27) C (v := 63) dX6_years_27 (by decide) ?_
        obtain ⟨q12, hq13, h⟩ := bnd_ok h
        refine V_callVv (pc := 29) (rest := []) C cs_X6_296 (c_X6_walksAll (d + 0) 63 mh9 hq13) CF6.1 LO6 (by omega) (by decide) rfl rfl (Nat.le_of_ble_eq_true rfl) dX6_years_29 ?_
        refine V_aload_n (pc := 32) C dX6_years_32 rfl rfl ?_
        obtain ⟨q14, hq15, h⟩ := bnd_ok h
        refine V_callVv (pc := 33) (rest := []) C cs_X6_279 (c_X6_ploughs (d + 75) q12 hq15) CF6.1 LO6 (by omega) (by decide) rfl rfl (Nat.le_of_ble_eq_true rfl) dX6_years_33 ?_
        refine V_iinc (pc := 36) C (v := (v2_8 + 1)) (lv' := [some (.ref 0), some (.int v1), some (.int (v2_8 + 1))]) dX6_years_36 rfl rfl (by decide) (Nat.le_of_ble_eq_true rfl) rfl rfl ?_
        refine V_goto (pc := 39) (tgt := 21) C dX6_years_39 (by decide) ?_
        exact hrec10 (v2_8 + 1) q14 h
  · have h := it_t h hc1
    refine V_bipush (pc := 12) C (v := (-2)) dX6_years_12 (by decide) ?_
    exact V_iret (pc := 14) C (gdow h hG) dX6_years_14
def X6_soonest_L34 (v4_11 : Int32) (J16 : vMH → Option (Int32 × vMH)) (rec24 : Int32 → vMH → Option (Int32 × vMH)) (v5_22 : Int32) (mh23 : vMH) : Option (Int32 × vMH) := (if v4_11 ≤ v5_22 then (J16 mh23) else ((X6_ploughs mh23).bind fun q26 => (rec24 (v5_22 + 1) q26)))
def X6_soonest_L24 (J7 : Int32 → Int32 → vMH → Option (Int32 × vMH)) (rec13 : Int32 → Int32 → Int32 → vMH → Option (Int32 × vMH)) (v2_9 : Int32) (v3_10 : Int32) (v4_11 : Int32) (mh12 : vMH) : Option (Int32 × vMH) := (if 20 < v4_11 then (J7 v2_9 v3_10 mh12) else (wj1 (fun (mh15 : vMH) => ((X6_walksAll 63 mh15).bind fun q17 => ((X6_laysBack q17).bind fun q19 => (if (q17.1 0 32) ≤ v3_10 then (rec13 v2_9 v3_10 (v4_11 + 1) q19) else (rec13 v4_11 (q17.1 0 32) (v4_11 + 1) q19))))) fun J16 => (lq2 4096 (X6_soonest_L34 v4_11 J16) 0 mh12)))
def X6_soonest (v1 : Int32) (mh : vMH) : Option (Int32 × vMH) := (if (X6_in (Int32.toInt64 v1) 0 1) = 0 then (some ((-2), mh)) else ((X6_laysAside mh).bind fun q2 => (wj3 (fun (v2_4 : Int32) (v3_5 : Int32) (mh6 : vMH) => (if v1 = 0 then (some (v2_4, mh6)) else (some (v3_5, mh6)))) fun J7 => (lq4 4096 (X6_soonest_L24 J7) 0 (-1) 0 q2))))
set_option maxRecDepth 100000 in
set_option maxHeartbeats 8000000 in
theorem c_X6_soonest (d : Nat) (v1 : Int32) (mh : vMH) {res : Int32 × vMH} (h : X6_soonest v1 mh = some res) : MC LM (d + 77) yX6_soonest cX6_soonest 6 (some .int) [.ref 0, .int v1] mh (some (.int res.1)) res.2 := by
  refine MC_of 4 (by decide) rfl (fun X C hG => ?_)
  replace C : Cx X (d + 77) 6 cX6_soonest RX6 (some .int) := C
  show Vw LM X (d + 77) 6 0 [some (.ref 0), some (.int v1), none, none, none, none] [] mh
  unfold X6_soonest at h
  refine V_iload_n (pc := 0) C dX6_soonest_0 rfl rfl ?_
  refine V_i2l (pc := 1) C dX6_soonest_1 ?_
  refine V_lconst (pc := 2) C (v := 0) dX6_soonest_2 (by decide) ?_
  refine V_lconst (pc := 3) C (v := 1) dX6_soonest_3 (by decide) ?_
  refine V_callSi (pc := 4) (rest := []) C cs_X6_76 (c_X6_in (d + 76) (Int32.toInt64 v1) 0 1 mh) (by omega) (by decide) rfl rfl (Nat.le_of_ble_eq_true rfl) dX6_soonest_4 ?_
  refine V_ifne (pc := 7) (tgt := 13) C dX6_soonest_7 (by decide) (fun hc1 => ?_) (fun hc1 => ?_)
  · have h := it_f h hc1
    refine V_aload_n (pc := 13) C dX6_soonest_13 rfl rfl ?_
    obtain ⟨q2, hq3, h⟩ := bnd_ok h
    refine V_callVv (pc := 14) (rest := []) C cs_X6_293 (c_X6_laysAside (d + 76) mh hq3) CF6.1 LO6 (by omega) (by decide) rfl rfl (Nat.le_of_ble_eq_true rfl) dX6_soonest_14 ?_
    refine V_iconst (pc := 17) C (v := 0) dX6_soonest_17 (by decide) ?_
    refine V_istore_n (pc := 18) C (lv' := [some (.ref 0), some (.int v1), some (.int 0), none, none, none]) dX6_soonest_18 rfl (by decide) (Nat.le_of_ble_eq_true rfl) rfl rfl ?_
    refine V_iconst (pc := 19) C (v := (-1)) dX6_soonest_19 (by decide) ?_
    refine V_istore_n (pc := 20) C (lv' := [some (.ref 0), some (.int v1), some (.int 0), some (.int (-1)), none, none]) dX6_soonest_20 rfl (by decide) (Nat.le_of_ble_eq_true rfl) rfl rfl ?_
    refine V_iconst (pc := 21) C (v := 0) dX6_soonest_21 (by decide) ?_
    refine V_istore (pc := 22) C (lv' := [some (.ref 0), some (.int v1), some (.int 0), some (.int (-1)), some (.int 0), none]) dX6_soonest_22 (by decide) (Nat.le_of_ble_eq_true rfl) rfl rfl ?_
    refine wj3_ok (fun (v2_4 : Int32) (v3_5 : Int32) (mh6 : vMH) => Vw LM X (d + 77) 6 85 [some (.ref 0), some (.int v1), some (.int v2_4), some (.int v3_5), none, none] [] mh6) h (fun v2_4 v3_5 mh6 h => ?_) (fun J7 hJ7 h => ?_)
    · refine V_iload_n (pc := 85) C dX6_soonest_85 rfl rfl ?_
      refine V_ifne (pc := 86) (tgt := 93) C dX6_soonest_86 (by decide) (fun hc8 => ?_) (fun hc8 => ?_)
      · have h := it_f h hc8
        refine V_iload_n (pc := 93) C dX6_soonest_93 rfl rfl ?_
        exact V_iret (pc := 94) C (gdow h hG) dX6_soonest_94
      · have h := it_t h hc8
        refine V_iload_n (pc := 89) C dX6_soonest_89 rfl rfl ?_
        refine V_goto (pc := 90) (tgt := 94) C dX6_soonest_90 (by decide) ?_
        exact V_iret (pc := 94) C (gdow h hG) dX6_soonest_94
    · refine lq4_ok (fun (v2_9 : Int32) (v3_10 : Int32) (v4_11 : Int32) (mh12 : vMH) => Vw LM X (d + 77) 6 24 [some (.ref 0), some (.int v1), some (.int v2_9), some (.int v3_10), some (.int v4_11), none] [] mh12) h (fun rec13 hrec13 v2_9 v3_10 v4_11 mh12 h => ?_)
      unfold X6_soonest_L24 at h
      refine V_iload (pc := 24) C dX6_soonest_24 rfl ?_
      refine V_bipush (pc := 26) C (v := 20) dX6_soonest_26 (by decide) ?_
      refine V_icmpgt (pc := 28) (tgt := 85) C dX6_soonest_28 (by decide) (fun hc14 => ?_) (fun hc14 => ?_)
      · have h := it_t h hc14
        refine V_mask [true, true, true, true, false, true] (lv' := [some (.ref 0), some (.int v1), some (.int v2_9), some (.int v3_10), none, none]) rfl ?_
        exact hJ7 v2_9 v3_10 mh12 h
      · have h := it_f h hc14
        refine V_iconst (pc := 31) C (v := 0) dX6_soonest_31 (by decide) ?_
        refine V_istore (pc := 32) C (lv' := [some (.ref 0), some (.int v1), some (.int v2_9), some (.int v3_10), some (.int v4_11), some (.int 0)]) dX6_soonest_32 (by decide) (Nat.le_of_ble_eq_true rfl) rfl rfl ?_
        refine wj1_ok (fun (mh15 : vMH) => Vw LM X (d + 77) 6 51 [some (.ref 0), some (.int v1), some (.int v2_9), some (.int v3_10), some (.int v4_11), none] [] mh15) h (fun mh15 h => ?_) (fun J16 hJ16 h => ?_)
        · refine V_aload_n (pc := 51) C dX6_soonest_51 rfl rfl ?_
          refine V_bipush (pc := 52) C (v := 63) dX6_soonest_52 (by decide) ?_
          obtain ⟨q17, hq18, h⟩ := bnd_ok h
          refine V_callVv (pc := 54) (rest := []) C cs_X6_296 (c_X6_walksAll (d + 0) 63 mh15 hq18) CF6.1 LO6 (by omega) (by decide) rfl rfl (Nat.le_of_ble_eq_true rfl) dX6_soonest_54 ?_
          refine V_aload_n (pc := 57) C dX6_soonest_57 rfl rfl ?_
          refine V_getI (pc := 58) C CF6 fl_X6_260 LO6 (by decide) rfl dX6_soonest_58 (v := (q17.1 0 32)) rfl ?_
          refine V_istore (pc := 61) C (lv' := [some (.ref 0), some (.int v1), some (.int v2_9), some (.int v3_10), some (.int v4_11), some (.int (q17.1 0 32))]) dX6_soonest_61 (by decide) (Nat.le_of_ble_eq_true rfl) rfl rfl ?_
          refine V_aload_n (pc := 63) C dX6_soonest_63 rfl rfl ?_
          obtain ⟨q19, hq20, h⟩ := bnd_ok h
          refine V_callVv (pc := 64) (rest := []) C cs_X6_299 (c_X6_laysBack (d + 76) q17 hq20) CF6.1 LO6 (by omega) (by decide) rfl rfl (Nat.le_of_ble_eq_true rfl) dX6_soonest_64 ?_
          refine V_iload (pc := 67) C dX6_soonest_67 rfl ?_
          refine V_iload_n (pc := 69) C dX6_soonest_69 rfl rfl ?_
          refine V_icmple (pc := 70) (tgt := 79) C dX6_soonest_70 (by decide) (fun hc21 => ?_) (fun hc21 => ?_)
          · have h := it_t h hc21
            refine V_iinc (pc := 79) C (v := (v4_11 + 1)) (lv' := [some (.ref 0), some (.int v1), some (.int v2_9), some (.int v3_10), some (.int (v4_11 + 1)), some (.int (q17.1 0 32))]) dX6_soonest_79 rfl rfl (by decide) (Nat.le_of_ble_eq_true rfl) rfl rfl ?_
            refine V_goto (pc := 82) (tgt := 24) C dX6_soonest_82 (by decide) ?_
            refine V_mask [true, true, true, true, true, false] (lv' := [some (.ref 0), some (.int v1), some (.int v2_9), some (.int v3_10), some (.int (v4_11 + 1)), none]) rfl ?_
            exact hrec13 v2_9 v3_10 (v4_11 + 1) q19 h
          · have h := it_f h hc21
            refine V_iload (pc := 73) C dX6_soonest_73 rfl ?_
            refine V_istore_n (pc := 75) C (lv' := [some (.ref 0), some (.int v1), some (.int v4_11), some (.int v3_10), some (.int v4_11), some (.int (q17.1 0 32))]) dX6_soonest_75 rfl (by decide) (Nat.le_of_ble_eq_true rfl) rfl rfl ?_
            refine V_iload (pc := 76) C dX6_soonest_76 rfl ?_
            refine V_istore_n (pc := 78) C (lv' := [some (.ref 0), some (.int v1), some (.int v4_11), some (.int (q17.1 0 32)), some (.int v4_11), some (.int (q17.1 0 32))]) dX6_soonest_78 rfl (by decide) (Nat.le_of_ble_eq_true rfl) rfl rfl ?_
            refine V_iinc (pc := 79) C (v := (v4_11 + 1)) (lv' := [some (.ref 0), some (.int v1), some (.int v4_11), some (.int (q17.1 0 32)), some (.int (v4_11 + 1)), some (.int (q17.1 0 32))]) dX6_soonest_79 rfl rfl (by decide) (Nat.le_of_ble_eq_true rfl) rfl rfl ?_
            refine V_goto (pc := 82) (tgt := 24) C dX6_soonest_82 (by decide) ?_
            refine V_mask [true, true, true, true, true, false] (lv' := [some (.ref 0), some (.int v1), some (.int v4_11), some (.int (q17.1 0 32)), some (.int (v4_11 + 1)), none]) rfl ?_
            exact hrec13 v4_11 (q17.1 0 32) (v4_11 + 1) q19 h
        · refine lq2_ok (fun (v5_22 : Int32) (mh23 : vMH) => Vw LM X (d + 77) 6 34 [some (.ref 0), some (.int v1), some (.int v2_9), some (.int v3_10), some (.int v4_11), some (.int v5_22)] [] mh23) h (fun rec24 hrec24 v5_22 mh23 h => ?_)
          unfold X6_soonest_L34 at h
          refine V_iload (pc := 34) C dX6_soonest_34 rfl ?_
          refine V_iload (pc := 36) C dX6_soonest_36 rfl ?_
          refine V_icmpge (pc := 38) (tgt := 51) C dX6_soonest_38 (by decide) (fun hc25 => ?_) (fun hc25 => ?_)
          · have h := it_t h hc25
            refine V_mask [true, true, true, true, true, false] (lv' := [some (.ref 0), some (.int v1), some (.int v2_9), some (.int v3_10), some (.int v4_11), none]) rfl ?_
            exact hJ16 mh23 h
          · have h := it_f h hc25
            refine V_aload_n (pc := 41) C dX6_soonest_41 rfl rfl ?_
            obtain ⟨q26, hq27, h⟩ := bnd_ok h
            refine V_callVv (pc := 42) (rest := []) C cs_X6_279 (c_X6_ploughs (d + 75) mh23 hq27) CF6.1 LO6 (by omega) (by decide) rfl rfl (Nat.le_of_ble_eq_true rfl) dX6_soonest_42 ?_
            refine V_iinc (pc := 45) C (v := (v5_22 + 1)) (lv' := [some (.ref 0), some (.int v1), some (.int v2_9), some (.int v3_10), some (.int v4_11), some (.int (v5_22 + 1))]) dX6_soonest_45 rfl rfl (by decide) (Nat.le_of_ble_eq_true rfl) rfl rfl ?_
            refine V_goto (pc := 48) (tgt := 34) C dX6_soonest_48 (by decide) ?_
            exact hrec24 (v5_22 + 1) q26 h
  · have h := it_t h hc1
    refine V_bipush (pc := 10) C (v := (-2)) dX6_soonest_10 (by decide) ?_
    exact V_iret (pc := 12) C (gdow h hG) dX6_soonest_12
def X6_strips_L37 (v1 : Int32) (J8 : Int32 → Int32 → vMH → Option (Int32 × vMH)) (rec14 : Int32 → Int32 → Int32 → vMH → Option (Int32 × vMH)) (v3_10 : Int32) (v4_11 : Int32) (v5_12 : Int32) (mh13 : vMH) : Option (Int32 × vMH) := (if 63 < v5_12 then (J8 v3_10 v4_11 mh13) else ((X6_bitsOf v5_12).bind fun q16 => (if q16 = v1 then ((X6_walksAll v5_12 mh13).bind fun q19 => ((X6_laysBack q19).bind fun q21 => (if (q19.1 0 33) ≤ v4_11 then (rec14 v3_10 v4_11 (v5_12 + 1) q21) else (rec14 v5_12 (q19.1 0 33) (v5_12 + 1) q21)))) else (rec14 v3_10 v4_11 (v5_12 + 1) mh13))))
def X6_strips (v1 : Int32) (v2 : Int32) (mh : vMH) : Option (Int32 × vMH) := (if (X6_in (Int32.toInt64 v1) 0 6) = 0 then (some ((-2), mh)) else (if (X6_in (Int32.toInt64 v2) 0 1) = 0 then (some ((-2), mh)) else ((X6_laysAside mh).bind fun q3 => (wj3 (fun (v3_5 : Int32) (v4_6 : Int32) (mh7 : vMH) => (if v2 = 0 then (some (v3_5, mh7)) else (some (v4_6, mh7)))) fun J8 => (lq4 4096 (X6_strips_L37 v1 J8) 0 (-1) 0 q3)))))
set_option maxRecDepth 100000 in
set_option maxHeartbeats 8000000 in
theorem c_X6_strips (d : Nat) (v1 : Int32) (v2 : Int32) (mh : vMH) {res : Int32 × vMH} (h : X6_strips v1 v2 mh = some res) : MC LM (d + 77) yX6_strips cX6_strips 7 (some .int) [.ref 0, .int v1, .int v2] mh (some (.int res.1)) res.2 := by
  refine MC_of 4 (by decide) rfl (fun X C hG => ?_)
  replace C : Cx X (d + 77) 7 cX6_strips RX6 (some .int) := C
  show Vw LM X (d + 77) 7 0 [some (.ref 0), some (.int v1), some (.int v2), none, none, none, none] [] mh
  unfold X6_strips at h
  refine V_iload_n (pc := 0) C dX6_strips_0 rfl rfl ?_
  refine V_i2l (pc := 1) C dX6_strips_1 ?_
  refine V_lconst (pc := 2) C (v := 0) dX6_strips_2 (by decide) ?_
  refine V_ldc2 (pc := 3) C dX6_strips_3 kc_X6_302 ?_
  refine V_callSi (pc := 6) (rest := []) C cs_X6_76 (c_X6_in (d + 76) (Int32.toInt64 v1) 0 6 mh) (by omega) (by decide) rfl rfl (Nat.le_of_ble_eq_true rfl) dX6_strips_6 ?_
  refine V_ifeq (pc := 9) (tgt := 22) C dX6_strips_9 (by decide) (fun hc1 => ?_) (fun hc1 => ?_)
  · have h := it_t h hc1
    refine V_bipush (pc := 22) C (v := (-2)) dX6_strips_22 (by decide) ?_
    exact V_iret (pc := 24) C (gdow h hG) dX6_strips_24
  · have h := it_f h hc1
    refine V_iload_n (pc := 12) C dX6_strips_12 rfl rfl ?_
    refine V_i2l (pc := 13) C dX6_strips_13 ?_
    refine V_lconst (pc := 14) C (v := 0) dX6_strips_14 (by decide) ?_
    refine V_lconst (pc := 15) C (v := 1) dX6_strips_15 (by decide) ?_
    refine V_callSi (pc := 16) (rest := []) C cs_X6_76 (c_X6_in (d + 76) (Int32.toInt64 v2) 0 1 mh) (by omega) (by decide) rfl rfl (Nat.le_of_ble_eq_true rfl) dX6_strips_16 ?_
    refine V_ifne (pc := 19) (tgt := 25) C dX6_strips_19 (by decide) (fun hc2 => ?_) (fun hc2 => ?_)
    · have h := it_f h hc2
      refine V_aload_n (pc := 25) C dX6_strips_25 rfl rfl ?_
      obtain ⟨q3, hq4, h⟩ := bnd_ok h
      refine V_callVv (pc := 26) (rest := []) C cs_X6_293 (c_X6_laysAside (d + 76) mh hq4) CF6.1 LO6 (by omega) (by decide) rfl rfl (Nat.le_of_ble_eq_true rfl) dX6_strips_26 ?_
      refine V_iconst (pc := 29) C (v := 0) dX6_strips_29 (by decide) ?_
      refine V_istore_n (pc := 30) C (lv' := [some (.ref 0), some (.int v1), some (.int v2), some (.int 0), none, none, none]) dX6_strips_30 rfl (by decide) (Nat.le_of_ble_eq_true rfl) rfl rfl ?_
      refine V_iconst (pc := 31) C (v := (-1)) dX6_strips_31 (by decide) ?_
      refine V_istore (pc := 32) C (lv' := [some (.ref 0), some (.int v1), some (.int v2), some (.int 0), some (.int (-1)), none, none]) dX6_strips_32 (by decide) (Nat.le_of_ble_eq_true rfl) rfl rfl ?_
      refine V_iconst (pc := 34) C (v := 0) dX6_strips_34 (by decide) ?_
      refine V_istore (pc := 35) C (lv' := [some (.ref 0), some (.int v1), some (.int v2), some (.int 0), some (.int (-1)), some (.int 0), none]) dX6_strips_35 (by decide) (Nat.le_of_ble_eq_true rfl) rfl rfl ?_
      refine wj3_ok (fun (v3_5 : Int32) (v4_6 : Int32) (mh7 : vMH) => Vw LM X (d + 77) 7 89 [some (.ref 0), some (.int v1), some (.int v2), some (.int v3_5), some (.int v4_6), none, none] [] mh7) h (fun v3_5 v4_6 mh7 h => ?_) (fun J8 hJ8 h => ?_)
      · refine V_iload_n (pc := 89) C dX6_strips_89 rfl rfl ?_
        refine V_ifne (pc := 90) (tgt := 97) C dX6_strips_90 (by decide) (fun hc9 => ?_) (fun hc9 => ?_)
        · have h := it_f h hc9
          refine V_iload (pc := 97) C dX6_strips_97 rfl ?_
          exact V_iret (pc := 99) C (gdow h hG) dX6_strips_99
        · have h := it_t h hc9
          refine V_iload_n (pc := 93) C dX6_strips_93 rfl rfl ?_
          refine V_goto (pc := 94) (tgt := 99) C dX6_strips_94 (by decide) ?_
          exact V_iret (pc := 99) C (gdow h hG) dX6_strips_99
      · refine lq4_ok (fun (v3_10 : Int32) (v4_11 : Int32) (v5_12 : Int32) (mh13 : vMH) => Vw LM X (d + 77) 7 37 [some (.ref 0), some (.int v1), some (.int v2), some (.int v3_10), some (.int v4_11), some (.int v5_12), none] [] mh13) h (fun rec14 hrec14 v3_10 v4_11 v5_12 mh13 h => ?_)
        unfold X6_strips_L37 at h
        refine V_iload (pc := 37) C dX6_strips_37 rfl ?_
        refine V_bipush (pc := 39) C (v := 63) dX6_strips_39 (by decide) ?_
        refine V_icmpgt (pc := 41) (tgt := 89) C dX6_strips_41 (by decide) (fun hc15 => ?_) (fun hc15 => ?_)
        · have h := it_t h hc15
          refine V_mask [true, true, true, true, true, false, true] (lv' := [some (.ref 0), some (.int v1), some (.int v2), some (.int v3_10), some (.int v4_11), none, none]) rfl ?_
          exact hJ8 v3_10 v4_11 mh13 h
        · have h := it_f h hc15
          refine V_iload (pc := 44) C dX6_strips_44 rfl ?_
          obtain ⟨q16, hq17, h⟩ := bnd_ok h
          refine V_callSi (pc := 46) (rest := []) C cs_X6_304 (c_X6_bitsOf (d + 76) v5_12 mh13 hq17) (by omega) (by decide) rfl rfl (Nat.le_of_ble_eq_true rfl) dX6_strips_46 ?_
          refine V_iload_n (pc := 49) C dX6_strips_49 rfl rfl ?_
          refine V_icmpne (pc := 50) (tgt := 83) C dX6_strips_50 (by decide) (fun hc18 => ?_) (fun hc18 => ?_)
          · have h := it_f h hc18
            refine V_iinc (pc := 83) C (v := (v5_12 + 1)) (lv' := [some (.ref 0), some (.int v1), some (.int v2), some (.int v3_10), some (.int v4_11), some (.int (v5_12 + 1)), none]) dX6_strips_83 rfl rfl (by decide) (Nat.le_of_ble_eq_true rfl) rfl rfl ?_
            refine V_goto (pc := 86) (tgt := 37) C dX6_strips_86 (by decide) ?_
            exact hrec14 v3_10 v4_11 (v5_12 + 1) mh13 h
          · have h := it_t h hc18
            refine V_aload_n (pc := 53) C dX6_strips_53 rfl rfl ?_
            refine V_iload (pc := 54) C dX6_strips_54 rfl ?_
            obtain ⟨q19, hq20, h⟩ := bnd_ok h
            refine V_callVv (pc := 56) (rest := []) C cs_X6_296 (c_X6_walksAll (d + 0) v5_12 mh13 hq20) CF6.1 LO6 (by omega) (by decide) rfl rfl (Nat.le_of_ble_eq_true rfl) dX6_strips_56 ?_
            refine V_aload_n (pc := 59) C dX6_strips_59 rfl rfl ?_
            refine V_getI (pc := 60) C CF6 fl_X6_263 LO6 (by decide) rfl dX6_strips_60 (v := (q19.1 0 33)) rfl ?_
            refine V_istore (pc := 63) C (lv' := [some (.ref 0), some (.int v1), some (.int v2), some (.int v3_10), some (.int v4_11), some (.int v5_12), some (.int (q19.1 0 33))]) dX6_strips_63 (by decide) (Nat.le_of_ble_eq_true rfl) rfl rfl ?_
            refine V_aload_n (pc := 65) C dX6_strips_65 rfl rfl ?_
            obtain ⟨q21, hq22, h⟩ := bnd_ok h
            refine V_callVv (pc := 66) (rest := []) C cs_X6_299 (c_X6_laysBack (d + 76) q19 hq22) CF6.1 LO6 (by omega) (by decide) rfl rfl (Nat.le_of_ble_eq_true rfl) dX6_strips_66 ?_
            refine V_iload (pc := 69) C dX6_strips_69 rfl ?_
            refine V_iload (pc := 71) C dX6_strips_71 rfl ?_
            refine V_icmple (pc := 73) (tgt := 83) C dX6_strips_73 (by decide) (fun hc23 => ?_) (fun hc23 => ?_)
            · have h := it_t h hc23
              refine V_iinc (pc := 83) C (v := (v5_12 + 1)) (lv' := [some (.ref 0), some (.int v1), some (.int v2), some (.int v3_10), some (.int v4_11), some (.int (v5_12 + 1)), some (.int (q19.1 0 33))]) dX6_strips_83 rfl rfl (by decide) (Nat.le_of_ble_eq_true rfl) rfl rfl ?_
              refine V_goto (pc := 86) (tgt := 37) C dX6_strips_86 (by decide) ?_
              refine V_mask [true, true, true, true, true, true, false] (lv' := [some (.ref 0), some (.int v1), some (.int v2), some (.int v3_10), some (.int v4_11), some (.int (v5_12 + 1)), none]) rfl ?_
              exact hrec14 v3_10 v4_11 (v5_12 + 1) q21 h
            · have h := it_f h hc23
              refine V_iload (pc := 76) C dX6_strips_76 rfl ?_
              refine V_istore_n (pc := 78) C (lv' := [some (.ref 0), some (.int v1), some (.int v2), some (.int v5_12), some (.int v4_11), some (.int v5_12), some (.int (q19.1 0 33))]) dX6_strips_78 rfl (by decide) (Nat.le_of_ble_eq_true rfl) rfl rfl ?_
              refine V_iload (pc := 79) C dX6_strips_79 rfl ?_
              refine V_istore (pc := 81) C (lv' := [some (.ref 0), some (.int v1), some (.int v2), some (.int v5_12), some (.int (q19.1 0 33)), some (.int v5_12), some (.int (q19.1 0 33))]) dX6_strips_81 (by decide) (Nat.le_of_ble_eq_true rfl) rfl rfl ?_
              refine V_iinc (pc := 83) C (v := (v5_12 + 1)) (lv' := [some (.ref 0), some (.int v1), some (.int v2), some (.int v5_12), some (.int (q19.1 0 33)), some (.int (v5_12 + 1)), some (.int (q19.1 0 33))]) dX6_strips_83 rfl rfl (by decide) (Nat.le_of_ble_eq_true rfl) rfl rfl ?_
              refine V_goto (pc := 86) (tgt := 37) C dX6_strips_86 (by decide) ?_
              refine V_mask [true, true, true, true, true, true, false] (lv' := [some (.ref 0), some (.int v1), some (.int v2), some (.int v5_12), some (.int (q19.1 0 33)), some (.int (v5_12 + 1)), none]) rfl ?_
              exact hrec14 v5_12 (q19.1 0 33) (v5_12 + 1) q21 h
    · have h := it_t h hc2
      refine V_bipush (pc := 22) C (v := (-2)) dX6_strips_22 (by decide) ?_
      exact V_iret (pc := 24) C (gdow h hG) dX6_strips_24
def X6_better (mh : vMH) : Option (Int32 × vMH) := ((X6_laysAside mh).bind fun q1 => ((X6_walksAll 63 q1).bind fun q3 => ((X6_laysBack q3).bind fun q5 => (wj1 (fun (s7 : Int32) => ((X6_walksAll 63 (v_up q5 0 14 s7)).bind fun q9 => ((X6_laysBack q9).bind fun q11 => (some (((q9.1 0 32) - (q3.1 0 32)), q11))))) fun J8 => (if 9 ≤ (q5.1 0 14) then (J8 9) else (J8 ((q5.1 0 14) + 1)))))))
set_option maxRecDepth 100000 in
set_option maxHeartbeats 8000000 in
theorem c_X6_better (d : Nat)  (mh : vMH) {res : Int32 × vMH} (h : X6_better mh = some res) : MC LM (d + 77) yX6_better cX6_better 3 (some .int) [.ref 0] mh (some (.int res.1)) res.2 := by
  refine MC_of 2 (by decide) rfl (fun X C hG => ?_)
  replace C : Cx X (d + 77) 3 cX6_better RX6 (some .int) := C
  show Vw LM X (d + 77) 3 0 [some (.ref 0), none, none] [] mh
  unfold X6_better at h
  refine V_aload_n (pc := 0) C dX6_better_0 rfl rfl ?_
  obtain ⟨q1, hq2, h⟩ := bnd_ok h
  refine V_callVv (pc := 1) (rest := []) C cs_X6_293 (c_X6_laysAside (d + 76) mh hq2) CF6.1 LO6 (by omega) (by decide) rfl rfl (Nat.le_of_ble_eq_true rfl) dX6_better_1 ?_
  refine V_aload_n (pc := 4) C dX6_better_4 rfl rfl ?_
  refine V_bipush (pc := 5) C (v := 63) dX6_better_5 (by decide) ?_
  obtain ⟨q3, hq4, h⟩ := bnd_ok h
  refine V_callVv (pc := 7) (rest := []) C cs_X6_296 (c_X6_walksAll (d + 0) 63 q1 hq4) CF6.1 LO6 (by omega) (by decide) rfl rfl (Nat.le_of_ble_eq_true rfl) dX6_better_7 ?_
  refine V_aload_n (pc := 10) C dX6_better_10 rfl rfl ?_
  refine V_getI (pc := 11) C CF6 fl_X6_260 LO6 (by decide) rfl dX6_better_11 (v := (q3.1 0 32)) rfl ?_
  refine V_istore_n (pc := 14) C (lv' := [some (.ref 0), some (.int (q3.1 0 32)), none]) dX6_better_14 rfl (by decide) (Nat.le_of_ble_eq_true rfl) rfl rfl ?_
  refine V_aload_n (pc := 15) C dX6_better_15 rfl rfl ?_
  obtain ⟨q5, hq6, h⟩ := bnd_ok h
  refine V_callVv (pc := 16) (rest := []) C cs_X6_299 (c_X6_laysBack (d + 76) q3 hq6) CF6.1 LO6 (by omega) (by decide) rfl rfl (Nat.le_of_ble_eq_true rfl) dX6_better_16 ?_
  refine V_aload_n (pc := 19) C dX6_better_19 rfl rfl ?_
  refine V_aload_n (pc := 20) C dX6_better_20 rfl rfl ?_
  refine V_getI (pc := 21) C CF6 fl_X6_35 LO6 (by decide) rfl dX6_better_21 (v := (q5.1 0 14)) rfl ?_
  refine V_bipush (pc := 24) C (v := 9) dX6_better_24 (by decide) ?_
  refine wj1_ok (fun (s7 : Int32) => Vw LM X (d + 77) 3 40 [some (.ref 0), some (.int (q3.1 0 32)), none] [.int s7, .ref 0] q5) h (fun s7 h => ?_) (fun J8 hJ8 h => ?_)
  · refine V_putI (pc := 40) C CF6 fl_X6_35 LO6 (by decide) rfl rfl rfl dX6_better_40 ?_
    refine V_aload_n (pc := 43) C dX6_better_43 rfl rfl ?_
    refine V_bipush (pc := 44) C (v := 63) dX6_better_44 (by decide) ?_
    obtain ⟨q9, hq10, h⟩ := bnd_ok h
    refine V_callVv (pc := 46) (rest := []) C cs_X6_296 (c_X6_walksAll (d + 0) 63 (v_up q5 0 14 s7) hq10) CF6.1 LO6 (by omega) (by decide) rfl rfl (Nat.le_of_ble_eq_true rfl) dX6_better_46 ?_
    refine V_aload_n (pc := 49) C dX6_better_49 rfl rfl ?_
    refine V_getI (pc := 50) C CF6 fl_X6_260 LO6 (by decide) rfl dX6_better_50 (v := (q9.1 0 32)) rfl ?_
    refine V_istore_n (pc := 53) C (lv' := [some (.ref 0), some (.int (q3.1 0 32)), some (.int (q9.1 0 32))]) dX6_better_53 rfl (by decide) (Nat.le_of_ble_eq_true rfl) rfl rfl ?_
    refine V_aload_n (pc := 54) C dX6_better_54 rfl rfl ?_
    obtain ⟨q11, hq12, h⟩ := bnd_ok h
    refine V_callVv (pc := 55) (rest := []) C cs_X6_299 (c_X6_laysBack (d + 76) q9 hq12) CF6.1 LO6 (by omega) (by decide) rfl rfl (Nat.le_of_ble_eq_true rfl) dX6_better_55 ?_
    refine V_iload_n (pc := 58) C dX6_better_58 rfl rfl ?_
    refine V_iload_n (pc := 59) C dX6_better_59 rfl rfl ?_
    refine V_isub (pc := 60) C dX6_better_60 ?_
    exact V_iret (pc := 61) C (gdow h hG) dX6_better_61
  · refine V_icmpge (pc := 26) (tgt := 38) C dX6_better_26 (by decide) (fun hc13 => ?_) (fun hc13 => ?_)
    · have h := it_t h hc13
      refine V_bipush (pc := 38) C (v := 9) dX6_better_38 (by decide) ?_
      exact hJ8 9 h
    · have h := it_f h hc13
      refine V_aload_n (pc := 29) C dX6_better_29 rfl rfl ?_
      refine V_getI (pc := 30) C CF6 fl_X6_35 LO6 (by decide) rfl dX6_better_30 (v := (q5.1 0 14)) rfl ?_
      refine V_iconst (pc := 33) C (v := 1) dX6_better_33 (by decide) ?_
      refine V_iadd (pc := 34) C dX6_better_34 ?_
      refine V_goto (pc := 35) (tgt := 40) C dX6_better_35 (by decide) ?_
      exact hJ8 ((q5.1 0 14) + 1) h
def X6_order (v1 : Int32) (v2 : Int32) (mh : vMH) : Option (Int32 × vMH) := (if (X6_in (Int32.toInt64 v1) 1 9) = 0 then (some ((-2), mh)) else (if (X6_in (Int32.toInt64 v2) 1 9) = 0 then (some ((-2), mh)) else ((X6_laysAside mh).bind fun q3 => ((X6_walksAll 63 (v_up q3 0 14 v1)).bind fun q5 => ((X6_walksAll 63 (v_up q5 0 14 v2)).bind fun q7 => ((X6_laysBack q7).bind fun q9 => (some (((q7.1 0 32) - (q5.1 0 32)), q9))))))))
set_option maxRecDepth 100000 in
set_option maxHeartbeats 8000000 in
theorem c_X6_order (d : Nat) (v1 : Int32) (v2 : Int32) (mh : vMH) {res : Int32 × vMH} (h : X6_order v1 v2 mh = some res) : MC LM (d + 77) yX6_order cX6_order 5 (some .int) [.ref 0, .int v1, .int v2] mh (some (.int res.1)) res.2 := by
  refine MC_of 2 (by decide) rfl (fun X C hG => ?_)
  replace C : Cx X (d + 77) 5 cX6_order RX6 (some .int) := C
  show Vw LM X (d + 77) 5 0 [some (.ref 0), some (.int v1), some (.int v2), none, none] [] mh
  unfold X6_order at h
  refine V_iload_n (pc := 0) C dX6_order_0 rfl rfl ?_
  refine V_i2l (pc := 1) C dX6_order_1 ?_
  refine V_lconst (pc := 2) C (v := 1) dX6_order_2 (by decide) ?_
  refine V_ldc2 (pc := 3) C dX6_order_3 kc_X6_100 ?_
  refine V_callSi (pc := 6) (rest := []) C cs_X6_76 (c_X6_in (d + 76) (Int32.toInt64 v1) 1 9 mh) (by omega) (by decide) rfl rfl (Nat.le_of_ble_eq_true rfl) dX6_order_6 ?_
  refine V_ifeq (pc := 9) (tgt := 24) C dX6_order_9 (by decide) (fun hc1 => ?_) (fun hc1 => ?_)
  · have h := it_t h hc1
    refine V_bipush (pc := 24) C (v := (-2)) dX6_order_24 (by decide) ?_
    exact V_iret (pc := 26) C (gdow h hG) dX6_order_26
  · have h := it_f h hc1
    refine V_iload_n (pc := 12) C dX6_order_12 rfl rfl ?_
    refine V_i2l (pc := 13) C dX6_order_13 ?_
    refine V_lconst (pc := 14) C (v := 1) dX6_order_14 (by decide) ?_
    refine V_ldc2 (pc := 15) C dX6_order_15 kc_X6_100 ?_
    refine V_callSi (pc := 18) (rest := []) C cs_X6_76 (c_X6_in (d + 76) (Int32.toInt64 v2) 1 9 mh) (by omega) (by decide) rfl rfl (Nat.le_of_ble_eq_true rfl) dX6_order_18 ?_
    refine V_ifne (pc := 21) (tgt := 27) C dX6_order_21 (by decide) (fun hc2 => ?_) (fun hc2 => ?_)
    · have h := it_f h hc2
      refine V_aload_n (pc := 27) C dX6_order_27 rfl rfl ?_
      obtain ⟨q3, hq4, h⟩ := bnd_ok h
      refine V_callVv (pc := 28) (rest := []) C cs_X6_293 (c_X6_laysAside (d + 76) mh hq4) CF6.1 LO6 (by omega) (by decide) rfl rfl (Nat.le_of_ble_eq_true rfl) dX6_order_28 ?_
      refine V_aload_n (pc := 31) C dX6_order_31 rfl rfl ?_
      refine V_iload_n (pc := 32) C dX6_order_32 rfl rfl ?_
      refine V_putI (pc := 33) C CF6 fl_X6_35 LO6 (by decide) rfl rfl rfl dX6_order_33 ?_
      refine V_aload_n (pc := 36) C dX6_order_36 rfl rfl ?_
      refine V_bipush (pc := 37) C (v := 63) dX6_order_37 (by decide) ?_
      obtain ⟨q5, hq6, h⟩ := bnd_ok h
      refine V_callVv (pc := 39) (rest := []) C cs_X6_296 (c_X6_walksAll (d + 0) 63 (v_up q3 0 14 v1) hq6) CF6.1 LO6 (by omega) (by decide) rfl rfl (Nat.le_of_ble_eq_true rfl) dX6_order_39 ?_
      refine V_aload_n (pc := 42) C dX6_order_42 rfl rfl ?_
      refine V_getI (pc := 43) C CF6 fl_X6_260 LO6 (by decide) rfl dX6_order_43 (v := (q5.1 0 32)) rfl ?_
      refine V_istore_n (pc := 46) C (lv' := [some (.ref 0), some (.int v1), some (.int v2), some (.int (q5.1 0 32)), none]) dX6_order_46 rfl (by decide) (Nat.le_of_ble_eq_true rfl) rfl rfl ?_
      refine V_aload_n (pc := 47) C dX6_order_47 rfl rfl ?_
      refine V_iload_n (pc := 48) C dX6_order_48 rfl rfl ?_
      refine V_putI (pc := 49) C CF6 fl_X6_35 LO6 (by decide) rfl rfl rfl dX6_order_49 ?_
      refine V_aload_n (pc := 52) C dX6_order_52 rfl rfl ?_
      refine V_bipush (pc := 53) C (v := 63) dX6_order_53 (by decide) ?_
      obtain ⟨q7, hq8, h⟩ := bnd_ok h
      refine V_callVv (pc := 55) (rest := []) C cs_X6_296 (c_X6_walksAll (d + 0) 63 (v_up q5 0 14 v2) hq8) CF6.1 LO6 (by omega) (by decide) rfl rfl (Nat.le_of_ble_eq_true rfl) dX6_order_55 ?_
      refine V_aload_n (pc := 58) C dX6_order_58 rfl rfl ?_
      refine V_getI (pc := 59) C CF6 fl_X6_260 LO6 (by decide) rfl dX6_order_59 (v := (q7.1 0 32)) rfl ?_
      refine V_iload_n (pc := 62) C dX6_order_62 rfl rfl ?_
      refine V_isub (pc := 63) C dX6_order_63 ?_
      refine V_istore (pc := 64) C (lv' := [some (.ref 0), some (.int v1), some (.int v2), some (.int (q5.1 0 32)), some (.int ((q7.1 0 32) - (q5.1 0 32)))]) dX6_order_64 (by decide) (Nat.le_of_ble_eq_true rfl) rfl rfl ?_
      refine V_aload_n (pc := 66) C dX6_order_66 rfl rfl ?_
      obtain ⟨q9, hq10, h⟩ := bnd_ok h
      refine V_callVv (pc := 67) (rest := []) C cs_X6_299 (c_X6_laysBack (d + 76) q7 hq10) CF6.1 LO6 (by omega) (by decide) rfl rfl (Nat.le_of_ble_eq_true rfl) dX6_order_67 ?_
      refine V_iload (pc := 70) C dX6_order_70 rfl ?_
      exact V_iret (pc := 72) C (gdow h hG) dX6_order_72
    · have h := it_t h hc2
      refine V_bipush (pc := 24) C (v := (-2)) dX6_order_24 (by decide) ?_
      exact V_iret (pc := 26) C (gdow h hG) dX6_order_26
def X6_off (v0 : Int32) (v1 : Int32) : Int32 := (if v1 ≤ v0 then (v0 - v1) else (v1 - v0))
set_option maxRecDepth 100000 in
set_option maxHeartbeats 8000000 in
theorem c_X6_off (d : Nat) (v0 : Int32) (v1 : Int32) (mh : vMH) : MC LM (d + 0) yX6_off cX6_off 2 (some .int) [.int v0, .int v1] mh (some (.int (X6_off v0 v1))) mh := by
  refine MC_of 0 (by decide) rfl (fun X C hG => ?_)
  replace C : Cx X (d + 0) 2 cX6_off RX6 (some .int) := C
  show Vw LM X (d + 0) 2 0 [some (.int v0), some (.int v1)] [] mh
  obtain ⟨res, h⟩ : ∃ res, X6_off v0 v1 = res := ⟨_, rfl⟩
  rw [h] at hG
  unfold X6_off at h
  refine V_iload_n (pc := 0) C dX6_off_0 rfl rfl ?_
  refine V_iload_n (pc := 1) C dX6_off_1 rfl rfl ?_
  refine V_icmpge (pc := 2) (tgt := 11) C dX6_off_2 (by decide) (fun hc1 => ?_) (fun hc1 => ?_)
  · have h := it_t h hc1
    refine V_iload_n (pc := 11) C dX6_off_11 rfl rfl ?_
    refine V_iload_n (pc := 12) C dX6_off_12 rfl rfl ?_
    refine V_isub (pc := 13) C dX6_off_13 ?_
    exact V_iret (pc := 14) C (gdt h hG) dX6_off_14
  · have h := it_f h hc1
    refine V_iload_n (pc := 5) C dX6_off_5 rfl rfl ?_
    refine V_iload_n (pc := 6) C dX6_off_6 rfl rfl ?_
    refine V_isub (pc := 7) C dX6_off_7 ?_
    refine V_goto (pc := 8) (tgt := 14) C dX6_off_8 (by decide) ?_
    exact V_iret (pc := 14) C (gdt h hG) dX6_off_14
def X6_pot_L30 (mh : vMH) (v3_6 : Int32) (J10 : Int32 → Option (Int32)) (rec16 : Int32 → Int32 → Option (Int32)) (v4_14 : Int32) (v5_15 : Int32) : Option (Int32) := (if (mh.1 0 11) ≤ v5_15 then (J10 v4_14) else (if (X6_lies v5_15 mh) = 0 then (chk (inb v5_15 12) (rec16 (v4_14 + ((3 * (X6_off ((mh.1 5 (jn v5_15)) / 8) (v3_6 / 8))) + (X6_off (jr (mh.1 5 (jn v5_15)) 8) (jr v3_6 8)))) (v5_15 + 1))) else (rec16 v4_14 (v5_15 + 1))))
def X6_pot_L18 (mh : vMH) (rec7 : Int32 → Int32 → Int32 → Option (Int32)) (v1_4 : Int32) (v2_5 : Int32) (v3_6 : Int32) : Option (Int32) := (if 48 ≤ v3_6 then (some v1_4) else (wj1 (fun (v4_9 : Int32) => (wj0 (rec7 v3_6 v4_9 (v3_6 + 1)) fun J11 => (if v2_5 = (-1) then J11 else (if v2_5 ≤ v4_9 then (rec7 v1_4 v2_5 (v3_6 + 1)) else J11)))) fun J10 => (lq2 4096 (X6_pot_L30 mh v3_6 J10) 0 0)))
def X6_pot (mh : vMH) : Option (Int32) := ((X6_bitsOf (mh.1 0 12)).bind fun q1 => (if q1 = 0 then (some (-1)) else (lq3 4096 (X6_pot_L18 mh) 0 (-1) 0)))
set_option maxRecDepth 100000 in
set_option maxHeartbeats 8000000 in
theorem c_X6_pot (d : Nat)  (mh : vMH) {res : Int32} (h : X6_pot mh = some res) : MC LM (d + 1) yX6_pot cX6_pot 6 (some .int) [.ref 0] mh (some (.int res)) mh := by
  refine MC_of 5 (by decide) rfl (fun X C hG => ?_)
  replace C : Cx X (d + 1) 6 cX6_pot RX6 (some .int) := C
  show Vw LM X (d + 1) 6 0 [some (.ref 0), none, none, none, none, none] [] mh
  unfold X6_pot at h
  refine V_aload_n (pc := 0) C dX6_pot_0 rfl rfl ?_
  refine V_getI (pc := 1) C CF6 fl_X6_80 LO6 (by decide) rfl dX6_pot_1 (v := (mh.1 0 12)) rfl ?_
  obtain ⟨q1, hq2, h⟩ := bnd_ok h
  refine V_callSi (pc := 4) (rest := []) C cs_X6_304 (c_X6_bitsOf (d + 0) (mh.1 0 12) mh hq2) (by omega) (by decide) rfl rfl (Nat.le_of_ble_eq_true rfl) dX6_pot_4 ?_
  refine V_ifne (pc := 7) (tgt := 12) C dX6_pot_7 (by decide) (fun hc3 => ?_) (fun hc3 => ?_)
  · have h := it_f h hc3
    refine V_iconst (pc := 12) C (v := 0) dX6_pot_12 (by decide) ?_
    refine V_istore_n (pc := 13) C (lv' := [some (.ref 0), some (.int 0), none, none, none, none]) dX6_pot_13 rfl (by decide) (Nat.le_of_ble_eq_true rfl) rfl rfl ?_
    refine V_iconst (pc := 14) C (v := (-1)) dX6_pot_14 (by decide) ?_
    refine V_istore_n (pc := 15) C (lv' := [some (.ref 0), some (.int 0), some (.int (-1)), none, none, none]) dX6_pot_15 rfl (by decide) (Nat.le_of_ble_eq_true rfl) rfl rfl ?_
    refine V_iconst (pc := 16) C (v := 0) dX6_pot_16 (by decide) ?_
    refine V_istore_n (pc := 17) C (lv' := [some (.ref 0), some (.int 0), some (.int (-1)), some (.int 0), none, none]) dX6_pot_17 rfl (by decide) (Nat.le_of_ble_eq_true rfl) rfl rfl ?_
    refine lq3_ok (fun (v1_4 : Int32) (v2_5 : Int32) (v3_6 : Int32) => Vw LM X (d + 1) 6 18 [some (.ref 0), some (.int v1_4), some (.int v2_5), some (.int v3_6), none, none] [] mh) h (fun rec7 hrec7 v1_4 v2_5 v3_6 h => ?_)
    unfold X6_pot_L18 at h
    refine V_iload_n (pc := 18) C dX6_pot_18 rfl rfl ?_
    refine V_bipush (pc := 19) C (v := 48) dX6_pot_19 (by decide) ?_
    refine V_icmpge (pc := 21) (tgt := 118) C dX6_pot_21 (by decide) (fun hc8 => ?_) (fun hc8 => ?_)
    · have h := it_t h hc8
      refine V_iload_n (pc := 118) C dX6_pot_118 rfl rfl ?_
      exact V_iret (pc := 119) C (gdo h hG) dX6_pot_119
    · have h := it_f h hc8
      refine V_iconst (pc := 24) C (v := 0) dX6_pot_24 (by decide) ?_
      refine V_istore (pc := 25) C (lv' := [some (.ref 0), some (.int v1_4), some (.int v2_5), some (.int v3_6), some (.int 0), none]) dX6_pot_25 (by decide) (Nat.le_of_ble_eq_true rfl) rfl rfl ?_
      refine V_iconst (pc := 27) C (v := 0) dX6_pot_27 (by decide) ?_
      refine V_istore (pc := 28) C (lv' := [some (.ref 0), some (.int v1_4), some (.int v2_5), some (.int v3_6), some (.int 0), some (.int 0)]) dX6_pot_28 (by decide) (Nat.le_of_ble_eq_true rfl) rfl rfl ?_
      refine wj1_ok (fun (v4_9 : Int32) => Vw LM X (d + 1) 6 96 [some (.ref 0), some (.int v1_4), some (.int v2_5), some (.int v3_6), some (.int v4_9), none] [] mh) h (fun v4_9 h => ?_) (fun J10 hJ10 h => ?_)
      · refine V_iload_n (pc := 96) C dX6_pot_96 rfl rfl ?_
        refine V_iconst (pc := 97) C (v := (-1)) dX6_pot_97 (by decide) ?_
        refine wj0_ok (Vw LM X (d + 1) 6 107 [some (.ref 0), some (.int v1_4), some (.int v2_5), some (.int v3_6), some (.int v4_9), none] [] mh) h (fun h => ?_) (fun J11 hJ11 h => ?_)
        · refine V_iload_n (pc := 107) C dX6_pot_107 rfl rfl ?_
          refine V_istore_n (pc := 108) C (lv' := [some (.ref 0), some (.int v3_6), some (.int v2_5), some (.int v3_6), some (.int v4_9), none]) dX6_pot_108 rfl (by decide) (Nat.le_of_ble_eq_true rfl) rfl rfl ?_
          refine V_iload (pc := 109) C dX6_pot_109 rfl ?_
          refine V_istore_n (pc := 111) C (lv' := [some (.ref 0), some (.int v3_6), some (.int v4_9), some (.int v3_6), some (.int v4_9), none]) dX6_pot_111 rfl (by decide) (Nat.le_of_ble_eq_true rfl) rfl rfl ?_
          refine V_iinc (pc := 112) C (v := (v3_6 + 1)) (lv' := [some (.ref 0), some (.int v3_6), some (.int v4_9), some (.int (v3_6 + 1)), some (.int v4_9), none]) dX6_pot_112 rfl rfl (by decide) (Nat.le_of_ble_eq_true rfl) rfl rfl ?_
          refine V_goto (pc := 115) (tgt := 18) C dX6_pot_115 (by decide) ?_
          refine V_mask [true, true, true, true, false, true] (lv' := [some (.ref 0), some (.int v3_6), some (.int v4_9), some (.int (v3_6 + 1)), none, none]) rfl ?_
          exact hrec7 v3_6 v4_9 (v3_6 + 1) h
        · refine V_icmpeq (pc := 98) (tgt := 107) C dX6_pot_98 (by decide) (fun hc12 => ?_) (fun hc12 => ?_)
          · have h := it_t h hc12
            exact hJ11 h
          · have h := it_f h hc12
            refine V_iload (pc := 101) C dX6_pot_101 rfl ?_
            refine V_iload_n (pc := 103) C dX6_pot_103 rfl rfl ?_
            refine V_icmpge (pc := 104) (tgt := 112) C dX6_pot_104 (by decide) (fun hc13 => ?_) (fun hc13 => ?_)
            · have h := it_t h hc13
              refine V_iinc (pc := 112) C (v := (v3_6 + 1)) (lv' := [some (.ref 0), some (.int v1_4), some (.int v2_5), some (.int (v3_6 + 1)), some (.int v4_9), none]) dX6_pot_112 rfl rfl (by decide) (Nat.le_of_ble_eq_true rfl) rfl rfl ?_
              refine V_goto (pc := 115) (tgt := 18) C dX6_pot_115 (by decide) ?_
              refine V_mask [true, true, true, true, false, true] (lv' := [some (.ref 0), some (.int v1_4), some (.int v2_5), some (.int (v3_6 + 1)), none, none]) rfl ?_
              exact hrec7 v1_4 v2_5 (v3_6 + 1) h
            · have h := it_f h hc13
              exact hJ11 h
      · refine lq2_ok (fun (v4_14 : Int32) (v5_15 : Int32) => Vw LM X (d + 1) 6 30 [some (.ref 0), some (.int v1_4), some (.int v2_5), some (.int v3_6), some (.int v4_14), some (.int v5_15)] [] mh) h (fun rec16 hrec16 v4_14 v5_15 h => ?_)
        unfold X6_pot_L30 at h
        refine V_iload (pc := 30) C dX6_pot_30 rfl ?_
        refine V_aload_n (pc := 32) C dX6_pot_32 rfl rfl ?_
        refine V_getI (pc := 33) C CF6 fl_X6_73 LO6 (by decide) rfl dX6_pot_33 (v := (mh.1 0 11)) rfl ?_
        refine V_icmpge (pc := 36) (tgt := 96) C dX6_pot_36 (by decide) (fun hc17 => ?_) (fun hc17 => ?_)
        · have h := it_t h hc17
          refine V_mask [true, true, true, true, true, false] (lv' := [some (.ref 0), some (.int v1_4), some (.int v2_5), some (.int v3_6), some (.int v4_14), none]) rfl ?_
          exact hJ10 v4_14 h
        · have h := it_f h hc17
          refine V_aload_n (pc := 39) C dX6_pot_39 rfl rfl ?_
          refine V_iload (pc := 40) C dX6_pot_40 rfl ?_
          refine V_callVi (pc := 42) (rest := []) C cs_X6_102 (c_X6_lies (d + 0) v5_15 mh) CF6.1 LO6 (by omega) (by decide) rfl rfl (Nat.le_of_ble_eq_true rfl) dX6_pot_42 ?_
          refine V_ifne (pc := 45) (tgt := 90) C dX6_pot_45 (by decide) (fun hc18 => ?_) (fun hc18 => ?_)
          · have h := it_f h hc18
            refine V_iinc (pc := 90) C (v := (v5_15 + 1)) (lv' := [some (.ref 0), some (.int v1_4), some (.int v2_5), some (.int v3_6), some (.int v4_14), some (.int (v5_15 + 1))]) dX6_pot_90 rfl rfl (by decide) (Nat.le_of_ble_eq_true rfl) rfl rfl ?_
            refine V_goto (pc := 93) (tgt := 30) C dX6_pot_93 (by decide) ?_
            exact hrec16 v4_14 (v5_15 + 1) h
          · have h := it_t h hc18
            refine V_iload (pc := 48) C dX6_pot_48 rfl ?_
            refine V_iconst (pc := 50) C (v := 3) dX6_pot_50 (by decide) ?_
            refine V_aload_n (pc := 51) C dX6_pot_51 rfl rfl ?_
            refine V_getR (pc := 52) C (r' := 5) CF6 fl_X6_26 LO6 (by decide) rfl dX6_pot_52 ?_
            refine V_iload (pc := 55) C dX6_pot_55 rfl ?_
            obtain ⟨hi19, h⟩ := chk_ok h
            refine V_iald (pc := 57) C LAM5 hi19 dX6_pot_57 (v := (mh.1 5 (jn v5_15))) rfl ?_
            refine V_bipush (pc := 58) C (v := 8) dX6_pot_58 (by decide) ?_
            refine V_idiv (pc := 60) C dX6_pot_60 (by decide) ?_
            refine V_iload_n (pc := 61) C dX6_pot_61 rfl rfl ?_
            refine V_bipush (pc := 62) C (v := 8) dX6_pot_62 (by decide) ?_
            refine V_idiv (pc := 64) C dX6_pot_64 (by decide) ?_
            refine V_callSi (pc := 65) (rest := [.int 3, .int v4_14]) C cs_X6_307 (c_X6_off (d + 0) ((mh.1 5 (jn v5_15)) / 8) (v3_6 / 8) mh) (by omega) (by decide) rfl rfl (Nat.le_of_ble_eq_true rfl) dX6_pot_65 ?_
            refine V_imul (pc := 68) C dX6_pot_68 ?_
            refine V_aload_n (pc := 69) C dX6_pot_69 rfl rfl ?_
            refine V_getR (pc := 70) C (r' := 5) CF6 fl_X6_26 LO6 (by decide) rfl dX6_pot_70 ?_
            refine V_iload (pc := 73) C dX6_pot_73 rfl ?_
            refine V_iald (pc := 75) C LAM5 hi19 dX6_pot_75 (v := (mh.1 5 (jn v5_15))) rfl ?_
            refine V_bipush (pc := 76) C (v := 8) dX6_pot_76 (by decide) ?_
            refine V_irem (pc := 78) C dX6_pot_78 (by decide) ?_
            refine V_iload_n (pc := 79) C dX6_pot_79 rfl rfl ?_
            refine V_bipush (pc := 80) C (v := 8) dX6_pot_80 (by decide) ?_
            refine V_irem (pc := 82) C dX6_pot_82 (by decide) ?_
            refine V_callSi (pc := 83) (rest := [.int (3 * (X6_off ((mh.1 5 (jn v5_15)) / 8) (v3_6 / 8))), .int v4_14]) C cs_X6_307 (c_X6_off (d + 0) (jr (mh.1 5 (jn v5_15)) 8) (jr v3_6 8) mh) (by omega) (by decide) rfl rfl (Nat.le_of_ble_eq_true rfl) dX6_pot_83 ?_
            refine V_iadd (pc := 86) C dX6_pot_86 ?_
            refine V_iadd (pc := 87) C dX6_pot_87 ?_
            refine V_istore (pc := 88) C (lv' := [some (.ref 0), some (.int v1_4), some (.int v2_5), some (.int v3_6), some (.int (v4_14 + ((3 * (X6_off ((mh.1 5 (jn v5_15)) / 8) (v3_6 / 8))) + (X6_off (jr (mh.1 5 (jn v5_15)) 8) (jr v3_6 8))))), some (.int v5_15)]) dX6_pot_88 (by decide) (Nat.le_of_ble_eq_true rfl) rfl rfl ?_
            refine V_iinc (pc := 90) C (v := (v5_15 + 1)) (lv' := [some (.ref 0), some (.int v1_4), some (.int v2_5), some (.int v3_6), some (.int (v4_14 + ((3 * (X6_off ((mh.1 5 (jn v5_15)) / 8) (v3_6 / 8))) + (X6_off (jr (mh.1 5 (jn v5_15)) 8) (jr v3_6 8))))), some (.int (v5_15 + 1))]) dX6_pot_90 rfl rfl (by decide) (Nat.le_of_ble_eq_true rfl) rfl rfl ?_
            refine V_goto (pc := 93) (tgt := 30) C dX6_pot_93 (by decide) ?_
            exact hrec16 (v4_14 + ((3 * (X6_off ((mh.1 5 (jn v5_15)) / 8) (v3_6 / 8))) + (X6_off (jr (mh.1 5 (jn v5_15)) 8) (jr v3_6 8)))) (v5_15 + 1) h
  · have h := it_t h hc3
    refine V_iconst (pc := 10) C (v := (-1)) dX6_pot_10 (by decide) ?_
    exact V_iret (pc := 11) C (gdo h hG) dX6_pot_11
def X6_came_L44 (v1 : Int32) (v2 : Int32) (mh : vMH) (J5 : Int32 → Option (Int32)) (rec9 : Int32 → Int32 → Int32 → Option (Int32)) (v3_6 : Int32) (v4_7 : Int32) (v5_8 : Int32) : Option (Int32) := (if v2 < v5_8 then (J5 v4_7) else (wj1 (fun (s11 : Int32) => (if (jr ((mh.1 0 15) - v5_8) 2) = 0 then (rec9 s11 (v4_7 + (-(X6_dragsAt (mh.1 4 (jn v1)) (mh.1 7 (jn v1)) s11))) (v5_8 + 1)) else (rec9 s11 (v4_7 + (X6_dragsAt (mh.1 4 (jn v1)) (mh.1 7 (jn v1)) s11)) (v5_8 + 1)))) fun J12 => (if 12 < v3_6 then (if 20 ≤ v3_6 then (J12 20) else (J12 (v3_6 + 1))) else (J12 (12 - v3_6)))))
def X6_came (v1 : Int32) (v2 : Int32) (mh : vMH) : Option (Int32) := (if (X6_isFind v1 mh) = 0 then (some (-2)) else (if (X6_in (Int32.toInt64 v2) 0 20) = 0 then (some (-2)) else (chk (inb v1 12) (wj1 (fun (v4_4 : Int32) => (some ((((mh.1 5 (jn v1)) / 8) * 8) + (X6_within v4_4 0 7)))) fun J5 => (lq3 4096 (X6_came_L44 v1 v2 mh J5) (mh.1 6 (jn v1)) (jr (mh.1 5 (jn v1)) 8) 1)))))
set_option maxRecDepth 100000 in
set_option maxHeartbeats 8000000 in
theorem c_X6_came (d : Nat) (v1 : Int32) (v2 : Int32) (mh : vMH) {res : Int32} (h : X6_came v1 v2 mh = some res) : MC LM (d + 2) yX6_came cX6_came 7 (some .int) [.ref 0, .int v1, .int v2] mh (some (.int res)) mh := by
  refine MC_of 4 (by decide) rfl (fun X C hG => ?_)
  replace C : Cx X (d + 2) 7 cX6_came RX6 (some .int) := C
  show Vw LM X (d + 2) 7 0 [some (.ref 0), some (.int v1), some (.int v2), none, none, none, none] [] mh
  unfold X6_came at h
  refine V_aload_n (pc := 0) C dX6_came_0 rfl rfl ?_
  refine V_iload_n (pc := 1) C dX6_came_1 rfl rfl ?_
  refine V_callVi (pc := 2) (rest := []) C cs_X6_95 (c_X6_isFind (d + 0) v1 mh) CF6.1 LO6 (by omega) (by decide) rfl rfl (Nat.le_of_ble_eq_true rfl) dX6_came_2 ?_
  refine V_ifeq (pc := 5) (tgt := 20) C dX6_came_5 (by decide) (fun hc1 => ?_) (fun hc1 => ?_)
  · have h := it_t h hc1
    refine V_bipush (pc := 20) C (v := (-2)) dX6_came_20 (by decide) ?_
    exact V_iret (pc := 22) C (gdo h hG) dX6_came_22
  · have h := it_f h hc1
    refine V_iload_n (pc := 8) C dX6_came_8 rfl rfl ?_
    refine V_i2l (pc := 9) C dX6_came_9 ?_
    refine V_lconst (pc := 10) C (v := 0) dX6_came_10 (by decide) ?_
    refine V_ldc2 (pc := 11) C dX6_came_11 kc_X6_98 ?_
    refine V_callSi (pc := 14) (rest := []) C cs_X6_76 (c_X6_in (d + 1) (Int32.toInt64 v2) 0 20 mh) (by omega) (by decide) rfl rfl (Nat.le_of_ble_eq_true rfl) dX6_came_14 ?_
    refine V_ifne (pc := 17) (tgt := 23) C dX6_came_17 (by decide) (fun hc2 => ?_) (fun hc2 => ?_)
    · have h := it_f h hc2
      refine V_aload_n (pc := 23) C dX6_came_23 rfl rfl ?_
      refine V_getR (pc := 24) C (r' := 6) CF6 fl_X6_29 LO6 (by decide) rfl dX6_came_24 ?_
      refine V_iload_n (pc := 27) C dX6_came_27 rfl rfl ?_
      obtain ⟨hi3, h⟩ := chk_ok h
      refine V_iald (pc := 28) C LAM6 hi3 dX6_came_28 (v := (mh.1 6 (jn v1))) rfl ?_
      refine V_istore_n (pc := 29) C (lv' := [some (.ref 0), some (.int v1), some (.int v2), some (.int (mh.1 6 (jn v1))), none, none, none]) dX6_came_29 rfl (by decide) (Nat.le_of_ble_eq_true rfl) rfl rfl ?_
      refine V_aload_n (pc := 30) C dX6_came_30 rfl rfl ?_
      refine V_getR (pc := 31) C (r' := 5) CF6 fl_X6_26 LO6 (by decide) rfl dX6_came_31 ?_
      refine V_iload_n (pc := 34) C dX6_came_34 rfl rfl ?_
      refine V_iald (pc := 35) C LAM5 hi3 dX6_came_35 (v := (mh.1 5 (jn v1))) rfl ?_
      refine V_bipush (pc := 36) C (v := 8) dX6_came_36 (by decide) ?_
      refine V_irem (pc := 38) C dX6_came_38 (by decide) ?_
      refine V_istore (pc := 39) C (lv' := [some (.ref 0), some (.int v1), some (.int v2), some (.int (mh.1 6 (jn v1))), some (.int (jr (mh.1 5 (jn v1)) 8)), none, none]) dX6_came_39 (by decide) (Nat.le_of_ble_eq_true rfl) rfl rfl ?_
      refine V_iconst (pc := 41) C (v := 1) dX6_came_41 (by decide) ?_
      refine V_istore (pc := 42) C (lv' := [some (.ref 0), some (.int v1), some (.int v2), some (.int (mh.1 6 (jn v1))), some (.int (jr (mh.1 5 (jn v1)) 8)), some (.int 1), none]) dX6_came_42 (by decide) (Nat.le_of_ble_eq_true rfl) rfl rfl ?_
      refine wj1_ok (fun (v4_4 : Int32) => Vw LM X (d + 2) 7 127 [some (.ref 0), some (.int v1), some (.int v2), none, some (.int v4_4), none, none] [] mh) h (fun v4_4 h => ?_) (fun J5 hJ5 h => ?_)
      · refine V_aload_n (pc := 127) C dX6_came_127 rfl rfl ?_
        refine V_getR (pc := 128) C (r' := 5) CF6 fl_X6_26 LO6 (by decide) rfl dX6_came_128 ?_
        refine V_iload_n (pc := 131) C dX6_came_131 rfl rfl ?_
        refine V_iald (pc := 132) C LAM5 hi3 dX6_came_132 (v := (mh.1 5 (jn v1))) rfl ?_
        refine V_bipush (pc := 133) C (v := 8) dX6_came_133 (by decide) ?_
        refine V_idiv (pc := 135) C dX6_came_135 (by decide) ?_
        refine V_bipush (pc := 136) C (v := 8) dX6_came_136 (by decide) ?_
        refine V_imul (pc := 138) C dX6_came_138 ?_
        refine V_iload (pc := 139) C dX6_came_139 rfl ?_
        refine V_iconst (pc := 141) C (v := 0) dX6_came_141 (by decide) ?_
        refine V_bipush (pc := 142) C (v := 7) dX6_came_142 (by decide) ?_
        refine V_callSi (pc := 144) (rest := [.int (((mh.1 5 (jn v1)) / 8) * 8)]) C cs_X6_251 (c_X6_within (d + 1) v4_4 0 7 mh) (by omega) (by decide) rfl rfl (Nat.le_of_ble_eq_true rfl) dX6_came_144 ?_
        refine V_iadd (pc := 147) C dX6_came_147 ?_
        exact V_iret (pc := 148) C (gdo h hG) dX6_came_148
      · refine lq3_ok (fun (v3_6 : Int32) (v4_7 : Int32) (v5_8 : Int32) => Vw LM X (d + 2) 7 44 [some (.ref 0), some (.int v1), some (.int v2), some (.int v3_6), some (.int v4_7), some (.int v5_8), none] [] mh) h (fun rec9 hrec9 v3_6 v4_7 v5_8 h => ?_)
        unfold X6_came_L44 at h
        refine V_iload (pc := 44) C dX6_came_44 rfl ?_
        refine V_iload_n (pc := 46) C dX6_came_46 rfl rfl ?_
        refine V_icmpgt (pc := 47) (tgt := 127) C dX6_came_47 (by decide) (fun hc10 => ?_) (fun hc10 => ?_)
        · have h := it_t h hc10
          refine V_mask [true, true, true, false, true, false, true] (lv' := [some (.ref 0), some (.int v1), some (.int v2), none, some (.int v4_7), none, none]) rfl ?_
          exact hJ5 v4_7 h
        · have h := it_f h hc10
          refine V_iload_n (pc := 50) C dX6_came_50 rfl rfl ?_
          refine V_bipush (pc := 51) C (v := 12) dX6_came_51 (by decide) ?_
          refine wj1_ok (fun (s11 : Int32) => Vw LM X (d + 2) 7 77 [some (.ref 0), some (.int v1), some (.int v2), some (.int v3_6), some (.int v4_7), some (.int v5_8), none] [.int s11] mh) h (fun s11 h => ?_) (fun J12 hJ12 h => ?_)
          · refine V_istore_n (pc := 77) C (lv' := [some (.ref 0), some (.int v1), some (.int v2), some (.int s11), some (.int v4_7), some (.int v5_8), none]) dX6_came_77 rfl (by decide) (Nat.le_of_ble_eq_true rfl) rfl rfl ?_
            refine V_aload_n (pc := 78) C dX6_came_78 rfl rfl ?_
            refine V_getR (pc := 79) C (r' := 4) CF6 fl_X6_23 LO6 (by decide) rfl dX6_came_79 ?_
            refine V_iload_n (pc := 82) C dX6_came_82 rfl rfl ?_
            refine V_iald (pc := 83) C LAM4 hi3 dX6_came_83 (v := (mh.1 4 (jn v1))) rfl ?_
            refine V_aload_n (pc := 84) C dX6_came_84 rfl rfl ?_
            refine V_getR (pc := 85) C (r' := 7) CF6 fl_X6_32 LO6 (by decide) rfl dX6_came_85 ?_
            refine V_iload_n (pc := 88) C dX6_came_88 rfl rfl ?_
            refine V_iald (pc := 89) C LAM7 hi3 dX6_came_89 (v := (mh.1 7 (jn v1))) rfl ?_
            refine V_iload_n (pc := 90) C dX6_came_90 rfl rfl ?_
            refine V_callSi (pc := 91) (rest := []) C cs_X6_118 (c_X6_dragsAt (d + 1) (mh.1 4 (jn v1)) (mh.1 7 (jn v1)) s11 mh) (by omega) (by decide) rfl rfl (Nat.le_of_ble_eq_true rfl) dX6_came_91 ?_
            refine V_istore (pc := 94) C (lv' := [some (.ref 0), some (.int v1), some (.int v2), some (.int s11), some (.int v4_7), some (.int v5_8), some (.int (X6_dragsAt (mh.1 4 (jn v1)) (mh.1 7 (jn v1)) s11))]) dX6_came_94 (by decide) (Nat.le_of_ble_eq_true rfl) rfl rfl ?_
            refine V_iload (pc := 96) C dX6_came_96 rfl ?_
            refine V_aload_n (pc := 98) C dX6_came_98 rfl rfl ?_
            refine V_getI (pc := 99) C CF6 fl_X6_276 LO6 (by decide) rfl dX6_came_99 (v := (mh.1 0 15)) rfl ?_
            refine V_iload (pc := 102) C dX6_came_102 rfl ?_
            refine V_isub (pc := 104) C dX6_came_104 ?_
            refine V_iconst (pc := 105) C (v := 2) dX6_came_105 (by decide) ?_
            refine V_irem (pc := 106) C dX6_came_106 (by decide) ?_
            refine V_ifne (pc := 107) (tgt := 116) C dX6_came_107 (by decide) (fun hc13 => ?_) (fun hc13 => ?_)
            · have h := it_f h hc13
              refine V_iload (pc := 116) C dX6_came_116 rfl ?_
              refine V_iadd (pc := 118) C dX6_came_118 ?_
              refine V_istore (pc := 119) C (lv' := [some (.ref 0), some (.int v1), some (.int v2), some (.int s11), some (.int (v4_7 + (X6_dragsAt (mh.1 4 (jn v1)) (mh.1 7 (jn v1)) s11))), some (.int v5_8), some (.int (X6_dragsAt (mh.1 4 (jn v1)) (mh.1 7 (jn v1)) s11))]) dX6_came_119 (by decide) (Nat.le_of_ble_eq_true rfl) rfl rfl ?_
              refine V_iinc (pc := 121) C (v := (v5_8 + 1)) (lv' := [some (.ref 0), some (.int v1), some (.int v2), some (.int s11), some (.int (v4_7 + (X6_dragsAt (mh.1 4 (jn v1)) (mh.1 7 (jn v1)) s11))), some (.int (v5_8 + 1)), some (.int (X6_dragsAt (mh.1 4 (jn v1)) (mh.1 7 (jn v1)) s11))]) dX6_came_121 rfl rfl (by decide) (Nat.le_of_ble_eq_true rfl) rfl rfl ?_
              refine V_goto (pc := 124) (tgt := 44) C dX6_came_124 (by decide) ?_
              refine V_mask [true, true, true, true, true, true, false] (lv' := [some (.ref 0), some (.int v1), some (.int v2), some (.int s11), some (.int (v4_7 + (X6_dragsAt (mh.1 4 (jn v1)) (mh.1 7 (jn v1)) s11))), some (.int (v5_8 + 1)), none]) rfl ?_
              exact hrec9 s11 (v4_7 + (X6_dragsAt (mh.1 4 (jn v1)) (mh.1 7 (jn v1)) s11)) (v5_8 + 1) h
            · have h := it_t h hc13
              refine V_iload (pc := 110) C dX6_came_110 rfl ?_
              refine V_ineg (pc := 112) C dX6_came_112 ?_
              refine V_goto (pc := 113) (tgt := 118) C dX6_came_113 (by decide) ?_
              refine V_iadd (pc := 118) C dX6_came_118 ?_
              refine V_istore (pc := 119) C (lv' := [some (.ref 0), some (.int v1), some (.int v2), some (.int s11), some (.int (v4_7 + (-(X6_dragsAt (mh.1 4 (jn v1)) (mh.1 7 (jn v1)) s11)))), some (.int v5_8), some (.int (X6_dragsAt (mh.1 4 (jn v1)) (mh.1 7 (jn v1)) s11))]) dX6_came_119 (by decide) (Nat.le_of_ble_eq_true rfl) rfl rfl ?_
              refine V_iinc (pc := 121) C (v := (v5_8 + 1)) (lv' := [some (.ref 0), some (.int v1), some (.int v2), some (.int s11), some (.int (v4_7 + (-(X6_dragsAt (mh.1 4 (jn v1)) (mh.1 7 (jn v1)) s11)))), some (.int (v5_8 + 1)), some (.int (X6_dragsAt (mh.1 4 (jn v1)) (mh.1 7 (jn v1)) s11))]) dX6_came_121 rfl rfl (by decide) (Nat.le_of_ble_eq_true rfl) rfl rfl ?_
              refine V_goto (pc := 124) (tgt := 44) C dX6_came_124 (by decide) ?_
              refine V_mask [true, true, true, true, true, true, false] (lv' := [some (.ref 0), some (.int v1), some (.int v2), some (.int s11), some (.int (v4_7 + (-(X6_dragsAt (mh.1 4 (jn v1)) (mh.1 7 (jn v1)) s11)))), some (.int (v5_8 + 1)), none]) rfl ?_
              exact hrec9 s11 (v4_7 + (-(X6_dragsAt (mh.1 4 (jn v1)) (mh.1 7 (jn v1)) s11))) (v5_8 + 1) h
          · refine V_icmpgt (pc := 53) (tgt := 63) C dX6_came_53 (by decide) (fun hc14 => ?_) (fun hc14 => ?_)
            · have h := it_t h hc14
              refine V_iload_n (pc := 63) C dX6_came_63 rfl rfl ?_
              refine V_bipush (pc := 64) C (v := 20) dX6_came_64 (by decide) ?_
              refine V_icmpge (pc := 66) (tgt := 75) C dX6_came_66 (by decide) (fun hc15 => ?_) (fun hc15 => ?_)
              · have h := it_t h hc15
                refine V_bipush (pc := 75) C (v := 20) dX6_came_75 (by decide) ?_
                exact hJ12 20 h
              · have h := it_f h hc15
                refine V_iload_n (pc := 69) C dX6_came_69 rfl rfl ?_
                refine V_iconst (pc := 70) C (v := 1) dX6_came_70 (by decide) ?_
                refine V_iadd (pc := 71) C dX6_came_71 ?_
                refine V_goto (pc := 72) (tgt := 77) C dX6_came_72 (by decide) ?_
                exact hJ12 (v3_6 + 1) h
            · have h := it_f h hc14
              refine V_bipush (pc := 56) C (v := 12) dX6_came_56 (by decide) ?_
              refine V_iload_n (pc := 58) C dX6_came_58 rfl rfl ?_
              refine V_isub (pc := 59) C dX6_came_59 ?_
              refine V_goto (pc := 60) (tgt := 77) C dX6_came_60 (by decide) ?_
              exact hJ12 (12 - v3_6) h
    · have h := it_t h hc2
      refine V_bipush (pc := 20) C (v := (-2)) dX6_came_20 (by decide) ?_
      exact V_iret (pc := 22) C (gdo h hG) dX6_came_22
def X6_dotsOf_L4 (v1 : Int32) (mh : vMH) (rec3 : Int32 → Int32 → Option (Int32)) (v2_1 : Int32) (v3_2 : Int32) : Option (Int32) := (if (mh.1 0 11) ≤ v3_2 then (some v2_1) else (wj0 (rec3 (v2_1 + 0) (v3_2 + 1)) fun J5 => (if (X6_lies v3_2 mh) = 0 then (chk (inb v3_2 12) (if (mh.1 5 (jn v3_2)) = v1 then (rec3 (v2_1 + 1) (v3_2 + 1)) else J5)) else J5)))
def X6_dotsOf (v1 : Int32) (mh : vMH) : Option (Int32) := (lq2 4096 (X6_dotsOf_L4 v1 mh) 0 0)
set_option maxRecDepth 100000 in
set_option maxHeartbeats 8000000 in
theorem c_X6_dotsOf (d : Nat) (v1 : Int32) (mh : vMH) {res : Int32} (h : X6_dotsOf v1 mh = some res) : MC LM (d + 1) yX6_dotsOf cX6_dotsOf 4 (some .int) [.ref 0, .int v1] mh (some (.int res)) mh := by
  refine MC_of 2 (by decide) rfl (fun X C hG => ?_)
  replace C : Cx X (d + 1) 4 cX6_dotsOf RX6 (some .int) := C
  show Vw LM X (d + 1) 4 0 [some (.ref 0), some (.int v1), none, none] [] mh
  unfold X6_dotsOf at h
  refine V_iconst (pc := 0) C (v := 0) dX6_dotsOf_0 (by decide) ?_
  refine V_istore_n (pc := 1) C (lv' := [some (.ref 0), some (.int v1), some (.int 0), none]) dX6_dotsOf_1 rfl (by decide) (Nat.le_of_ble_eq_true rfl) rfl rfl ?_
  refine V_iconst (pc := 2) C (v := 0) dX6_dotsOf_2 (by decide) ?_
  refine V_istore_n (pc := 3) C (lv' := [some (.ref 0), some (.int v1), some (.int 0), some (.int 0)]) dX6_dotsOf_3 rfl (by decide) (Nat.le_of_ble_eq_true rfl) rfl rfl ?_
  refine lq2_ok (fun (v2_1 : Int32) (v3_2 : Int32) => Vw LM X (d + 1) 4 4 [some (.ref 0), some (.int v1), some (.int v2_1), some (.int v3_2)] [] mh) h (fun rec3 hrec3 v2_1 v3_2 h => ?_)
  unfold X6_dotsOf_L4 at h
  refine V_iload_n (pc := 4) C dX6_dotsOf_4 rfl rfl ?_
  refine V_aload_n (pc := 5) C dX6_dotsOf_5 rfl rfl ?_
  refine V_getI (pc := 6) C CF6 fl_X6_73 LO6 (by decide) rfl dX6_dotsOf_6 (v := (mh.1 0 11)) rfl ?_
  refine V_icmpge (pc := 9) (tgt := 44) C dX6_dotsOf_9 (by decide) (fun hc4 => ?_) (fun hc4 => ?_)
  · have h := it_t h hc4
    refine V_iload_n (pc := 44) C dX6_dotsOf_44 rfl rfl ?_
    exact V_iret (pc := 45) C (gdo h hG) dX6_dotsOf_45
  · have h := it_f h hc4
    refine V_iload_n (pc := 12) C dX6_dotsOf_12 rfl rfl ?_
    refine V_aload_n (pc := 13) C dX6_dotsOf_13 rfl rfl ?_
    refine V_iload_n (pc := 14) C dX6_dotsOf_14 rfl rfl ?_
    refine V_callVi (pc := 15) (rest := [.int v2_1]) C cs_X6_102 (c_X6_lies (d + 0) v3_2 mh) CF6.1 LO6 (by omega) (by decide) rfl rfl (Nat.le_of_ble_eq_true rfl) dX6_dotsOf_15 ?_
    refine wj0_ok (Vw LM X (d + 1) 4 35 [some (.ref 0), some (.int v1), some (.int v2_1), some (.int v3_2)] [.int v2_1] mh) h (fun h => ?_) (fun J5 hJ5 h => ?_)
    · refine V_iconst (pc := 35) C (v := 0) dX6_dotsOf_35 (by decide) ?_
      refine V_iadd (pc := 36) C dX6_dotsOf_36 ?_
      refine V_istore_n (pc := 37) C (lv' := [some (.ref 0), some (.int v1), some (.int (v2_1 + 0)), some (.int v3_2)]) dX6_dotsOf_37 rfl (by decide) (Nat.le_of_ble_eq_true rfl) rfl rfl ?_
      refine V_iinc (pc := 38) C (v := (v3_2 + 1)) (lv' := [some (.ref 0), some (.int v1), some (.int (v2_1 + 0)), some (.int (v3_2 + 1))]) dX6_dotsOf_38 rfl rfl (by decide) (Nat.le_of_ble_eq_true rfl) rfl rfl ?_
      refine V_goto (pc := 41) (tgt := 4) C dX6_dotsOf_41 (by decide) ?_
      exact hrec3 (v2_1 + 0) (v3_2 + 1) h
    · refine V_ifne (pc := 18) (tgt := 35) C dX6_dotsOf_18 (by decide) (fun hc6 => ?_) (fun hc6 => ?_)
      · have h := it_f h hc6
        exact hJ5 h
      · have h := it_t h hc6
        refine V_aload_n (pc := 21) C dX6_dotsOf_21 rfl rfl ?_
        refine V_getR (pc := 22) C (r' := 5) CF6 fl_X6_26 LO6 (by decide) rfl dX6_dotsOf_22 ?_
        refine V_iload_n (pc := 25) C dX6_dotsOf_25 rfl rfl ?_
        obtain ⟨hi7, h⟩ := chk_ok h
        refine V_iald (pc := 26) C LAM5 hi7 dX6_dotsOf_26 (v := (mh.1 5 (jn v3_2))) rfl ?_
        refine V_iload_n (pc := 27) C dX6_dotsOf_27 rfl rfl ?_
        refine V_icmpne (pc := 28) (tgt := 35) C dX6_dotsOf_28 (by decide) (fun hc8 => ?_) (fun hc8 => ?_)
        · have h := it_f h hc8
          exact hJ5 h
        · have h := it_t h hc8
          refine V_iconst (pc := 31) C (v := 1) dX6_dotsOf_31 (by decide) ?_
          refine V_goto (pc := 32) (tgt := 36) C dX6_dotsOf_32 (by decide) ?_
          refine V_iadd (pc := 36) C dX6_dotsOf_36 ?_
          refine V_istore_n (pc := 37) C (lv' := [some (.ref 0), some (.int v1), some (.int (v2_1 + 1)), some (.int v3_2)]) dX6_dotsOf_37 rfl (by decide) (Nat.le_of_ble_eq_true rfl) rfl rfl ?_
          refine V_iinc (pc := 38) C (v := (v3_2 + 1)) (lv' := [some (.ref 0), some (.int v1), some (.int (v2_1 + 1)), some (.int (v3_2 + 1))]) dX6_dotsOf_38 rfl rfl (by decide) (Nat.le_of_ble_eq_true rfl) rfl rfl ?_
          refine V_goto (pc := 41) (tgt := 4) C dX6_dotsOf_41 (by decide) ?_
          exact hrec3 (v2_1 + 1) (v3_2 + 1) h
def X6_dots (v1 : Int32) (mh : vMH) : Option (Int32) := (if (X6_isCell v1) = 0 then (some (-2)) else ((X6_dotsOf v1 mh).bind fun q2 => (some q2)))
set_option maxRecDepth 100000 in
set_option maxHeartbeats 8000000 in
theorem c_X6_dots (d : Nat) (v1 : Int32) (mh : vMH) {res : Int32} (h : X6_dots v1 mh = some res) : MC LM (d + 2) yX6_dots cX6_dots 2 (some .int) [.ref 0, .int v1] mh (some (.int res)) mh := by
  refine MC_of 0 (by decide) rfl (fun X C hG => ?_)
  replace C : Cx X (d + 2) 2 cX6_dots RX6 (some .int) := C
  show Vw LM X (d + 2) 2 0 [some (.ref 0), some (.int v1)] [] mh
  unfold X6_dots at h
  refine V_iload_n (pc := 0) C dX6_dots_0 rfl rfl ?_
  refine V_callSi (pc := 1) (rest := []) C cs_X6_87 (c_X6_isCell (d + 0) v1 mh) (by omega) (by decide) rfl rfl (Nat.le_of_ble_eq_true rfl) dX6_dots_1 ?_
  refine V_ifeq (pc := 4) (tgt := 15) C dX6_dots_4 (by decide) (fun hc1 => ?_) (fun hc1 => ?_)
  · have h := it_t h hc1
    refine V_bipush (pc := 15) C (v := (-2)) dX6_dots_15 (by decide) ?_
    exact V_iret (pc := 17) C (gdo h hG) dX6_dots_17
  · have h := it_f h hc1
    refine V_aload_n (pc := 7) C dX6_dots_7 rfl rfl ?_
    refine V_iload_n (pc := 8) C dX6_dots_8 rfl rfl ?_
    obtain ⟨q2, hq3, h⟩ := bnd_ok h
    refine V_callVi (pc := 9) (rest := []) C cs_X6_310 (c_X6_dotsOf (d + 0) v1 mh hq3) CF6.1 LO6 (by omega) (by decide) rfl rfl (Nat.le_of_ble_eq_true rfl) dX6_dots_9 ?_
    refine V_goto (pc := 12) (tgt := 17) C dX6_dots_12 (by decide) ?_
    exact V_iret (pc := 17) C (gdo h hG) dX6_dots_17
def X6_thick_L6 (mh : vMH) (rec4 : Int32 → Int32 → Int32 → Option (Int32)) (v1_1 : Int32) (v2_2 : Int32) (v3_3 : Int32) : Option (Int32) := (if 48 ≤ v3_3 then (some v1_1) else ((X6_dotsOf v3_3 mh).bind fun q6 => (if q6 ≤ v2_2 then (rec4 v1_1 v2_2 (v3_3 + 1)) else ((X6_dotsOf v3_3 mh).bind fun q9 => (rec4 v3_3 q9 (v3_3 + 1))))))
def X6_thick (mh : vMH) : Option (Int32) := (lq3 4096 (X6_thick_L6 mh) (-1) 0 0)
set_option maxRecDepth 100000 in
set_option maxHeartbeats 8000000 in
theorem c_X6_thick (d : Nat)  (mh : vMH) {res : Int32} (h : X6_thick mh = some res) : MC LM (d + 2) yX6_thick cX6_thick 4 (some .int) [.ref 0] mh (some (.int res)) mh := by
  refine MC_of 3 (by decide) rfl (fun X C hG => ?_)
  replace C : Cx X (d + 2) 4 cX6_thick RX6 (some .int) := C
  show Vw LM X (d + 2) 4 0 [some (.ref 0), none, none, none] [] mh
  unfold X6_thick at h
  refine V_iconst (pc := 0) C (v := (-1)) dX6_thick_0 (by decide) ?_
  refine V_istore_n (pc := 1) C (lv' := [some (.ref 0), some (.int (-1)), none, none]) dX6_thick_1 rfl (by decide) (Nat.le_of_ble_eq_true rfl) rfl rfl ?_
  refine V_iconst (pc := 2) C (v := 0) dX6_thick_2 (by decide) ?_
  refine V_istore_n (pc := 3) C (lv' := [some (.ref 0), some (.int (-1)), some (.int 0), none]) dX6_thick_3 rfl (by decide) (Nat.le_of_ble_eq_true rfl) rfl rfl ?_
  refine V_iconst (pc := 4) C (v := 0) dX6_thick_4 (by decide) ?_
  refine V_istore_n (pc := 5) C (lv' := [some (.ref 0), some (.int (-1)), some (.int 0), some (.int 0)]) dX6_thick_5 rfl (by decide) (Nat.le_of_ble_eq_true rfl) rfl rfl ?_
  refine lq3_ok (fun (v1_1 : Int32) (v2_2 : Int32) (v3_3 : Int32) => Vw LM X (d + 2) 4 6 [some (.ref 0), some (.int v1_1), some (.int v2_2), some (.int v3_3)] [] mh) h (fun rec4 hrec4 v1_1 v2_2 v3_3 h => ?_)
  unfold X6_thick_L6 at h
  refine V_iload_n (pc := 6) C dX6_thick_6 rfl rfl ?_
  refine V_bipush (pc := 7) C (v := 48) dX6_thick_7 (by decide) ?_
  refine V_icmpge (pc := 9) (tgt := 35) C dX6_thick_9 (by decide) (fun hc5 => ?_) (fun hc5 => ?_)
  · have h := it_t h hc5
    refine V_iload_n (pc := 35) C dX6_thick_35 rfl rfl ?_
    exact V_iret (pc := 36) C (gdo h hG) dX6_thick_36
  · have h := it_f h hc5
    refine V_aload_n (pc := 12) C dX6_thick_12 rfl rfl ?_
    refine V_iload_n (pc := 13) C dX6_thick_13 rfl rfl ?_
    obtain ⟨q6, hq7, h⟩ := bnd_ok h
    refine V_callVi (pc := 14) (rest := []) C cs_X6_310 (c_X6_dotsOf (d + 0) v3_3 mh hq7) CF6.1 LO6 (by omega) (by decide) rfl rfl (Nat.le_of_ble_eq_true rfl) dX6_thick_14 ?_
    refine V_iload_n (pc := 17) C dX6_thick_17 rfl rfl ?_
    refine V_icmple (pc := 18) (tgt := 29) C dX6_thick_18 (by decide) (fun hc8 => ?_) (fun hc8 => ?_)
    · have h := it_t h hc8
      refine V_iinc (pc := 29) C (v := (v3_3 + 1)) (lv' := [some (.ref 0), some (.int v1_1), some (.int v2_2), some (.int (v3_3 + 1))]) dX6_thick_29 rfl rfl (by decide) (Nat.le_of_ble_eq_true rfl) rfl rfl ?_
      refine V_goto (pc := 32) (tgt := 6) C dX6_thick_32 (by decide) ?_
      exact hrec4 v1_1 v2_2 (v3_3 + 1) h
    · have h := it_f h hc8
      refine V_iload_n (pc := 21) C dX6_thick_21 rfl rfl ?_
      refine V_istore_n (pc := 22) C (lv' := [some (.ref 0), some (.int v3_3), some (.int v2_2), some (.int v3_3)]) dX6_thick_22 rfl (by decide) (Nat.le_of_ble_eq_true rfl) rfl rfl ?_
      refine V_aload_n (pc := 23) C dX6_thick_23 rfl rfl ?_
      refine V_iload_n (pc := 24) C dX6_thick_24 rfl rfl ?_
      obtain ⟨q9, hq10, h⟩ := bnd_ok h
      refine V_callVi (pc := 25) (rest := []) C cs_X6_310 (c_X6_dotsOf (d + 0) v3_3 mh hq10) CF6.1 LO6 (by omega) (by decide) rfl rfl (Nat.le_of_ble_eq_true rfl) dX6_thick_25 ?_
      refine V_istore_n (pc := 28) C (lv' := [some (.ref 0), some (.int v3_3), some (.int q9), some (.int v3_3)]) dX6_thick_28 rfl (by decide) (Nat.le_of_ble_eq_true rfl) rfl rfl ?_
      refine V_iinc (pc := 29) C (v := (v3_3 + 1)) (lv' := [some (.ref 0), some (.int v3_3), some (.int q9), some (.int (v3_3 + 1))]) dX6_thick_29 rfl rfl (by decide) (Nat.le_of_ble_eq_true rfl) rfl rfl ?_
      refine V_goto (pc := 32) (tgt := 6) C dX6_thick_32 (by decide) ?_
      exact hrec4 v3_3 q9 (v3_3 + 1) h
def X6_isSheet (v0 : Int32) : Int32 := (X6_in (Int32.toInt64 v0) 0 3)
set_option maxRecDepth 100000 in
set_option maxHeartbeats 8000000 in
theorem c_X6_isSheet (d : Nat) (v0 : Int32) (mh : vMH) : MC LM (d + 1) yX6_isSheet cX6_isSheet 1 (some .boolean) [.int v0] mh (some (.int (X6_isSheet v0))) mh := by
  refine MC_of 0 (by decide) rfl (fun X C hG => ?_)
  replace C : Cx X (d + 1) 1 cX6_isSheet RX6 (some .boolean) := C
  show Vw LM X (d + 1) 1 0 [some (.int v0)] [] mh
  obtain ⟨res, h⟩ : ∃ res, X6_isSheet v0 = res := ⟨_, rfl⟩
  rw [h] at hG
  unfold X6_isSheet at h
  refine V_iload_n (pc := 0) C dX6_isSheet_0 rfl rfl ?_
  refine V_i2l (pc := 1) C dX6_isSheet_1 ?_
  refine V_lconst (pc := 2) C (v := 0) dX6_isSheet_2 (by decide) ?_
  refine V_ldc2 (pc := 3) C dX6_isSheet_3 kc_X6_344 ?_
  refine V_callSi (pc := 6) (rest := []) C cs_X6_76 (c_X6_in (d + 0) (Int32.toInt64 v0) 0 3 mh) (by omega) (by decide) rfl rfl (Nat.le_of_ble_eq_true rfl) dX6_isSheet_6 ?_
  exact V_zret (pc := 9) C (z_X6_in (Int32.toInt64 v0) 0 3) (gdt h hG) dX6_isSheet_9
theorem z_X6_isSheet (v0 : Int32) : narrow .boolean (.int (X6_isSheet v0)) = .int (X6_isSheet v0) := by
  unfold X6_isSheet
  (repeat' split) <;> first | rfl | exact z_X6_in _ _ _
def X6_judge_L40 (v1 : Int32) (mh : vMH) (J7 : Int32 → Int32 → Option (Int32)) (rec12 : Int32 → Int32 → Int32 → Option (Int32)) (v3_9 : Int32) (v4_10 : Int32) (v5_11 : Int32) : Option (Int32) := (if (mh.1 14 (jn v1)) ≤ v5_11 then (J7 v3_9 v4_10) else (chk (inb ((40 * v1) + v5_11) 160) ((X6_dotsOf v5_11 mh).bind fun q15 => (if (mh.1 15 (jn ((40 * v1) + v5_11))) = q15 then (rec12 v3_9 v4_10 (v5_11 + 1)) else (wj1 (fun (s18 : Int32) => (rec12 s18 (v4_10 + 1) (v5_11 + 1))) fun J19 => (if v3_9 = (-1) then (J19 v5_11) else (J19 v3_9)))))))
def X6_judge (v1 : Int32) (v2 : Int32) (mh : vMH) : Option (Int32) := (if (X6_isSheet v1) = 0 then (some (-2)) else (if (X6_in (Int32.toInt64 v2) 0 1) = 0 then (some (-2)) else (chk (inb v1 4) (if (mh.1 12 (jn v1)) = 0 then (some (-11)) else (wj2 (fun (v3_5 : Int32) (v4_6 : Int32) => (if v2 = 0 then (some v3_5) else (some v4_6))) fun J7 => (lq3 4096 (X6_judge_L40 v1 mh J7) (-1) 0 0))))))
set_option maxRecDepth 100000 in
set_option maxHeartbeats 8000000 in
theorem c_X6_judge (d : Nat) (v1 : Int32) (v2 : Int32) (mh : vMH) {res : Int32} (h : X6_judge v1 v2 mh = some res) : MC LM (d + 2) yX6_judge cX6_judge 6 (some .int) [.ref 0, .int v1, .int v2] mh (some (.int res)) mh := by
  refine MC_of 3 (by decide) rfl (fun X C hG => ?_)
  replace C : Cx X (d + 2) 6 cX6_judge RX6 (some .int) := C
  show Vw LM X (d + 2) 6 0 [some (.ref 0), some (.int v1), some (.int v2), none, none, none] [] mh
  unfold X6_judge at h
  refine V_iload_n (pc := 0) C dX6_judge_0 rfl rfl ?_
  refine V_callSi (pc := 1) (rest := []) C cs_X6_313 (c_X6_isSheet (d + 0) v1 mh) (by omega) (by decide) rfl rfl (Nat.le_of_ble_eq_true rfl) dX6_judge_1 ?_
  refine V_ifeq (pc := 4) (tgt := 17) C dX6_judge_4 (by decide) (fun hc1 => ?_) (fun hc1 => ?_)
  · have h := it_t h hc1
    refine V_bipush (pc := 17) C (v := (-2)) dX6_judge_17 (by decide) ?_
    exact V_iret (pc := 19) C (gdo h hG) dX6_judge_19
  · have h := it_f h hc1
    refine V_iload_n (pc := 7) C dX6_judge_7 rfl rfl ?_
    refine V_i2l (pc := 8) C dX6_judge_8 ?_
    refine V_lconst (pc := 9) C (v := 0) dX6_judge_9 (by decide) ?_
    refine V_lconst (pc := 10) C (v := 1) dX6_judge_10 (by decide) ?_
    refine V_callSi (pc := 11) (rest := []) C cs_X6_76 (c_X6_in (d + 1) (Int32.toInt64 v2) 0 1 mh) (by omega) (by decide) rfl rfl (Nat.le_of_ble_eq_true rfl) dX6_judge_11 ?_
    refine V_ifne (pc := 14) (tgt := 20) C dX6_judge_14 (by decide) (fun hc2 => ?_) (fun hc2 => ?_)
    · have h := it_f h hc2
      refine V_aload_n (pc := 20) C dX6_judge_20 rfl rfl ?_
      refine V_getR (pc := 21) C (r' := 12) CF6 fl_X6_53 LO6 (by decide) rfl dX6_judge_21 ?_
      refine V_iload_n (pc := 24) C dX6_judge_24 rfl rfl ?_
      obtain ⟨hi3, h⟩ := chk_ok h
      refine V_zald (pc := 25) C LAM12 hi3 dX6_judge_25 (v := (mh.1 12 (jn v1))) rfl ?_
      refine V_ifne (pc := 26) (tgt := 32) C dX6_judge_26 (by decide) (fun hc4 => ?_) (fun hc4 => ?_)
      · have h := it_f h hc4
        refine V_iconst (pc := 32) C (v := (-1)) dX6_judge_32 (by decide) ?_
        refine V_istore_n (pc := 33) C (lv' := [some (.ref 0), some (.int v1), some (.int v2), some (.int (-1)), none, none]) dX6_judge_33 rfl (by decide) (Nat.le_of_ble_eq_true rfl) rfl rfl ?_
        refine V_iconst (pc := 34) C (v := 0) dX6_judge_34 (by decide) ?_
        refine V_istore (pc := 35) C (lv' := [some (.ref 0), some (.int v1), some (.int v2), some (.int (-1)), some (.int 0), none]) dX6_judge_35 (by decide) (Nat.le_of_ble_eq_true rfl) rfl rfl ?_
        refine V_iconst (pc := 37) C (v := 0) dX6_judge_37 (by decide) ?_
        refine V_istore (pc := 38) C (lv' := [some (.ref 0), some (.int v1), some (.int v2), some (.int (-1)), some (.int 0), some (.int 0)]) dX6_judge_38 (by decide) (Nat.le_of_ble_eq_true rfl) rfl rfl ?_
        refine wj2_ok (fun (v3_5 : Int32) (v4_6 : Int32) => Vw LM X (d + 2) 6 93 [some (.ref 0), some (.int v1), some (.int v2), some (.int v3_5), some (.int v4_6), none] [] mh) h (fun v3_5 v4_6 h => ?_) (fun J7 hJ7 h => ?_)
        · refine V_iload_n (pc := 93) C dX6_judge_93 rfl rfl ?_
          refine V_ifne (pc := 94) (tgt := 101) C dX6_judge_94 (by decide) (fun hc8 => ?_) (fun hc8 => ?_)
          · have h := it_f h hc8
            refine V_iload (pc := 101) C dX6_judge_101 rfl ?_
            exact V_iret (pc := 103) C (gdo h hG) dX6_judge_103
          · have h := it_t h hc8
            refine V_iload_n (pc := 97) C dX6_judge_97 rfl rfl ?_
            refine V_goto (pc := 98) (tgt := 103) C dX6_judge_98 (by decide) ?_
            exact V_iret (pc := 103) C (gdo h hG) dX6_judge_103
        · refine lq3_ok (fun (v3_9 : Int32) (v4_10 : Int32) (v5_11 : Int32) => Vw LM X (d + 2) 6 40 [some (.ref 0), some (.int v1), some (.int v2), some (.int v3_9), some (.int v4_10), some (.int v5_11)] [] mh) h (fun rec12 hrec12 v3_9 v4_10 v5_11 h => ?_)
          unfold X6_judge_L40 at h
          refine V_iload (pc := 40) C dX6_judge_40 rfl ?_
          refine V_aload_n (pc := 42) C dX6_judge_42 rfl rfl ?_
          refine V_getR (pc := 43) C (r' := 14) CF6 fl_X6_60 LO6 (by decide) rfl dX6_judge_43 ?_
          refine V_iload_n (pc := 46) C dX6_judge_46 rfl rfl ?_
          refine V_iald (pc := 47) C LAM14 hi3 dX6_judge_47 (v := (mh.1 14 (jn v1))) rfl ?_
          refine V_icmpge (pc := 48) (tgt := 93) C dX6_judge_48 (by decide) (fun hc13 => ?_) (fun hc13 => ?_)
          · have h := it_t h hc13
            refine V_mask [true, true, true, true, true, false] (lv' := [some (.ref 0), some (.int v1), some (.int v2), some (.int v3_9), some (.int v4_10), none]) rfl ?_
            exact hJ7 v3_9 v4_10 h
          · have h := it_f h hc13
            refine V_aload_n (pc := 51) C dX6_judge_51 rfl rfl ?_
            refine V_getR (pc := 52) C (r' := 15) CF6 fl_X6_63 LO6 (by decide) rfl dX6_judge_52 ?_
            refine V_bipush (pc := 55) C (v := 40) dX6_judge_55 (by decide) ?_
            refine V_iload_n (pc := 57) C dX6_judge_57 rfl rfl ?_
            refine V_imul (pc := 58) C dX6_judge_58 ?_
            refine V_iload (pc := 59) C dX6_judge_59 rfl ?_
            refine V_iadd (pc := 61) C dX6_judge_61 ?_
            obtain ⟨hi14, h⟩ := chk_ok h
            refine V_iald (pc := 62) C LAM15 hi14 dX6_judge_62 (v := (mh.1 15 (jn ((40 * v1) + v5_11)))) rfl ?_
            refine V_aload_n (pc := 63) C dX6_judge_63 rfl rfl ?_
            refine V_iload (pc := 64) C dX6_judge_64 rfl ?_
            obtain ⟨q15, hq16, h⟩ := bnd_ok h
            refine V_callVi (pc := 66) (rest := [.int (mh.1 15 (jn ((40 * v1) + v5_11)))]) C cs_X6_310 (c_X6_dotsOf (d + 0) v5_11 mh hq16) CF6.1 LO6 (by omega) (by decide) rfl rfl (Nat.le_of_ble_eq_true rfl) dX6_judge_66 ?_
            refine V_icmpeq (pc := 69) (tgt := 87) C dX6_judge_69 (by decide) (fun hc17 => ?_) (fun hc17 => ?_)
            · have h := it_t h hc17
              refine V_iinc (pc := 87) C (v := (v5_11 + 1)) (lv' := [some (.ref 0), some (.int v1), some (.int v2), some (.int v3_9), some (.int v4_10), some (.int (v5_11 + 1))]) dX6_judge_87 rfl rfl (by decide) (Nat.le_of_ble_eq_true rfl) rfl rfl ?_
              refine V_goto (pc := 90) (tgt := 40) C dX6_judge_90 (by decide) ?_
              exact hrec12 v3_9 v4_10 (v5_11 + 1) h
            · have h := it_f h hc17
              refine V_iinc (pc := 72) C (v := (v4_10 + 1)) (lv' := [some (.ref 0), some (.int v1), some (.int v2), some (.int v3_9), some (.int (v4_10 + 1)), some (.int v5_11)]) dX6_judge_72 rfl rfl (by decide) (Nat.le_of_ble_eq_true rfl) rfl rfl ?_
              refine V_iload_n (pc := 75) C dX6_judge_75 rfl rfl ?_
              refine V_iconst (pc := 76) C (v := (-1)) dX6_judge_76 (by decide) ?_
              refine wj1_ok (fun (s18 : Int32) => Vw LM X (d + 2) 6 86 [some (.ref 0), some (.int v1), some (.int v2), some (.int v3_9), some (.int (v4_10 + 1)), some (.int v5_11)] [.int s18] mh) h (fun s18 h => ?_) (fun J19 hJ19 h => ?_)
              · refine V_istore_n (pc := 86) C (lv' := [some (.ref 0), some (.int v1), some (.int v2), some (.int s18), some (.int (v4_10 + 1)), some (.int v5_11)]) dX6_judge_86 rfl (by decide) (Nat.le_of_ble_eq_true rfl) rfl rfl ?_
                refine V_iinc (pc := 87) C (v := (v5_11 + 1)) (lv' := [some (.ref 0), some (.int v1), some (.int v2), some (.int s18), some (.int (v4_10 + 1)), some (.int (v5_11 + 1))]) dX6_judge_87 rfl rfl (by decide) (Nat.le_of_ble_eq_true rfl) rfl rfl ?_
                refine V_goto (pc := 90) (tgt := 40) C dX6_judge_90 (by decide) ?_
                exact hrec12 s18 (v4_10 + 1) (v5_11 + 1) h
              · refine V_icmpne (pc := 77) (tgt := 85) C dX6_judge_77 (by decide) (fun hc20 => ?_) (fun hc20 => ?_)
                · have h := it_f h hc20
                  refine V_iload_n (pc := 85) C dX6_judge_85 rfl rfl ?_
                  exact hJ19 v3_9 h
                · have h := it_t h hc20
                  refine V_iload (pc := 80) C dX6_judge_80 rfl ?_
                  refine V_goto (pc := 82) (tgt := 86) C dX6_judge_82 (by decide) ?_
                  exact hJ19 v5_11 h
      · have h := it_t h hc4
        refine V_bipush (pc := 29) C (v := (-11)) dX6_judge_29 (by decide) ?_
        exact V_iret (pc := 31) C (gdo h hG) dX6_judge_31
    · have h := it_t h hc2
      refine V_bipush (pc := 17) C (v := (-2)) dX6_judge_17 (by decide) ?_
      exact V_iret (pc := 19) C (gdo h hG) dX6_judge_19
def X6_unseen_L4 (mh : vMH) (J2 : Int32 → Option (Int32)) (rec5 : Int32 → Int32 → Option (Int32)) (v1_3 : Int32) (v2_4 : Int32) : Option (Int32) := (if (mh.1 0 11) ≤ v2_4 then (J2 v1_3) else (if (X6_lies v2_4 mh) = 0 then (rec5 v1_3 (v2_4 + 1)) else (chk (inb v2_4 12) (rec5 (v1_3 ||| (jl 1 ((mh.1 5 (jn v2_4)) / 8))) (v2_4 + 1)))))
def X6_unseen (mh : vMH) : Option (Int32) := (wj1 (fun (v1_1 : Int32) => (some (v1_1 &&& ((mh.1 0 16) ^^^ (-1))))) fun J2 => (lq2 4096 (X6_unseen_L4 mh J2) 0 0))
set_option maxRecDepth 100000 in
set_option maxHeartbeats 8000000 in
theorem c_X6_unseen (d : Nat)  (mh : vMH) {res : Int32} (h : X6_unseen mh = some res) : MC LM (d + 1) yX6_unseen cX6_unseen 3 (some .int) [.ref 0] mh (some (.int res)) mh := by
  refine MC_of 2 (by decide) rfl (fun X C hG => ?_)
  replace C : Cx X (d + 1) 3 cX6_unseen RX6 (some .int) := C
  show Vw LM X (d + 1) 3 0 [some (.ref 0), none, none] [] mh
  unfold X6_unseen at h
  refine V_iconst (pc := 0) C (v := 0) dX6_unseen_0 (by decide) ?_
  refine V_istore_n (pc := 1) C (lv' := [some (.ref 0), some (.int 0), none]) dX6_unseen_1 rfl (by decide) (Nat.le_of_ble_eq_true rfl) rfl rfl ?_
  refine V_iconst (pc := 2) C (v := 0) dX6_unseen_2 (by decide) ?_
  refine V_istore_n (pc := 3) C (lv' := [some (.ref 0), some (.int 0), some (.int 0)]) dX6_unseen_3 rfl (by decide) (Nat.le_of_ble_eq_true rfl) rfl rfl ?_
  refine wj1_ok (fun (v1_1 : Int32) => Vw LM X (d + 1) 3 40 [some (.ref 0), some (.int v1_1), none] [] mh) h (fun v1_1 h => ?_) (fun J2 hJ2 h => ?_)
  · refine V_iload_n (pc := 40) C dX6_unseen_40 rfl rfl ?_
    refine V_aload_n (pc := 41) C dX6_unseen_41 rfl rfl ?_
    refine V_getI (pc := 42) C CF6 fl_X6_273 LO6 (by decide) rfl dX6_unseen_42 (v := (mh.1 0 16)) rfl ?_
    refine V_iconst (pc := 45) C (v := (-1)) dX6_unseen_45 (by decide) ?_
    refine V_ixor (pc := 46) C dX6_unseen_46 ?_
    refine V_iand (pc := 47) C dX6_unseen_47 ?_
    exact V_iret (pc := 48) C (gdo h hG) dX6_unseen_48
  · refine lq2_ok (fun (v1_3 : Int32) (v2_4 : Int32) => Vw LM X (d + 1) 3 4 [some (.ref 0), some (.int v1_3), some (.int v2_4)] [] mh) h (fun rec5 hrec5 v1_3 v2_4 h => ?_)
    unfold X6_unseen_L4 at h
    refine V_iload_n (pc := 4) C dX6_unseen_4 rfl rfl ?_
    refine V_aload_n (pc := 5) C dX6_unseen_5 rfl rfl ?_
    refine V_getI (pc := 6) C CF6 fl_X6_73 LO6 (by decide) rfl dX6_unseen_6 (v := (mh.1 0 11)) rfl ?_
    refine V_icmpge (pc := 9) (tgt := 40) C dX6_unseen_9 (by decide) (fun hc6 => ?_) (fun hc6 => ?_)
    · have h := it_t h hc6
      refine V_mask [true, true, false] (lv' := [some (.ref 0), some (.int v1_3), none]) rfl ?_
      exact hJ2 v1_3 h
    · have h := it_f h hc6
      refine V_aload_n (pc := 12) C dX6_unseen_12 rfl rfl ?_
      refine V_iload_n (pc := 13) C dX6_unseen_13 rfl rfl ?_
      refine V_callVi (pc := 14) (rest := []) C cs_X6_102 (c_X6_lies (d + 0) v2_4 mh) CF6.1 LO6 (by omega) (by decide) rfl rfl (Nat.le_of_ble_eq_true rfl) dX6_unseen_14 ?_
      refine V_ifeq (pc := 17) (tgt := 34) C dX6_unseen_17 (by decide) (fun hc7 => ?_) (fun hc7 => ?_)
      · have h := it_t h hc7
        refine V_iinc (pc := 34) C (v := (v2_4 + 1)) (lv' := [some (.ref 0), some (.int v1_3), some (.int (v2_4 + 1))]) dX6_unseen_34 rfl rfl (by decide) (Nat.le_of_ble_eq_true rfl) rfl rfl ?_
        refine V_goto (pc := 37) (tgt := 4) C dX6_unseen_37 (by decide) ?_
        exact hrec5 v1_3 (v2_4 + 1) h
      · have h := it_f h hc7
        refine V_iload_n (pc := 20) C dX6_unseen_20 rfl rfl ?_
        refine V_iconst (pc := 21) C (v := 1) dX6_unseen_21 (by decide) ?_
        refine V_aload_n (pc := 22) C dX6_unseen_22 rfl rfl ?_
        refine V_getR (pc := 23) C (r' := 5) CF6 fl_X6_26 LO6 (by decide) rfl dX6_unseen_23 ?_
        refine V_iload_n (pc := 26) C dX6_unseen_26 rfl rfl ?_
        obtain ⟨hi8, h⟩ := chk_ok h
        refine V_iald (pc := 27) C LAM5 hi8 dX6_unseen_27 (v := (mh.1 5 (jn v2_4))) rfl ?_
        refine V_bipush (pc := 28) C (v := 8) dX6_unseen_28 (by decide) ?_
        refine V_idiv (pc := 30) C dX6_unseen_30 (by decide) ?_
        refine V_ishl (pc := 31) C dX6_unseen_31 ?_
        refine V_ior (pc := 32) C dX6_unseen_32 ?_
        refine V_istore_n (pc := 33) C (lv' := [some (.ref 0), some (.int (v1_3 ||| (jl 1 ((mh.1 5 (jn v2_4)) / 8)))), some (.int v2_4)]) dX6_unseen_33 rfl (by decide) (Nat.le_of_ble_eq_true rfl) rfl rfl ?_
        refine V_iinc (pc := 34) C (v := (v2_4 + 1)) (lv' := [some (.ref 0), some (.int (v1_3 ||| (jl 1 ((mh.1 5 (jn v2_4)) / 8)))), some (.int (v2_4 + 1))]) dX6_unseen_34 rfl rfl (by decide) (Nat.le_of_ble_eq_true rfl) rfl rfl ?_
        refine V_goto (pc := 37) (tgt := 4) C dX6_unseen_37 (by decide) ?_
        exact hrec5 (v1_3 ||| (jl 1 ((mh.1 5 (jn v2_4)) / 8))) (v2_4 + 1) h
def X6_left_L66 (v4_7 : Int32) (J14 : Int32 → vMH → Option (Int32 × vMH)) (rec20 : Int32 → vMH → Option (Int32 × vMH)) (v5_18 : Int32) (mh19 : vMH) : Option (Int32 × vMH) := (if 9 < (mh19.1 0 14) then (J14 v5_18 mh19) else (wj2 (fun (s22 : Int32) (mh23 : vMH) => (rec20 s22 (v_up mh23 0 14 ((mh23.1 0 14) + 1)))) fun J25 => (wj1 (fun (mh24 : vMH) => (J25 1 mh24)) fun J26 => (if v5_18 = 0 then ((X6_isHeard v4_7 mh19).bind fun q28 => (wj1 (fun (mh30 : vMH) => (J25 0 mh30)) fun J31 => (if q28.1 = 0 then (J31 q28.2) else ((X6_heard v4_7 q28.2).bind fun q33 => ((X6_says 0 v4_7 q33 q28.2).bind fun q35 => (if q35.1 = 0 then (J31 q35.2) else (J26 q35.2))))))) else (J26 mh19)))))
def X6_left_L40 (J5 : Int32 → vMH → Option (Int32 × vMH)) (rec9 : Int32 → Int32 → vMH → Option (Int32 × vMH)) (v2_6 : Int32) (v4_7 : Int32) (mh8 : vMH) : Option (Int32 × vMH) := (if (mh8.1 0 11) ≤ v4_7 then (J5 v2_6 mh8) else (if (X6_lies v4_7 mh8) = 0 then (rec9 v2_6 (v4_7 + 1) mh8) else (wj2 (fun (v5_12 : Int32) (mh13 : vMH) => (wj1 (fun (s15 : Int32) => (rec9 (v2_6 + s15) (v4_7 + 1) mh13)) fun J16 => (if v5_12 = 0 then (J16 1) else (J16 0)))) fun J14 => (lq2 4096 (X6_left_L66 v4_7 J14) 0 (v_up mh8 0 14 1)))))
def X6_left (v1 : Int32) (mh : vMH) : Option (Int32 × vMH) := (if (X6_in (Int32.toInt64 v1) 0 1) = 0 then (some ((-2), mh)) else (if v1 = 0 then ((X6_bitsOf (mh.1 0 12)).bind fun q38 => (some (((mh.1 0 11) - q38), mh))) else (wj2 (fun (v2_3 : Int32) (mh4 : vMH) => (some (v2_3, (v_up mh4 0 14 (mh.1 0 14))))) fun J5 => (lq3 4096 (X6_left_L40 J5) 0 0 mh))))
set_option maxRecDepth 100000 in
set_option maxHeartbeats 8000000 in
theorem c_X6_left (d : Nat) (v1 : Int32) (mh : vMH) {res : Int32 × vMH} (h : X6_left v1 mh = some res) : MC LM (d + 73) yX6_left cX6_left 6 (some .int) [.ref 0, .int v1] mh (some (.int res.1)) res.2 := by
  refine MC_of 4 (by decide) rfl (fun X C hG => ?_)
  replace C : Cx X (d + 73) 6 cX6_left RX6 (some .int) := C
  show Vw LM X (d + 73) 6 0 [some (.ref 0), some (.int v1), none, none, none, none] [] mh
  unfold X6_left at h
  refine V_iload_n (pc := 0) C dX6_left_0 rfl rfl ?_
  refine V_i2l (pc := 1) C dX6_left_1 ?_
  refine V_lconst (pc := 2) C (v := 0) dX6_left_2 (by decide) ?_
  refine V_lconst (pc := 3) C (v := 1) dX6_left_3 (by decide) ?_
  refine V_callSi (pc := 4) (rest := []) C cs_X6_76 (c_X6_in (d + 72) (Int32.toInt64 v1) 0 1 mh) (by omega) (by decide) rfl rfl (Nat.le_of_ble_eq_true rfl) dX6_left_4 ?_
  refine V_ifne (pc := 7) (tgt := 13) C dX6_left_7 (by decide) (fun hc1 => ?_) (fun hc1 => ?_)
  · have h := it_f h hc1
    refine V_iload_n (pc := 13) C dX6_left_13 rfl rfl ?_
    refine V_ifne (pc := 14) (tgt := 30) C dX6_left_14 (by decide) (fun hc2 => ?_) (fun hc2 => ?_)
    · have h := it_f h hc2
      refine V_iconst (pc := 30) C (v := 0) dX6_left_30 (by decide) ?_
      refine V_istore_n (pc := 31) C (lv' := [some (.ref 0), some (.int v1), some (.int 0), none, none, none]) dX6_left_31 rfl (by decide) (Nat.le_of_ble_eq_true rfl) rfl rfl ?_
      refine V_aload_n (pc := 32) C dX6_left_32 rfl rfl ?_
      refine V_getI (pc := 33) C CF6 fl_X6_35 LO6 (by decide) rfl dX6_left_33 (v := (mh.1 0 14)) rfl ?_
      refine V_istore_n (pc := 36) C (lv' := [some (.ref 0), some (.int v1), some (.int 0), some (.int (mh.1 0 14)), none, none]) dX6_left_36 rfl (by decide) (Nat.le_of_ble_eq_true rfl) rfl rfl ?_
      refine V_iconst (pc := 37) C (v := 0) dX6_left_37 (by decide) ?_
      refine V_istore (pc := 38) C (lv' := [some (.ref 0), some (.int v1), some (.int 0), some (.int (mh.1 0 14)), some (.int 0), none]) dX6_left_38 (by decide) (Nat.le_of_ble_eq_true rfl) rfl rfl ?_
      refine wj2_ok (fun (v2_3 : Int32) (mh4 : vMH) => Vw LM X (d + 73) 6 144 [some (.ref 0), some (.int v1), some (.int v2_3), some (.int (mh.1 0 14)), none, none] [] mh4) h (fun v2_3 mh4 h => ?_) (fun J5 hJ5 h => ?_)
      · refine V_aload_n (pc := 144) C dX6_left_144 rfl rfl ?_
        refine V_iload_n (pc := 145) C dX6_left_145 rfl rfl ?_
        refine V_putI (pc := 146) C CF6 fl_X6_35 LO6 (by decide) rfl rfl rfl dX6_left_146 ?_
        refine V_iload_n (pc := 149) C dX6_left_149 rfl rfl ?_
        exact V_iret (pc := 150) C (gdow h hG) dX6_left_150
      · refine lq3_ok (fun (v2_6 : Int32) (v4_7 : Int32) (mh8 : vMH) => Vw LM X (d + 73) 6 40 [some (.ref 0), some (.int v1), some (.int v2_6), some (.int (mh.1 0 14)), some (.int v4_7), none] [] mh8) h (fun rec9 hrec9 v2_6 v4_7 mh8 h => ?_)
        unfold X6_left_L40 at h
        refine V_iload (pc := 40) C dX6_left_40 rfl ?_
        refine V_aload_n (pc := 42) C dX6_left_42 rfl rfl ?_
        refine V_getI (pc := 43) C CF6 fl_X6_73 LO6 (by decide) rfl dX6_left_43 (v := (mh8.1 0 11)) rfl ?_
        refine V_icmpge (pc := 46) (tgt := 144) C dX6_left_46 (by decide) (fun hc10 => ?_) (fun hc10 => ?_)
        · have h := it_t h hc10
          refine V_mask [true, true, true, true, false, true] (lv' := [some (.ref 0), some (.int v1), some (.int v2_6), some (.int (mh.1 0 14)), none, none]) rfl ?_
          exact hJ5 v2_6 mh8 h
        · have h := it_f h hc10
          refine V_aload_n (pc := 49) C dX6_left_49 rfl rfl ?_
          refine V_iload (pc := 50) C dX6_left_50 rfl ?_
          refine V_callVi (pc := 52) (rest := []) C cs_X6_102 (c_X6_lies (d + 72) v4_7 mh8) CF6.1 LO6 (by omega) (by decide) rfl rfl (Nat.le_of_ble_eq_true rfl) dX6_left_52 ?_
          refine V_ifeq (pc := 55) (tgt := 138) C dX6_left_55 (by decide) (fun hc11 => ?_) (fun hc11 => ?_)
          · have h := it_t h hc11
            refine V_iinc (pc := 138) C (v := (v4_7 + 1)) (lv' := [some (.ref 0), some (.int v1), some (.int v2_6), some (.int (mh.1 0 14)), some (.int (v4_7 + 1)), none]) dX6_left_138 rfl rfl (by decide) (Nat.le_of_ble_eq_true rfl) rfl rfl ?_
            refine V_goto (pc := 141) (tgt := 40) C dX6_left_141 (by decide) ?_
            exact hrec9 v2_6 (v4_7 + 1) mh8 h
          · have h := it_f h hc11
            refine V_iconst (pc := 58) C (v := 0) dX6_left_58 (by decide) ?_
            refine V_istore (pc := 59) C (lv' := [some (.ref 0), some (.int v1), some (.int v2_6), some (.int (mh.1 0 14)), some (.int v4_7), some (.int 0)]) dX6_left_59 (by decide) (Nat.le_of_ble_eq_true rfl) rfl rfl ?_
            refine V_aload_n (pc := 61) C dX6_left_61 rfl rfl ?_
            refine V_iconst (pc := 62) C (v := 1) dX6_left_62 (by decide) ?_
            refine V_putI (pc := 63) C CF6 fl_X6_35 LO6 (by decide) rfl rfl rfl dX6_left_63 ?_
            refine wj2_ok (fun (v5_12 : Int32) (mh13 : vMH) => Vw LM X (d + 73) 6 125 [some (.ref 0), some (.int v1), some (.int v2_6), some (.int (mh.1 0 14)), some (.int v4_7), some (.int v5_12)] [] mh13) h (fun v5_12 mh13 h => ?_) (fun J14 hJ14 h => ?_)
            · refine V_iload_n (pc := 125) C dX6_left_125 rfl rfl ?_
              refine V_iload (pc := 126) C dX6_left_126 rfl ?_
              refine wj1_ok (fun (s15 : Int32) => Vw LM X (d + 73) 6 136 [some (.ref 0), some (.int v1), some (.int v2_6), some (.int (mh.1 0 14)), some (.int v4_7), some (.int v5_12)] [.int s15, .int v2_6] mh13) h (fun s15 h => ?_) (fun J16 hJ16 h => ?_)
              · refine V_iadd (pc := 136) C dX6_left_136 ?_
                refine V_istore_n (pc := 137) C (lv' := [some (.ref 0), some (.int v1), some (.int (v2_6 + s15)), some (.int (mh.1 0 14)), some (.int v4_7), some (.int v5_12)]) dX6_left_137 rfl (by decide) (Nat.le_of_ble_eq_true rfl) rfl rfl ?_
                refine V_iinc (pc := 138) C (v := (v4_7 + 1)) (lv' := [some (.ref 0), some (.int v1), some (.int (v2_6 + s15)), some (.int (mh.1 0 14)), some (.int (v4_7 + 1)), some (.int v5_12)]) dX6_left_138 rfl rfl (by decide) (Nat.le_of_ble_eq_true rfl) rfl rfl ?_
                refine V_goto (pc := 141) (tgt := 40) C dX6_left_141 (by decide) ?_
                refine V_mask [true, true, true, true, true, false] (lv' := [some (.ref 0), some (.int v1), some (.int (v2_6 + s15)), some (.int (mh.1 0 14)), some (.int (v4_7 + 1)), none]) rfl ?_
                exact hrec9 (v2_6 + s15) (v4_7 + 1) mh13 h
              · refine V_ifeq (pc := 128) (tgt := 135) C dX6_left_128 (by decide) (fun hc17 => ?_) (fun hc17 => ?_)
                · have h := it_t h hc17
                  refine V_iconst (pc := 135) C (v := 1) dX6_left_135 (by decide) ?_
                  exact hJ16 1 h
                · have h := it_f h hc17
                  refine V_iconst (pc := 131) C (v := 0) dX6_left_131 (by decide) ?_
                  refine V_goto (pc := 132) (tgt := 136) C dX6_left_132 (by decide) ?_
                  exact hJ16 0 h
            · refine lq2_ok (fun (v5_18 : Int32) (mh19 : vMH) => Vw LM X (d + 73) 6 66 [some (.ref 0), some (.int v1), some (.int v2_6), some (.int (mh.1 0 14)), some (.int v4_7), some (.int v5_18)] [] mh19) h (fun rec20 hrec20 v5_18 mh19 h => ?_)
              unfold X6_left_L66 at h
              refine V_aload_n (pc := 66) C dX6_left_66 rfl rfl ?_
              refine V_getI (pc := 67) C CF6 fl_X6_35 LO6 (by decide) rfl dX6_left_67 (v := (mh19.1 0 14)) rfl ?_
              refine V_bipush (pc := 70) C (v := 9) dX6_left_70 (by decide) ?_
              refine V_icmpgt (pc := 72) (tgt := 125) C dX6_left_72 (by decide) (fun hc21 => ?_) (fun hc21 => ?_)
              · have h := it_t h hc21
                exact hJ14 v5_18 mh19 h
              · have h := it_f h hc21
                refine V_iload (pc := 75) C dX6_left_75 rfl ?_
                refine wj2_ok (fun (s22 : Int32) (mh23 : vMH) => Vw LM X (d + 73) 6 110 [some (.ref 0), some (.int v1), some (.int v2_6), some (.int (mh.1 0 14)), some (.int v4_7), some (.int v5_18)] [.int s22] mh23) h (fun s22 mh23 h => ?_) (fun J25 hJ25 h => ?_)
                · refine V_istore (pc := 110) C (lv' := [some (.ref 0), some (.int v1), some (.int v2_6), some (.int (mh.1 0 14)), some (.int v4_7), some (.int s22)]) dX6_left_110 (by decide) (Nat.le_of_ble_eq_true rfl) rfl rfl ?_
                  refine V_aload_n (pc := 112) C dX6_left_112 rfl rfl ?_
                  refine V_dup (pc := 113) C dX6_left_113 rfl ?_
                  refine V_getI (pc := 114) C CF6 fl_X6_35 LO6 (by decide) rfl dX6_left_114 (v := (mh23.1 0 14)) rfl ?_
                  refine V_iconst (pc := 117) C (v := 1) dX6_left_117 (by decide) ?_
                  refine V_iadd (pc := 118) C dX6_left_118 ?_
                  refine V_putI (pc := 119) C CF6 fl_X6_35 LO6 (by decide) rfl rfl rfl dX6_left_119 ?_
                  refine V_goto (pc := 122) (tgt := 66) C dX6_left_122 (by decide) ?_
                  exact hrec20 s22 (v_up mh23 0 14 ((mh23.1 0 14) + 1)) h
                · refine wj1_ok (fun (mh24 : vMH) => Vw LM X (d + 73) 6 105 [some (.ref 0), some (.int v1), some (.int v2_6), some (.int (mh.1 0 14)), some (.int v4_7), some (.int v5_18)] [] mh24) h (fun mh24 h => ?_) (fun J26 hJ26 h => ?_)
                  · refine V_iconst (pc := 105) C (v := 1) dX6_left_105 (by decide) ?_
                    refine V_goto (pc := 106) (tgt := 110) C dX6_left_106 (by decide) ?_
                    exact hJ25 1 mh24 h
                  · refine V_ifne (pc := 77) (tgt := 105) C dX6_left_77 (by decide) (fun hc27 => ?_) (fun hc27 => ?_)
                    · have h := it_f h hc27
                      exact hJ26 mh19 h
                    · have h := it_t h hc27
                      refine V_aload_n (pc := 80) C dX6_left_80 rfl rfl ?_
                      refine V_iload (pc := 81) C dX6_left_81 rfl ?_
                      obtain ⟨q28, hq29, h⟩ := bnd_ok h
                      refine V_callVi (pc := 83) (rest := []) C cs_X6_254 (c_X6_isHeard (d + 0) v4_7 mh19 hq29) CF6.1 LO6 (by omega) (by decide) rfl rfl (Nat.le_of_ble_eq_true rfl) dX6_left_83 ?_
                      refine wj1_ok (fun (mh30 : vMH) => Vw LM X (d + 73) 6 109 [some (.ref 0), some (.int v1), some (.int v2_6), some (.int (mh.1 0 14)), some (.int v4_7), some (.int v5_18)] [] mh30) h (fun mh30 h => ?_) (fun J31 hJ31 h => ?_)
                      · refine V_iconst (pc := 109) C (v := 0) dX6_left_109 (by decide) ?_
                        exact hJ25 0 mh30 h
                      · refine V_ifeq (pc := 86) (tgt := 109) C dX6_left_86 (by decide) (fun hc32 => ?_) (fun hc32 => ?_)
                        · have h := it_t h hc32
                          exact hJ31 q28.2 h
                        · have h := it_f h hc32
                          refine V_aload_n (pc := 89) C dX6_left_89 rfl rfl ?_
                          refine V_iconst (pc := 90) C (v := 0) dX6_left_90 (by decide) ?_
                          refine V_iload (pc := 91) C dX6_left_91 rfl ?_
                          refine V_aload_n (pc := 93) C dX6_left_93 rfl rfl ?_
                          refine V_iload (pc := 94) C dX6_left_94 rfl ?_
                          obtain ⟨q33, hq34, h⟩ := bnd_ok h
                          refine V_callVi (pc := 96) (rest := [.int v4_7, .int 0, .ref 0]) C cs_X6_115 (c_X6_heard (d + 71) v4_7 q28.2 hq34) CF6.1 LO6 (by omega) (by decide) rfl rfl (Nat.le_of_ble_eq_true rfl) dX6_left_96 ?_
                          obtain ⟨q35, hq36, h⟩ := bnd_ok h
                          refine V_callVi (pc := 99) (rest := []) C cs_X6_248 (c_X6_says (d + 1) 0 v4_7 q33 q28.2 hq36) CF6.1 LO6 (by omega) (by decide) rfl rfl (Nat.le_of_ble_eq_true rfl) dX6_left_99 ?_
                          refine V_ifeq (pc := 102) (tgt := 109) C dX6_left_102 (by decide) (fun hc37 => ?_) (fun hc37 => ?_)
                          · have h := it_t h hc37
                            exact hJ31 q35.2 h
                          · have h := it_f h hc37
                            exact hJ26 q35.2 h
    · have h := it_t h hc2
      refine V_aload_n (pc := 17) C dX6_left_17 rfl rfl ?_
      refine V_getI (pc := 18) C CF6 fl_X6_73 LO6 (by decide) rfl dX6_left_18 (v := (mh.1 0 11)) rfl ?_
      refine V_aload_n (pc := 21) C dX6_left_21 rfl rfl ?_
      refine V_getI (pc := 22) C CF6 fl_X6_80 LO6 (by decide) rfl dX6_left_22 (v := (mh.1 0 12)) rfl ?_
      obtain ⟨q38, hq39, h⟩ := bnd_ok h
      refine V_callSi (pc := 25) (rest := [.int (mh.1 0 11)]) C cs_X6_304 (c_X6_bitsOf (d + 72) (mh.1 0 12) mh hq39) (by omega) (by decide) rfl rfl (Nat.le_of_ble_eq_true rfl) dX6_left_25 ?_
      refine V_isub (pc := 28) C dX6_left_28 ?_
      exact V_iret (pc := 29) C (gdow h hG) dX6_left_29
  · have h := it_t h hc1
    refine V_bipush (pc := 10) C (v := (-2)) dX6_left_10 (by decide) ?_
    exact V_iret (pc := 12) C (gdow h hG) dX6_left_12
