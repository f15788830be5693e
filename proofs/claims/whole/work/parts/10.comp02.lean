def X2_remove (v1 : Int32) (mh : vMH) : Option (vMH) := ((X2_make v1 (-1) 0 mh).bind fun q1 => (some q1))
set_option maxRecDepth 100000 in
set_option maxHeartbeats 8000000 in
theorem c_X2_remove (d : Nat) (v1 : Int32) (mh : vMH) {res : vMH} (h : X2_remove v1 mh = some res) : MC LC (d + 2) yX2_remove cX2_remove 2 none [.ref 8, .int v1] mh none res := by
  refine MC_of 0 (by decide) rfl (fun X C hG => ?_)
  replace C : Cx X (d + 2) 2 cX2_remove RX2 none := C
  show Vw LC X (d + 2) 2 0 [some (.ref 8), some (.int v1)] [] mh
  unfold X2_remove at h
  refine V_aload_n (pc := 0) C dX2_remove_0 rfl rfl ?_
  refine V_iload_n (pc := 1) C dX2_remove_1 rfl rfl ?_
  refine V_iconst (pc := 2) C (v := (-1)) dX2_remove_2 (by decide) ?_
  refine V_iconst (pc := 3) C (v := 0) dX2_remove_3 (by decide) ?_
  obtain ⟨q1, hq2, h⟩ := bnd_ok h
  refine V_callVv (pc := 4) (rest := []) C cs_X2_25 (c_X2_make (d + 0) v1 (-1) 0 mh hq2) CF2.1 LO2 (by omega) (by decide) rfl rfl (Nat.le_of_ble_eq_true rfl) dX2_remove_4 ?_
  exact V_ret0 (pc := 7) C (gdov h hG) dX2_remove_7
def X2_hasRange (v1 : Int32) (v2 : Int32) (v3 : Int32) (mh : vMH) : Option (Int32) := (if v2 < 0 then (some 0) else (if v3 < 0 then (some 0) else ((X2_sizeOf v1 mh).bind fun q3 => (if q3 < v2 then (some 0) else ((X2_sizeOf v1 mh).bind fun q6 => (if (q6 - v2) < v3 then (some 0) else (some 1)))))))
set_option maxRecDepth 100000 in
set_option maxHeartbeats 8000000 in
theorem c_X2_hasRange (d : Nat) (v1 : Int32) (v2 : Int32) (v3 : Int32) (mh : vMH) {res : Int32} (h : X2_hasRange v1 v2 v3 mh = some res) : MC LC (d + 2) yX2_hasRange cX2_hasRange 4 (some .boolean) [.ref 8, .int v1, .int v2, .int v3] mh (some (.int res)) mh := by
  refine MC_of 0 (by decide) rfl (fun X C hG => ?_)
  replace C : Cx X (d + 2) 4 cX2_hasRange RX2 (some .boolean) := C
  show Vw LC X (d + 2) 4 0 [some (.ref 8), some (.int v1), some (.int v2), some (.int v3)] [] mh
  unfold X2_hasRange at h
  refine V_iload_n (pc := 0) C dX2_hasRange_0 rfl rfl ?_
  refine V_iflt (pc := 1) (tgt := 32) C dX2_hasRange_1 (by decide) (fun hc1 => ?_) (fun hc1 => ?_)
  · have h := it_t h hc1
    refine V_iconst (pc := 32) C (v := 0) dX2_hasRange_32 (by decide) ?_
    exact V_zret (pc := 33) C rfl (gdo h hG) dX2_hasRange_33
  · have h := it_f h hc1
    refine V_iload_n (pc := 4) C dX2_hasRange_4 rfl rfl ?_
    refine V_iflt (pc := 5) (tgt := 32) C dX2_hasRange_5 (by decide) (fun hc2 => ?_) (fun hc2 => ?_)
    · have h := it_t h hc2
      refine V_iconst (pc := 32) C (v := 0) dX2_hasRange_32 (by decide) ?_
      exact V_zret (pc := 33) C rfl (gdo h hG) dX2_hasRange_33
    · have h := it_f h hc2
      refine V_iload_n (pc := 8) C dX2_hasRange_8 rfl rfl ?_
      refine V_aload_n (pc := 9) C dX2_hasRange_9 rfl rfl ?_
      refine V_iload_n (pc := 10) C dX2_hasRange_10 rfl rfl ?_
      obtain ⟨q3, hq4, h⟩ := bnd_ok h
      refine V_callVi (pc := 11) (rest := [.int v2]) C cs_X2_37 (c_X2_sizeOf (d + 0) v1 mh hq4) CF2.1 LO2 (by omega) (by decide) rfl rfl (Nat.le_of_ble_eq_true rfl) dX2_hasRange_11 ?_
      refine V_icmpgt (pc := 14) (tgt := 32) C dX2_hasRange_14 (by decide) (fun hc5 => ?_) (fun hc5 => ?_)
      · have h := it_t h hc5
        refine V_iconst (pc := 32) C (v := 0) dX2_hasRange_32 (by decide) ?_
        exact V_zret (pc := 33) C rfl (gdo h hG) dX2_hasRange_33
      · have h := it_f h hc5
        refine V_iload_n (pc := 17) C dX2_hasRange_17 rfl rfl ?_
        refine V_aload_n (pc := 18) C dX2_hasRange_18 rfl rfl ?_
        refine V_iload_n (pc := 19) C dX2_hasRange_19 rfl rfl ?_
        obtain ⟨q6, hq7, h⟩ := bnd_ok h
        refine V_callVi (pc := 20) (rest := [.int v3]) C cs_X2_37 (c_X2_sizeOf (d + 0) v1 mh hq7) CF2.1 LO2 (by omega) (by decide) rfl rfl (Nat.le_of_ble_eq_true rfl) dX2_hasRange_20 ?_
        refine V_iload_n (pc := 23) C dX2_hasRange_23 rfl rfl ?_
        refine V_isub (pc := 24) C dX2_hasRange_24 ?_
        refine V_icmpgt (pc := 25) (tgt := 32) C dX2_hasRange_25 (by decide) (fun hc8 => ?_) (fun hc8 => ?_)
        · have h := it_t h hc8
          refine V_iconst (pc := 32) C (v := 0) dX2_hasRange_32 (by decide) ?_
          exact V_zret (pc := 33) C rfl (gdo h hG) dX2_hasRange_33
        · have h := it_f h hc8
          refine V_iconst (pc := 28) C (v := 1) dX2_hasRange_28 (by decide) ?_
          refine V_goto (pc := 29) (tgt := 33) C dX2_hasRange_29 (by decide) ?_
          exact V_zret (pc := 33) C rfl (gdo h hG) dX2_hasRange_33
def X2_itemOf (v1 : Int32) (v2 : Int32) (mh : vMH) : Option (Int32) := ((X2_hasRange v1 v2 1 mh).bind fun q1 => (if q1 = 0 then (some 0) else (chk (inb ((v1 * 40) + v2) 160) (some (mh.1 32 (jn ((v1 * 40) + v2)))))))
set_option maxRecDepth 100000 in
set_option maxHeartbeats 8000000 in
theorem c_X2_itemOf (d : Nat) (v1 : Int32) (v2 : Int32) (mh : vMH) {res : Int32} (h : X2_itemOf v1 v2 mh = some res) : MC LC (d + 3) yX2_itemOf cX2_itemOf 3 (some .int) [.ref 8, .int v1, .int v2] mh (some (.int res)) mh := by
  refine MC_of 0 (by decide) rfl (fun X C hG => ?_)
  replace C : Cx X (d + 3) 3 cX2_itemOf RX2 (some .int) := C
  show Vw LC X (d + 3) 3 0 [some (.ref 8), some (.int v1), some (.int v2)] [] mh
  unfold X2_itemOf at h
  refine V_aload_n (pc := 0) C dX2_itemOf_0 rfl rfl ?_
  refine V_iload_n (pc := 1) C dX2_itemOf_1 rfl rfl ?_
  refine V_iload_n (pc := 2) C dX2_itemOf_2 rfl rfl ?_
  refine V_iconst (pc := 3) C (v := 1) dX2_itemOf_3 (by decide) ?_
  obtain ⟨q1, hq2, h⟩ := bnd_ok h
  refine V_callVi (pc := 4) (rest := []) C cs_X2_33 (c_X2_hasRange (d + 0) v1 v2 1 mh hq2) CF2.1 LO2 (by omega) (by decide) rfl rfl (Nat.le_of_ble_eq_true rfl) dX2_itemOf_4 ?_
  refine V_ifeq (pc := 7) (tgt := 24) C dX2_itemOf_7 (by decide) (fun hc3 => ?_) (fun hc3 => ?_)
  · have h := it_t h hc3
    refine V_iconst (pc := 24) C (v := 0) dX2_itemOf_24 (by decide) ?_
    exact V_iret (pc := 25) C (gdo h hG) dX2_itemOf_25
  · have h := it_f h hc3
    refine V_aload_n (pc := 10) C dX2_itemOf_10 rfl rfl ?_
    refine V_getR (pc := 11) C (r' := 32) CF2 fl_X2_18 LO2 (by decide) rfl dX2_itemOf_11 ?_
    refine V_iload_n (pc := 14) C dX2_itemOf_14 rfl rfl ?_
    refine V_bipush (pc := 15) C (v := 40) dX2_itemOf_15 (by decide) ?_
    refine V_imul (pc := 17) C dX2_itemOf_17 ?_
    refine V_iload_n (pc := 18) C dX2_itemOf_18 rfl rfl ?_
    refine V_iadd (pc := 19) C dX2_itemOf_19 ?_
    obtain ⟨hi4, h⟩ := chk_ok h
    refine V_iald (pc := 20) C LAC32 hi4 dX2_itemOf_20 (v := (mh.1 32 (jn ((v1 * 40) + v2)))) rfl ?_
    refine V_goto (pc := 21) (tgt := 25) C dX2_itemOf_21 (by decide) ?_
    exact V_iret (pc := 25) C (gdo h hG) dX2_itemOf_25
def X2_put (v1 : Int32) (v2 : Int32) (v3 : Int32) (mh : vMH) : Option (vMH) := ((X2_hasRange v1 v2 1 mh).bind fun q1 => (if q1 = 0 then (some mh) else (chk (inb v1 4) (wj1 (fun (s5 : Int32) => (chk (inb ((v1 * 40) + v2) 160) (some (v_up mh 32 (jn ((v1 * 40) + v2)) s5)))) fun J6 => (if (mh.1 30 (jn v1)) = 0 then (J6 ((Int32.toInt8 v3).toInt32)) else (if (mh.1 30 (jn v1)) = 1 then (J6 ((Int32.toInt16 v3).toInt32)) else (J6 v3)))))))
set_option maxRecDepth 100000 in
set_option maxHeartbeats 8000000 in
theorem c_X2_put (d : Nat) (v1 : Int32) (v2 : Int32) (v3 : Int32) (mh : vMH) {res : vMH} (h : X2_put v1 v2 v3 mh = some res) : MC LC (d + 3) yX2_put cX2_put 5 none [.ref 8, .int v1, .int v2, .int v3] mh none res := by
  refine MC_of 1 (by decide) rfl (fun X C hG => ?_)
  replace C : Cx X (d + 3) 5 cX2_put RX2 none := C
  show Vw LC X (d + 3) 5 0 [some (.ref 8), some (.int v1), some (.int v2), some (.int v3), none] [] mh
  unfold X2_put at h
  refine V_aload_n (pc := 0) C dX2_put_0 rfl rfl ?_
  refine V_iload_n (pc := 1) C dX2_put_1 rfl rfl ?_
  refine V_iload_n (pc := 2) C dX2_put_2 rfl rfl ?_
  refine V_iconst (pc := 3) C (v := 1) dX2_put_3 (by decide) ?_
  obtain ⟨q1, hq2, h⟩ := bnd_ok h
  refine V_callVi (pc := 4) (rest := []) C cs_X2_33 (c_X2_hasRange (d + 0) v1 v2 1 mh hq2) CF2.1 LO2 (by omega) (by decide) rfl rfl (Nat.le_of_ble_eq_true rfl) dX2_put_4 ?_
  refine V_ifne (pc := 7) (tgt := 11) C dX2_put_7 (by decide) (fun hc3 => ?_) (fun hc3 => ?_)
  · have h := it_f h hc3
    refine V_aload_n (pc := 11) C dX2_put_11 rfl rfl ?_
    refine V_getR (pc := 12) C (r' := 30) CF2 fl_X2_9 LO2 (by decide) rfl dX2_put_12 ?_
    refine V_iload_n (pc := 15) C dX2_put_15 rfl rfl ?_
    obtain ⟨hi4, h⟩ := chk_ok h
    refine V_iald (pc := 16) C LAC30 hi4 dX2_put_16 (v := (mh.1 30 (jn v1))) rfl ?_
    refine wj1_ok (fun (s5 : Int32) => Vw LC X (d + 3) 5 41 [some (.ref 8), some (.int v1), some (.int v2), some (.int v3), none] [.int s5] mh) h (fun s5 h => ?_) (fun J6 hJ6 h => ?_)
    · refine V_istore (pc := 41) C (lv' := [some (.ref 8), some (.int v1), some (.int v2), some (.int v3), some (.int s5)]) dX2_put_41 (by decide) (Nat.le_of_ble_eq_true rfl) rfl rfl ?_
      refine V_aload_n (pc := 43) C dX2_put_43 rfl rfl ?_
      refine V_getR (pc := 44) C (r' := 32) CF2 fl_X2_18 LO2 (by decide) rfl dX2_put_44 ?_
      refine V_iload_n (pc := 47) C dX2_put_47 rfl rfl ?_
      refine V_bipush (pc := 48) C (v := 40) dX2_put_48 (by decide) ?_
      refine V_imul (pc := 50) C dX2_put_50 ?_
      refine V_iload_n (pc := 51) C dX2_put_51 rfl rfl ?_
      refine V_iadd (pc := 52) C dX2_put_52 ?_
      refine V_iload (pc := 53) C dX2_put_53 rfl ?_
      obtain ⟨hi7, h⟩ := chk_ok h
      refine V_iast (pc := 55) C LAC32 hi7 dX2_put_55 ?_
      exact V_ret0 (pc := 56) C (gdov h hG) dX2_put_56
    · refine V_ifne (pc := 17) (tgt := 25) C dX2_put_17 (by decide) (fun hc8 => ?_) (fun hc8 => ?_)
      · have h := it_f h hc8
        refine V_aload_n (pc := 25) C dX2_put_25 rfl rfl ?_
        refine V_getR (pc := 26) C (r' := 30) CF2 fl_X2_9 LO2 (by decide) rfl dX2_put_26 ?_
        refine V_iload_n (pc := 29) C dX2_put_29 rfl rfl ?_
        refine V_iald (pc := 30) C LAC30 hi4 dX2_put_30 (v := (mh.1 30 (jn v1))) rfl ?_
        refine V_iconst (pc := 31) C (v := 1) dX2_put_31 (by decide) ?_
        refine V_icmpne (pc := 32) (tgt := 40) C dX2_put_32 (by decide) (fun hc9 => ?_) (fun hc9 => ?_)
        · have h := it_f h hc9
          refine V_iload_n (pc := 40) C dX2_put_40 rfl rfl ?_
          exact hJ6 v3 h
        · have h := it_t h hc9
          refine V_iload_n (pc := 35) C dX2_put_35 rfl rfl ?_
          refine V_i2s (pc := 36) C dX2_put_36 ?_
          refine V_goto (pc := 37) (tgt := 41) C dX2_put_37 (by decide) ?_
          exact hJ6 ((Int32.toInt16 v3).toInt32) h
      · have h := it_t h hc8
        refine V_iload_n (pc := 20) C dX2_put_20 rfl rfl ?_
        refine V_i2b (pc := 21) C dX2_put_21 ?_
        refine V_goto (pc := 22) (tgt := 41) C dX2_put_22 (by decide) ?_
        exact hJ6 ((Int32.toInt8 v3).toInt32) h
  · have h := it_t h hc3
    exact V_ret0 (pc := 10) C (gdov h hG) dX2_put_10
def X2_move (v1 : Int32) (v2 : Int32) (v3 : Int32) (v4 : Int32) (v5 : Int32) (mh : vMH) : Option (vMH) := ((X2_hasRange v1 v2 v5 mh).bind fun q1 => (if q1 = 0 then (some mh) else ((X2_hasRange v3 v4 v5 mh).bind fun q4 => (if q4 = 0 then (some mh) else (if (X5_isSheet v1) = 0 then (some mh) else (if (X5_isSheet v3) = 0 then (some mh) else (chk (inc ((v1 * 40) + v2) ((v3 * 40) + v4) v5 160 160) (some (v_cp mh 32 32 (jn ((v1 * 40) + v2)) (jn ((v3 * 40) + v4)) (jn v5))))))))))
set_option maxRecDepth 100000 in
set_option maxHeartbeats 8000000 in
theorem c_X2_move (d : Nat) (v1 : Int32) (v2 : Int32) (v3 : Int32) (v4 : Int32) (v5 : Int32) (mh : vMH) {res : vMH} (h : X2_move v1 v2 v3 v4 v5 mh = some res) : MC LC (d + 3) yX2_move cX2_move 6 none [.ref 8, .int v1, .int v2, .int v3, .int v4, .int v5] mh none res := by
  refine MC_of 0 (by decide) rfl (fun X C hG => ?_)
  replace C : Cx X (d + 3) 6 cX2_move RX2 none := C
  show Vw LC X (d + 3) 6 0 [some (.ref 8), some (.int v1), some (.int v2), some (.int v3), some (.int v4), some (.int v5)] [] mh
  unfold X2_move at h
  refine V_aload_n (pc := 0) C dX2_move_0 rfl rfl ?_
  refine V_iload_n (pc := 1) C dX2_move_1 rfl rfl ?_
  refine V_iload_n (pc := 2) C dX2_move_2 rfl rfl ?_
  refine V_iload (pc := 3) C dX2_move_3 rfl ?_
  obtain ⟨q1, hq2, h⟩ := bnd_ok h
  refine V_callVi (pc := 5) (rest := []) C cs_X2_33 (c_X2_hasRange (d + 0) v1 v2 v5 mh hq2) CF2.1 LO2 (by omega) (by decide) rfl rfl (Nat.le_of_ble_eq_true rfl) dX2_move_5 ?_
  refine V_ifeq (pc := 8) (tgt := 63) C dX2_move_8 (by decide) (fun hc3 => ?_) (fun hc3 => ?_)
  · have h := it_t h hc3
    exact V_ret0 (pc := 63) C (gdov h hG) dX2_move_63
  · have h := it_f h hc3
    refine V_aload_n (pc := 11) C dX2_move_11 rfl rfl ?_
    refine V_iload_n (pc := 12) C dX2_move_12 rfl rfl ?_
    refine V_iload (pc := 13) C dX2_move_13 rfl ?_
    refine V_iload (pc := 15) C dX2_move_15 rfl ?_
    obtain ⟨q4, hq5, h⟩ := bnd_ok h
    refine V_callVi (pc := 17) (rest := []) C cs_X2_33 (c_X2_hasRange (d + 0) v3 v4 v5 mh hq5) CF2.1 LO2 (by omega) (by decide) rfl rfl (Nat.le_of_ble_eq_true rfl) dX2_move_17 ?_
    refine V_ifeq (pc := 20) (tgt := 63) C dX2_move_20 (by decide) (fun hc6 => ?_) (fun hc6 => ?_)
    · have h := it_t h hc6
      exact V_ret0 (pc := 63) C (gdov h hG) dX2_move_63
    · have h := it_f h hc6
      refine V_iload_n (pc := 23) C dX2_move_23 rfl rfl ?_
      refine V_callNi (pc := 24) (rest := []) C cs_X2_21 (c_X5_isSheet (d + 2) v1 mh) (by omega) (by decide) rfl rfl (Nat.le_of_ble_eq_true rfl) dX2_move_24 ?_
      refine V_ifeq (pc := 27) (tgt := 63) C dX2_move_27 (by decide) (fun hc7 => ?_) (fun hc7 => ?_)
      · have h := it_t h hc7
        exact V_ret0 (pc := 63) C (gdov h hG) dX2_move_63
      · have h := it_f h hc7
        refine V_iload_n (pc := 30) C dX2_move_30 rfl rfl ?_
        refine V_callNi (pc := 31) (rest := []) C cs_X2_21 (c_X5_isSheet (d + 2) v3 mh) (by omega) (by decide) rfl rfl (Nat.le_of_ble_eq_true rfl) dX2_move_31 ?_
        refine V_ifeq (pc := 34) (tgt := 63) C dX2_move_34 (by decide) (fun hc8 => ?_) (fun hc8 => ?_)
        · have h := it_t h hc8
          exact V_ret0 (pc := 63) C (gdov h hG) dX2_move_63
        · have h := it_f h hc8
          refine V_aload_n (pc := 37) C dX2_move_37 rfl rfl ?_
          refine V_getR (pc := 38) C (r' := 32) CF2 fl_X2_18 LO2 (by decide) rfl dX2_move_38 ?_
          refine V_iload_n (pc := 41) C dX2_move_41 rfl rfl ?_
          refine V_bipush (pc := 42) C (v := 40) dX2_move_42 (by decide) ?_
          refine V_imul (pc := 44) C dX2_move_44 ?_
          refine V_iload_n (pc := 45) C dX2_move_45 rfl rfl ?_
          refine V_iadd (pc := 46) C dX2_move_46 ?_
          refine V_aload_n (pc := 47) C dX2_move_47 rfl rfl ?_
          refine V_getR (pc := 48) C (r' := 32) CF2 fl_X2_18 LO2 (by decide) rfl dX2_move_48 ?_
          refine V_iload_n (pc := 51) C dX2_move_51 rfl rfl ?_
          refine V_bipush (pc := 52) C (v := 40) dX2_move_52 (by decide) ?_
          refine V_imul (pc := 54) C dX2_move_54 ?_
          refine V_iload (pc := 55) C dX2_move_55 rfl ?_
          refine V_iadd (pc := 57) C dX2_move_57 ?_
          refine V_iload (pc := 58) C dX2_move_58 rfl ?_
          obtain ⟨hi9, h⟩ := chk_ok h
          refine V_copy (pc := 60) C ml_X2_41 LAC32 LAC32 hi9 (Nat.le_of_ble_eq_true rfl) dX2_move_60 ?_
          exact V_ret0 (pc := 63) C (gdov h hG) dX2_move_63
def X3_has (v1 : Int32) (mh : vMH) : Int32 := (if v1 < 0 then 0 else (if (mh.1 5 0) ≤ v1 then 0 else 1))
set_option maxRecDepth 100000 in
set_option maxHeartbeats 8000000 in
theorem c_X3_has (d : Nat) (v1 : Int32) (mh : vMH) : MC LC (d + 0) yX3_has cX3_has 2 (some .boolean) [.ref 5, .int v1] mh (some (.int (X3_has v1 mh))) mh := by
  refine MC_of 0 (by decide) rfl (fun X C hG => ?_)
  replace C : Cx X (d + 0) 2 cX3_has RX3 (some .boolean) := C
  show Vw LC X (d + 0) 2 0 [some (.ref 5), some (.int v1)] [] mh
  obtain ⟨res, h⟩ : ∃ res, X3_has v1 mh = res := ⟨_, rfl⟩
  rw [h] at hG
  unfold X3_has at h
  refine V_iload_n (pc := 0) C dX3_has_0 rfl rfl ?_
  refine V_iflt (pc := 1) (tgt := 16) C dX3_has_1 (by decide) (fun hc1 => ?_) (fun hc1 => ?_)
  · have h := it_t h hc1
    refine V_iconst (pc := 16) C (v := 0) dX3_has_16 (by decide) ?_
    exact V_zret (pc := 17) C rfl (gdt h hG) dX3_has_17
  · have h := it_f h hc1
    refine V_iload_n (pc := 4) C dX3_has_4 rfl rfl ?_
    refine V_aload_n (pc := 5) C dX3_has_5 rfl rfl ?_
    refine V_getI (pc := 6) C CF3 fl_X3_9 LO3 (by decide) rfl dX3_has_6 (v := (mh.1 5 0)) rfl ?_
    refine V_icmpge (pc := 9) (tgt := 16) C dX3_has_9 (by decide) (fun hc2 => ?_) (fun hc2 => ?_)
    · have h := it_t h hc2
      refine V_iconst (pc := 16) C (v := 0) dX3_has_16 (by decide) ?_
      exact V_zret (pc := 17) C rfl (gdt h hG) dX3_has_17
    · have h := it_f h hc2
      refine V_iconst (pc := 12) C (v := 1) dX3_has_12 (by decide) ?_
      refine V_goto (pc := 13) (tgt := 17) C dX3_has_13 (by decide) ?_
      exact V_zret (pc := 17) C rfl (gdt h hG) dX3_has_17
theorem z_X3_has (v1 : Int32) (mh : vMH) : narrow .boolean (.int (X3_has v1 mh)) = .int (X3_has v1 mh) := by
  unfold X3_has
  (repeat' split) <;> rfl
def X3_isFull (mh : vMH) : Int32 := (if (mh.1 5 0) < 6 then 0 else 1)
set_option maxRecDepth 100000 in
set_option maxHeartbeats 8000000 in
theorem c_X3_isFull (d : Nat)  (mh : vMH) : MC LC (d + 0) yX3_isFull cX3_isFull 1 (some .boolean) [.ref 5] mh (some (.int (X3_isFull mh))) mh := by
  refine MC_of 0 (by decide) rfl (fun X C hG => ?_)
  replace C : Cx X (d + 0) 1 cX3_isFull RX3 (some .boolean) := C
  show Vw LC X (d + 0) 1 0 [some (.ref 5)] [] mh
  obtain ⟨res, h⟩ : ∃ res, X3_isFull mh = res := ⟨_, rfl⟩
  rw [h] at hG
  unfold X3_isFull at h
  refine V_aload_n (pc := 0) C dX3_isFull_0 rfl rfl ?_
  refine V_getI (pc := 1) C CF3 fl_X3_9 LO3 (by decide) rfl dX3_isFull_1 (v := (mh.1 5 0)) rfl ?_
  refine V_bipush (pc := 4) C (v := 6) dX3_isFull_4 (by decide) ?_
  refine V_icmplt (pc := 6) (tgt := 13) C dX3_isFull_6 (by decide) (fun hc1 => ?_) (fun hc1 => ?_)
  · have h := it_t h hc1
    refine V_iconst (pc := 13) C (v := 0) dX3_isFull_13 (by decide) ?_
    exact V_zret (pc := 14) C rfl (gdt h hG) dX3_isFull_14
  · have h := it_f h hc1
    refine V_iconst (pc := 9) C (v := 1) dX3_isFull_9 (by decide) ?_
    refine V_goto (pc := 10) (tgt := 14) C dX3_isFull_10 (by decide) ?_
    exact V_zret (pc := 14) C rfl (gdt h hG) dX3_isFull_14
theorem z_X3_isFull (mh : vMH) : narrow .boolean (.int (X3_isFull mh)) = .int (X3_isFull mh) := by
  unfold X3_isFull
  (repeat' split) <;> rfl
def X3_keep (mh : vMH) : Int32 × vMH := ((((mh.1 5 0) + 1) - 1), (v_up mh 5 0 ((mh.1 5 0) + 1)))
set_option maxRecDepth 100000 in
set_option maxHeartbeats 8000000 in
theorem c_X3_keep (d : Nat)  (mh : vMH) : MC LC (d + 0) yX3_keep cX3_keep 1 (some .int) [.ref 5] mh (some (.int (X3_keep mh).1)) (X3_keep mh).2 := by
  refine MC_of 0 (by decide) rfl (fun X C hG => ?_)
  replace C : Cx X (d + 0) 1 cX3_keep RX3 (some .int) := C
  show Vw LC X (d + 0) 1 0 [some (.ref 5)] [] mh
  obtain ⟨res, h⟩ : ∃ res, X3_keep mh = res := ⟨_, rfl⟩
  rw [h] at hG
  unfold X3_keep at h
  refine V_aload_n (pc := 0) C dX3_keep_0 rfl rfl ?_
  refine V_dup (pc := 1) C dX3_keep_1 rfl ?_
  refine V_getI (pc := 2) C CF3 fl_X3_9 LO3 (by decide) rfl dX3_keep_2 (v := (mh.1 5 0)) rfl ?_
  refine V_iconst (pc := 5) C (v := 1) dX3_keep_5 (by decide) ?_
  refine V_iadd (pc := 6) C dX3_keep_6 ?_
  refine V_putI (pc := 7) C CF3 fl_X3_9 LO3 (by decide) rfl rfl rfl dX3_keep_7 ?_
  refine V_aload_n (pc := 10) C dX3_keep_10 rfl rfl ?_
  refine V_getI (pc := 11) C CF3 fl_X3_9 LO3 (by decide) rfl dX3_keep_11 (v := ((mh.1 5 0) + 1)) rd_eq ?_
  refine V_iconst (pc := 14) C (v := 1) dX3_keep_14 (by decide) ?_
  refine V_isub (pc := 15) C dX3_keep_15 ?_
  exact V_iret (pc := 16) C (gdtw h hG) dX3_keep_16
def X5_isWithin (v0 : Int32) (v1 : Int32) (v2 : Int32) : Int32 := (if v0 < v1 then 0 else (if v2 < v0 then 0 else 1))
set_option maxRecDepth 100000 in
set_option maxHeartbeats 8000000 in
theorem c_X5_isWithin (d : Nat) (v0 : Int32) (v1 : Int32) (v2 : Int32) (mh : vMH) : MC LC (d + 0) yX5_isWithin cX5_isWithin 3 (some .boolean) [.int v0, .int v1, .int v2] mh (some (.int (X5_isWithin v0 v1 v2))) mh := by
  refine MC_of 0 (by decide) rfl (fun X C hG => ?_)
  replace C : Cx X (d + 0) 3 cX5_isWithin RX5 (some .boolean) := C
  show Vw LC X (d + 0) 3 0 [some (.int v0), some (.int v1), some (.int v2)] [] mh
  obtain ⟨res, h⟩ : ∃ res, X5_isWithin v0 v1 v2 = res := ⟨_, rfl⟩
  rw [h] at hG
  unfold X5_isWithin at h
  refine V_iload_n (pc := 0) C dX5_isWithin_0 rfl rfl ?_
  refine V_iload_n (pc := 1) C dX5_isWithin_1 rfl rfl ?_
  refine V_icmplt (pc := 2) (tgt := 14) C dX5_isWithin_2 (by decide) (fun hc1 => ?_) (fun hc1 => ?_)
  · have h := it_t h hc1
    refine V_iconst (pc := 14) C (v := 0) dX5_isWithin_14 (by decide) ?_
    exact V_zret (pc := 15) C rfl (gdt h hG) dX5_isWithin_15
  · have h := it_f h hc1
    refine V_iload_n (pc := 5) C dX5_isWithin_5 rfl rfl ?_
    refine V_iload_n (pc := 6) C dX5_isWithin_6 rfl rfl ?_
    refine V_icmpgt (pc := 7) (tgt := 14) C dX5_isWithin_7 (by decide) (fun hc2 => ?_) (fun hc2 => ?_)
    · have h := it_t h hc2
      refine V_iconst (pc := 14) C (v := 0) dX5_isWithin_14 (by decide) ?_
      exact V_zret (pc := 15) C rfl (gdt h hG) dX5_isWithin_15
    · have h := it_f h hc2
      refine V_iconst (pc := 10) C (v := 1) dX5_isWithin_10 (by decide) ?_
      refine V_goto (pc := 11) (tgt := 15) C dX5_isWithin_11 (by decide) ?_
      exact V_zret (pc := 15) C rfl (gdt h hG) dX5_isWithin_15
theorem z_X5_isWithin (v0 : Int32) (v1 : Int32) (v2 : Int32) : narrow .boolean (.int (X5_isWithin v0 v1 v2)) = .int (X5_isWithin v0 v1 v2) := by
  unfold X5_isWithin
  (repeat' split) <;> rfl
def X5_toneOf (v0 : Int32) (v1 : Int32) : Int32 := (if v0 = 1 then ((10 + v1) + 50) else (if v0 = 2 then ((10 + v1) / 2) else (if v0 = 3 then (((10 + v1) + 50) - v1) else (if v0 = 4 then ((10 + v1) + 30) else (if v0 = 5 then (if v1 ≤ 4 then ((10 + v1) + 50) else (((10 + v1) + 50) + 9)) else (10 + v1))))))
set_option maxRecDepth 100000 in
set_option maxHeartbeats 8000000 in
theorem c_X5_toneOf (d : Nat) (v0 : Int32) (v1 : Int32) (mh : vMH) : MC LC (d + 0) yX5_toneOf cX5_toneOf 4 (some .int) [.int v0, .int v1] mh (some (.int (X5_toneOf v0 v1))) mh := by
  refine MC_of 2 (by decide) rfl (fun X C hG => ?_)
  replace C : Cx X (d + 0) 4 cX5_toneOf RX5 (some .int) := C
  show Vw LC X (d + 0) 4 0 [some (.int v0), some (.int v1), none, none] [] mh
  obtain ⟨res, h⟩ : ∃ res, X5_toneOf v0 v1 = res := ⟨_, rfl⟩
  rw [h] at hG
  unfold X5_toneOf at h
  refine V_bipush (pc := 0) C (v := 10) dX5_toneOf_0 (by decide) ?_
  refine V_iload_n (pc := 2) C dX5_toneOf_2 rfl rfl ?_
  refine V_iadd (pc := 3) C dX5_toneOf_3 ?_
  refine V_istore_n (pc := 4) C (lv' := [some (.int v0), some (.int v1), some (.int (10 + v1)), none]) dX5_toneOf_4 rfl (by decide) (Nat.le_of_ble_eq_true rfl) rfl rfl ?_
  refine V_iload_n (pc := 5) C dX5_toneOf_5 rfl rfl ?_
  refine V_bipush (pc := 6) C (v := 50) dX5_toneOf_6 (by decide) ?_
  refine V_iadd (pc := 8) C dX5_toneOf_8 ?_
  refine V_istore_n (pc := 9) C (lv' := [some (.int v0), some (.int v1), some (.int (10 + v1)), some (.int ((10 + v1) + 50))]) dX5_toneOf_9 rfl (by decide) (Nat.le_of_ble_eq_true rfl) rfl rfl ?_
  refine V_iload_n (pc := 10) C dX5_toneOf_10 rfl rfl ?_
  by_cases hc1 : v0 = 1
  · have h := it_t h hc1
    refine V_tab (pc := 11) (tgt := 44) C dX5_toneOf_11 (by decide) (v_tgt_k hc1 (by decide)) ?_
    refine V_iload_n (pc := 44) C dX5_toneOf_44 rfl rfl ?_
    exact V_iret (pc := 45) C (gdt h hG) dX5_toneOf_45
  · have h := it_f h hc1
    by_cases hc2 : v0 = 2
    · have h := it_t h hc2
      refine V_tab (pc := 11) (tgt := 46) C dX5_toneOf_11 (by decide) (v_tgt_k hc2 (by decide)) ?_
      refine V_iload_n (pc := 46) C dX5_toneOf_46 rfl rfl ?_
      refine V_iconst (pc := 47) C (v := 2) dX5_toneOf_47 (by decide) ?_
      refine V_idiv (pc := 48) C dX5_toneOf_48 (by decide) ?_
      exact V_iret (pc := 49) C (gdt h hG) dX5_toneOf_49
    · have h := it_f h hc2
      by_cases hc3 : v0 = 3
      · have h := it_t h hc3
        refine V_tab (pc := 11) (tgt := 50) C dX5_toneOf_11 (by decide) (v_tgt_k hc3 (by decide)) ?_
        refine V_iload_n (pc := 50) C dX5_toneOf_50 rfl rfl ?_
        refine V_iload_n (pc := 51) C dX5_toneOf_51 rfl rfl ?_
        refine V_isub (pc := 52) C dX5_toneOf_52 ?_
        exact V_iret (pc := 53) C (gdt h hG) dX5_toneOf_53
      · have h := it_f h hc3
        by_cases hc4 : v0 = 4
        · have h := it_t h hc4
          refine V_tab (pc := 11) (tgt := 54) C dX5_toneOf_11 (by decide) (v_tgt_k hc4 (by decide)) ?_
          refine V_iload_n (pc := 54) C dX5_toneOf_54 rfl rfl ?_
          refine V_bipush (pc := 55) C (v := 30) dX5_toneOf_55 (by decide) ?_
          refine V_iadd (pc := 57) C dX5_toneOf_57 ?_
          exact V_iret (pc := 58) C (gdt h hG) dX5_toneOf_58
        · have h := it_f h hc4
          by_cases hc5 : v0 = 5
          · have h := it_t h hc5
            refine V_tab (pc := 11) (tgt := 59) C dX5_toneOf_11 (by decide) (v_tgt_k hc5 (by decide)) ?_
            refine V_iload_n (pc := 59) C dX5_toneOf_59 rfl rfl ?_
            refine V_iconst (pc := 60) C (v := 4) dX5_toneOf_60 (by decide) ?_
            refine V_icmple (pc := 61) (tgt := 71) C dX5_toneOf_61 (by decide) (fun hc6 => ?_) (fun hc6 => ?_)
            · have h := it_t h hc6
              refine V_iload_n (pc := 71) C dX5_toneOf_71 rfl rfl ?_
              exact V_iret (pc := 72) C (gdt h hG) dX5_toneOf_72
            · have h := it_f h hc6
              refine V_iload_n (pc := 64) C dX5_toneOf_64 rfl rfl ?_
              refine V_bipush (pc := 65) C (v := 9) dX5_toneOf_65 (by decide) ?_
              refine V_iadd (pc := 67) C dX5_toneOf_67 ?_
              refine V_goto (pc := 68) (tgt := 72) C dX5_toneOf_68 (by decide) ?_
              exact V_iret (pc := 72) C (gdt h hG) dX5_toneOf_72
          · have h := it_f h hc5
            refine V_tab (pc := 11) (tgt := 73) C dX5_toneOf_11 (by decide) (v_tgt_d ⟨.inr (fun e => hc1 (e.trans (by decide))), .inr (fun e => hc2 (e.trans (by decide))), .inr (fun e => hc3 (e.trans (by decide))), .inr (fun e => hc4 (e.trans (by decide))), .inr (fun e => hc5 (e.trans (by decide))), trivial⟩ (by decide)) ?_
            refine V_iload_n (pc := 73) C dX5_toneOf_73 rfl rfl ?_
            exact V_iret (pc := 74) C (gdt h hG) dX5_toneOf_74
def X3_turned (v0 : Int32) (v1 : Int32) : Int32 := (if v0 = (-15) then (-v1) else (if v1 = 0 then 1 else 0))
set_option maxRecDepth 100000 in
set_option maxHeartbeats 8000000 in
theorem c_X3_turned (d : Nat) (v0 : Int32) (v1 : Int32) (mh : vMH) : MC LC (d + 0) yX3_turned cX3_turned 2 (some .int) [.int v0, .int v1] mh (some (.int (X3_turned v0 v1))) mh := by
  refine MC_of 0 (by decide) rfl (fun X C hG => ?_)
  replace C : Cx X (d + 0) 2 cX3_turned RX3 (some .int) := C
  show Vw LC X (d + 0) 2 0 [some (.int v0), some (.int v1)] [] mh
  obtain ⟨res, h⟩ : ∃ res, X3_turned v0 v1 = res := ⟨_, rfl⟩
  rw [h] at hG
  unfold X3_turned at h
  refine V_iload_n (pc := 0) C dX3_turned_0 rfl rfl ?_
  refine V_bipush (pc := 1) C (v := (-15)) dX3_turned_1 (by decide) ?_
  refine V_icmpne (pc := 3) (tgt := 9) C dX3_turned_3 (by decide) (fun hc1 => ?_) (fun hc1 => ?_)
  · have h := it_f h hc1
    refine V_iload_n (pc := 9) C dX3_turned_9 rfl rfl ?_
    refine V_ifne (pc := 10) (tgt := 17) C dX3_turned_10 (by decide) (fun hc2 => ?_) (fun hc2 => ?_)
    · have h := it_f h hc2
      refine V_iconst (pc := 17) C (v := 0) dX3_turned_17 (by decide) ?_
      exact V_iret (pc := 18) C (gdt h hG) dX3_turned_18
    · have h := it_t h hc2
      refine V_iconst (pc := 13) C (v := 1) dX3_turned_13 (by decide) ?_
      refine V_goto (pc := 14) (tgt := 18) C dX3_turned_14 (by decide) ?_
      exact V_iret (pc := 18) C (gdt h hG) dX3_turned_18
  · have h := it_t h hc1
    refine V_iload_n (pc := 6) C dX3_turned_6 rfl rfl ?_
    refine V_ineg (pc := 7) C dX3_turned_7 ?_
    exact V_iret (pc := 8) C (gdt h hG) dX3_turned_8
def X3_joined (v0 : Int32) (v1 : Int32) (v2 : Int32) : Int32 := (if v0 = (-13) then (v1 - v2) else (if v0 = (-12) then (v1 + v2) else (if v0 = (-11) then (if v1 = v2 then 1 else 0) else (if v0 = (-10) then (if v2 ≤ v1 then 0 else 1) else (if v0 = (-8) then (if v1 = 0 then 0 else (if v2 = 0 then 0 else 1)) else (if v0 = (-7) then (if v1 = 0 then (if v2 = 0 then 0 else 1) else 1) else (v1 * v2)))))))
set_option maxRecDepth 100000 in
set_option maxHeartbeats 8000000 in
theorem c_X3_joined (d : Nat) (v0 : Int32) (v1 : Int32) (v2 : Int32) (mh : vMH) : MC LC (d + 0) yX3_joined cX3_joined 3 (some .int) [.int v0, .int v1, .int v2] mh (some (.int (X3_joined v0 v1 v2))) mh := by
  refine MC_of 0 (by decide) rfl (fun X C hG => ?_)
  replace C : Cx X (d + 0) 3 cX3_joined RX3 (some .int) := C
  show Vw LC X (d + 0) 3 0 [some (.int v0), some (.int v1), some (.int v2)] [] mh
  obtain ⟨res, h⟩ : ∃ res, X3_joined v0 v1 v2 = res := ⟨_, rfl⟩
  rw [h] at hG
  unfold X3_joined at h
  refine V_iload_n (pc := 0) C dX3_joined_0 rfl rfl ?_
  by_cases hc1 : v0 = (-13)
  · have h := it_t h hc1
    refine V_tab (pc := 1) (tgt := 98) C dX3_joined_1 (by decide) (v_tgt_k hc1 (by decide)) ?_
    refine V_iload_n (pc := 98) C dX3_joined_98 rfl rfl ?_
    refine V_iload_n (pc := 99) C dX3_joined_99 rfl rfl ?_
    refine V_isub (pc := 100) C dX3_joined_100 ?_
    exact V_iret (pc := 101) C (gdt h hG) dX3_joined_101
  · have h := it_f h hc1
    by_cases hc2 : v0 = (-12)
    · have h := it_t h hc2
      refine V_tab (pc := 1) (tgt := 94) C dX3_joined_1 (by decide) (v_tgt_k hc2 (by decide)) ?_
      refine V_iload_n (pc := 94) C dX3_joined_94 rfl rfl ?_
      refine V_iload_n (pc := 95) C dX3_joined_95 rfl rfl ?_
      refine V_iadd (pc := 96) C dX3_joined_96 ?_
      exact V_iret (pc := 97) C (gdt h hG) dX3_joined_97
    · have h := it_f h hc2
      by_cases hc3 : v0 = (-11)
      · have h := it_t h hc3
        refine V_tab (pc := 1) (tgt := 83) C dX3_joined_1 (by decide) (v_tgt_k hc3 (by decide)) ?_
        refine V_iload_n (pc := 83) C dX3_joined_83 rfl rfl ?_
        refine V_iload_n (pc := 84) C dX3_joined_84 rfl rfl ?_
        refine V_icmpne (pc := 85) (tgt := 92) C dX3_joined_85 (by decide) (fun hc4 => ?_) (fun hc4 => ?_)
        · have h := it_f h hc4
          refine V_iconst (pc := 92) C (v := 0) dX3_joined_92 (by decide) ?_
          exact V_iret (pc := 93) C (gdt h hG) dX3_joined_93
        · have h := it_t h hc4
          refine V_iconst (pc := 88) C (v := 1) dX3_joined_88 (by decide) ?_
          refine V_goto (pc := 89) (tgt := 93) C dX3_joined_89 (by decide) ?_
          exact V_iret (pc := 93) C (gdt h hG) dX3_joined_93
      · have h := it_f h hc3
        by_cases hc5 : v0 = (-10)
        · have h := it_t h hc5
          refine V_tab (pc := 1) (tgt := 72) C dX3_joined_1 (by decide) (v_tgt_k hc5 (by decide)) ?_
          refine V_iload_n (pc := 72) C dX3_joined_72 rfl rfl ?_
          refine V_iload_n (pc := 73) C dX3_joined_73 rfl rfl ?_
          refine V_icmpge (pc := 74) (tgt := 81) C dX3_joined_74 (by decide) (fun hc6 => ?_) (fun hc6 => ?_)
          · have h := it_t h hc6
            refine V_iconst (pc := 81) C (v := 0) dX3_joined_81 (by decide) ?_
            exact V_iret (pc := 82) C (gdt h hG) dX3_joined_82
          · have h := it_f h hc6
            refine V_iconst (pc := 77) C (v := 1) dX3_joined_77 (by decide) ?_
            refine V_goto (pc := 78) (tgt := 82) C dX3_joined_78 (by decide) ?_
            exact V_iret (pc := 82) C (gdt h hG) dX3_joined_82
        · have h := it_f h hc5
          by_cases hc7 : v0 = (-8)
          · have h := it_t h hc7
            refine V_tab (pc := 1) (tgt := 58) C dX3_joined_1 (by decide) (v_tgt_k hc7 (by decide)) ?_
            refine V_iload_n (pc := 58) C dX3_joined_58 rfl rfl ?_
            refine V_ifeq (pc := 59) (tgt := 70) C dX3_joined_59 (by decide) (fun hc8 => ?_) (fun hc8 => ?_)
            · have h := it_t h hc8
              refine V_iconst (pc := 70) C (v := 0) dX3_joined_70 (by decide) ?_
              exact V_iret (pc := 71) C (gdt h hG) dX3_joined_71
            · have h := it_f h hc8
              refine V_iload_n (pc := 62) C dX3_joined_62 rfl rfl ?_
              refine V_ifeq (pc := 63) (tgt := 70) C dX3_joined_63 (by decide) (fun hc9 => ?_) (fun hc9 => ?_)
              · have h := it_t h hc9
                refine V_iconst (pc := 70) C (v := 0) dX3_joined_70 (by decide) ?_
                exact V_iret (pc := 71) C (gdt h hG) dX3_joined_71
              · have h := it_f h hc9
                refine V_iconst (pc := 66) C (v := 1) dX3_joined_66 (by decide) ?_
                refine V_goto (pc := 67) (tgt := 71) C dX3_joined_67 (by decide) ?_
                exact V_iret (pc := 71) C (gdt h hG) dX3_joined_71
          · have h := it_f h hc7
            by_cases hc10 : v0 = (-7)
            · have h := it_t h hc10
              refine V_tab (pc := 1) (tgt := 44) C dX3_joined_1 (by decide) (v_tgt_k hc10 (by decide)) ?_
              refine V_iload_n (pc := 44) C dX3_joined_44 rfl rfl ?_
              refine V_ifne (pc := 45) (tgt := 52) C dX3_joined_45 (by decide) (fun hc11 => ?_) (fun hc11 => ?_)
              · have h := it_f h hc11
                refine V_iconst (pc := 52) C (v := 1) dX3_joined_52 (by decide) ?_
                refine V_goto (pc := 53) (tgt := 57) C dX3_joined_53 (by decide) ?_
                exact V_iret (pc := 57) C (gdt h hG) dX3_joined_57
              · have h := it_t h hc11
                refine V_iload_n (pc := 48) C dX3_joined_48 rfl rfl ?_
                refine V_ifeq (pc := 49) (tgt := 56) C dX3_joined_49 (by decide) (fun hc12 => ?_) (fun hc12 => ?_)
                · have h := it_t h hc12
                  refine V_iconst (pc := 56) C (v := 0) dX3_joined_56 (by decide) ?_
                  exact V_iret (pc := 57) C (gdt h hG) dX3_joined_57
                · have h := it_f h hc12
                  refine V_iconst (pc := 52) C (v := 1) dX3_joined_52 (by decide) ?_
                  refine V_goto (pc := 53) (tgt := 57) C dX3_joined_53 (by decide) ?_
                  exact V_iret (pc := 57) C (gdt h hG) dX3_joined_57
            · have h := it_f h hc10
              refine V_tab (pc := 1) (tgt := 102) C dX3_joined_1 (by decide) (v_tgt_d ⟨.inr (fun e => hc1 (e.trans (by decide))), .inr (fun e => hc2 (e.trans (by decide))), .inr (fun e => hc3 (e.trans (by decide))), .inr (fun e => hc5 (e.trans (by decide))), .inl rfl, .inr (fun e => hc7 (e.trans (by decide))), .inr (fun e => hc10 (e.trans (by decide))), trivial⟩ (by decide)) ?_
              refine V_iload_n (pc := 102) C dX3_joined_102 rfl rfl ?_
              refine V_iload_n (pc := 103) C dX3_joined_103 rfl rfl ?_
              refine V_imul (pc := 104) C dX3_joined_104 ?_
              exact V_iret (pc := 105) C (gdt h hG) dX3_joined_105
def X3_run_L5 (v2 : Int32) (J2 : vMH → Option (Int32 × vMH)) (rec6 : Int32 → Int32 → vMH → Option (Int32 × vMH)) (v3_3 : Int32) (v4_4 : Int32) (mh5 : vMH) : Option (Int32 × vMH) := (if v2 ≤ v4_4 then (J2 mh5) else (if 960 ≤ v4_4 then (J2 mh5) else (chk (inb v4_4 960) (if (mh5.1 25 (jn v4_4)) < (-6) then (wj0 (if v3_3 < 1 then (rec6 v3_3 (v4_4 + 1) mh5) else (chk (inb (v3_3 - 1) 160) (rec6 v3_3 (v4_4 + 1) (v_up mh5 28 (jn (v3_3 - 1)) (X3_turned (mh5.1 25 (jn v4_4)) (mh5.1 28 (jn (v3_3 - 1)))))))) fun J11 => (if (mh5.1 25 (jn v4_4)) = (-9) then J11 else (if (mh5.1 25 (jn v4_4)) = (-15) then J11 else (if v3_3 < 2 then (rec6 v3_3 (v4_4 + 1) mh5) else (chk (inb ((v3_3 + (-1)) - 1) 160) (chk (inb (v3_3 + (-1)) 160) (rec6 (v3_3 + (-1)) (v4_4 + 1) (v_up mh5 28 (jn ((v3_3 + (-1)) - 1)) (X3_joined (mh5.1 25 (jn v4_4)) (mh5.1 28 (jn ((v3_3 + (-1)) - 1))) (mh5.1 28 (jn (v3_3 + (-1))))))))))))) else (if 160 ≤ v3_3 then (rec6 v3_3 (v4_4 + 1) mh5) else (wj1 (fun (s20 : Int32) => (chk (inb v3_3 160) (rec6 (v3_3 + 1) (v4_4 + 1) (v_up mh5 28 (jn v3_3) s20)))) fun J21 => (if (mh5.1 25 (jn v4_4)) < 0 then (chk (inb ((-1) - (mh5.1 25 (jn v4_4))) 6) (J21 (mh5.1 27 (jn ((-1) - (mh5.1 25 (jn v4_4))))))) else (J21 (mh5.1 25 (jn v4_4))))))))))
def X3_run (v1 : Int32) (v2 : Int32) (mh : vMH) : Option (Int32 × vMH) := (wj1 (fun (mh1 : vMH) => (some ((mh1.1 28 (jn 0)), mh1))) fun J2 => (lq3 4096 (X3_run_L5 v2 J2) 0 v1 mh))
set_option maxRecDepth 100000 in
set_option maxHeartbeats 8000000 in
theorem c_X3_run (d : Nat) (v1 : Int32) (v2 : Int32) (mh : vMH) {res : Int32 × vMH} (h : X3_run v1 v2 mh = some res) : MC LC (d + 1) yX3_run cX3_run 6 (some .int) [.ref 5, .int v1, .int v2] mh (some (.int res.1)) res.2 := by
  refine MC_of 3 (by decide) rfl (fun X C hG => ?_)
  replace C : Cx X (d + 1) 6 cX3_run RX3 (some .int) := C
  show Vw LC X (d + 1) 6 0 [some (.ref 5), some (.int v1), some (.int v2), none, none, none] [] mh
  unfold X3_run at h
  refine V_iconst (pc := 0) C (v := 0) dX3_run_0 (by decide) ?_
  refine V_istore_n (pc := 1) C (lv' := [some (.ref 5), some (.int v1), some (.int v2), some (.int 0), none, none]) dX3_run_1 rfl (by decide) (Nat.le_of_ble_eq_true rfl) rfl rfl ?_
  refine V_iload_n (pc := 2) C dX3_run_2 rfl rfl ?_
  refine V_istore (pc := 3) C (lv' := [some (.ref 5), some (.int v1), some (.int v2), some (.int 0), some (.int v1), none]) dX3_run_3 (by decide) (Nat.le_of_ble_eq_true rfl) rfl rfl ?_
  refine wj1_ok (fun (mh1 : vMH) => Vw LC X (d + 1) 6 161 [some (.ref 5), some (.int v1), some (.int v2), none, none, none] [] mh1) h (fun mh1 h => ?_) (fun J2 hJ2 h => ?_)
  · refine V_aload_n (pc := 161) C dX3_run_161 rfl rfl ?_
    refine V_getR (pc := 162) C (r' := 28) CF3 fl_X3_25 LO3 (by decide) rfl dX3_run_162 ?_
    refine V_iconst (pc := 165) C (v := 0) dX3_run_165 (by decide) ?_
    refine V_iald (pc := 166) C LAC28 (show inb 0 160 by decide) dX3_run_166 (v := (mh1.1 28 (jn 0))) rfl ?_
    exact V_iret (pc := 167) C (gdow h hG) dX3_run_167
  · refine lq3_ok (fun (v3_3 : Int32) (v4_4 : Int32) (mh5 : vMH) => Vw LC X (d + 1) 6 5 [some (.ref 5), some (.int v1), some (.int v2), some (.int v3_3), some (.int v4_4), none] [] mh5) h (fun rec6 hrec6 v3_3 v4_4 mh5 h => ?_)
    unfold X3_run_L5 at h
    refine V_iload (pc := 5) C dX3_run_5 rfl ?_
    refine V_iload_n (pc := 7) C dX3_run_7 rfl rfl ?_
    refine V_icmpge (pc := 8) (tgt := 161) C dX3_run_8 (by decide) (fun hc7 => ?_) (fun hc7 => ?_)
    · have h := it_t h hc7
      refine V_mask [true, true, true, false, false, true] (lv' := [some (.ref 5), some (.int v1), some (.int v2), none, none, none]) rfl ?_
      exact hJ2 mh5 h
    · have h := it_f h hc7
      refine V_iload (pc := 11) C dX3_run_11 rfl ?_
      refine V_aload_n (pc := 13) C dX3_run_13 rfl rfl ?_
      refine V_getR (pc := 14) C (r' := 25) CF3 fl_X3_15 LO3 (by decide) rfl dX3_run_14 ?_
      refine V_alen (pc := 17) C LAC25 (v := 960) (by decide) dX3_run_17 ?_
      refine V_icmpge (pc := 18) (tgt := 161) C dX3_run_18 (by decide) (fun hc8 => ?_) (fun hc8 => ?_)
      · have h := it_t h hc8
        refine V_mask [true, true, true, false, false, true] (lv' := [some (.ref 5), some (.int v1), some (.int v2), none, none, none]) rfl ?_
        exact hJ2 mh5 h
      · have h := it_f h hc8
        refine V_aload_n (pc := 21) C dX3_run_21 rfl rfl ?_
        refine V_getR (pc := 22) C (r' := 25) CF3 fl_X3_15 LO3 (by decide) rfl dX3_run_22 ?_
        refine V_iload (pc := 25) C dX3_run_25 rfl ?_
        obtain ⟨hi9, h⟩ := chk_ok h
        refine V_iald (pc := 27) C LAC25 hi9 dX3_run_27 (v := (mh5.1 25 (jn v4_4))) rfl ?_
        refine V_istore (pc := 28) C (lv' := [some (.ref 5), some (.int v1), some (.int v2), some (.int v3_3), some (.int v4_4), some (.int (mh5.1 25 (jn v4_4)))]) dX3_run_28 (by decide) (Nat.le_of_ble_eq_true rfl) rfl rfl ?_
        refine V_iload (pc := 30) C dX3_run_30 rfl ?_
        refine V_bipush (pc := 32) C (v := (-6)) dX3_run_32 (by decide) ?_
        refine V_icmplt (pc := 34) (tgt := 77) C dX3_run_34 (by decide) (fun hc10 => ?_) (fun hc10 => ?_)
        · have h := it_t h hc10
          refine V_iload (pc := 77) C dX3_run_77 rfl ?_
          refine V_bipush (pc := 79) C (v := (-9)) dX3_run_79 (by decide) ?_
          refine wj0_ok (Vw LC X (d + 1) 6 91 [some (.ref 5), some (.int v1), some (.int v2), some (.int v3_3), some (.int v4_4), some (.int (mh5.1 25 (jn v4_4)))] [] mh5) h (fun h => ?_) (fun J11 hJ11 h => ?_)
          · refine V_iload_n (pc := 91) C dX3_run_91 rfl rfl ?_
            refine V_iconst (pc := 92) C (v := 1) dX3_run_92 (by decide) ?_
            refine V_icmplt (pc := 93) (tgt := 155) C dX3_run_93 (by decide) (fun hc12 => ?_) (fun hc12 => ?_)
            · have h := it_t h hc12
              refine V_iinc (pc := 155) C (v := (v4_4 + 1)) (lv' := [some (.ref 5), some (.int v1), some (.int v2), some (.int v3_3), some (.int (v4_4 + 1)), some (.int (mh5.1 25 (jn v4_4)))]) dX3_run_155 rfl rfl (by decide) (Nat.le_of_ble_eq_true rfl) rfl rfl ?_
              refine V_goto (pc := 158) (tgt := 5) C dX3_run_158 (by decide) ?_
              refine V_mask [true, true, true, true, true, false] (lv' := [some (.ref 5), some (.int v1), some (.int v2), some (.int v3_3), some (.int (v4_4 + 1)), none]) rfl ?_
              exact hrec6 v3_3 (v4_4 + 1) mh5 h
            · have h := it_f h hc12
              refine V_aload_n (pc := 96) C dX3_run_96 rfl rfl ?_
              refine V_getR (pc := 97) C (r' := 28) CF3 fl_X3_25 LO3 (by decide) rfl dX3_run_97 ?_
              refine V_iload_n (pc := 100) C dX3_run_100 rfl rfl ?_
              refine V_iconst (pc := 101) C (v := 1) dX3_run_101 (by decide) ?_
              refine V_isub (pc := 102) C dX3_run_102 ?_
              refine V_iload (pc := 103) C dX3_run_103 rfl ?_
              refine V_aload_n (pc := 105) C dX3_run_105 rfl rfl ?_
              refine V_getR (pc := 106) C (r' := 28) CF3 fl_X3_25 LO3 (by decide) rfl dX3_run_106 ?_
              refine V_iload_n (pc := 109) C dX3_run_109 rfl rfl ?_
              refine V_iconst (pc := 110) C (v := 1) dX3_run_110 (by decide) ?_
              refine V_isub (pc := 111) C dX3_run_111 ?_
              obtain ⟨hi13, h⟩ := chk_ok h
              refine V_iald (pc := 112) C LAC28 hi13 dX3_run_112 (v := (mh5.1 28 (jn (v3_3 - 1)))) rfl ?_
              refine V_callSi (pc := 113) (rest := [.int (v3_3 - 1), .ref 28]) C cs_X3_82 (c_X3_turned (d + 0) (mh5.1 25 (jn v4_4)) (mh5.1 28 (jn (v3_3 - 1))) mh5) (by omega) (by decide) rfl rfl (Nat.le_of_ble_eq_true rfl) dX3_run_113 ?_
              refine V_iast (pc := 116) C LAC28 hi13 dX3_run_116 ?_
              refine V_goto (pc := 117) (tgt := 155) C dX3_run_117 (by decide) ?_
              refine V_iinc (pc := 155) C (v := (v4_4 + 1)) (lv' := [some (.ref 5), some (.int v1), some (.int v2), some (.int v3_3), some (.int (v4_4 + 1)), some (.int (mh5.1 25 (jn v4_4)))]) dX3_run_155 rfl rfl (by decide) (Nat.le_of_ble_eq_true rfl) rfl rfl ?_
              refine V_goto (pc := 158) (tgt := 5) C dX3_run_158 (by decide) ?_
              refine V_mask [true, true, true, true, true, false] (lv' := [some (.ref 5), some (.int v1), some (.int v2), some (.int v3_3), some (.int (v4_4 + 1)), none]) rfl ?_
              exact hrec6 v3_3 (v4_4 + 1) (v_up mh5 28 (jn (v3_3 - 1)) (X3_turned (mh5.1 25 (jn v4_4)) (mh5.1 28 (jn (v3_3 - 1))))) h
          · refine V_icmpeq (pc := 81) (tgt := 91) C dX3_run_81 (by decide) (fun hc14 => ?_) (fun hc14 => ?_)
            · have h := it_t h hc14
              exact hJ11 h
            · have h := it_f h hc14
              refine V_iload (pc := 84) C dX3_run_84 rfl ?_
              refine V_bipush (pc := 86) C (v := (-15)) dX3_run_86 (by decide) ?_
              refine V_icmpne (pc := 88) (tgt := 120) C dX3_run_88 (by decide) (fun hc15 => ?_) (fun hc15 => ?_)
              · have h := it_f h hc15
                refine V_iload_n (pc := 120) C dX3_run_120 rfl rfl ?_
                refine V_iconst (pc := 121) C (v := 2) dX3_run_121 (by decide) ?_
                refine V_icmplt (pc := 122) (tgt := 155) C dX3_run_122 (by decide) (fun hc16 => ?_) (fun hc16 => ?_)
                · have h := it_t h hc16
                  refine V_iinc (pc := 155) C (v := (v4_4 + 1)) (lv' := [some (.ref 5), some (.int v1), some (.int v2), some (.int v3_3), some (.int (v4_4 + 1)), some (.int (mh5.1 25 (jn v4_4)))]) dX3_run_155 rfl rfl (by decide) (Nat.le_of_ble_eq_true rfl) rfl rfl ?_
                  refine V_goto (pc := 158) (tgt := 5) C dX3_run_158 (by decide) ?_
                  refine V_mask [true, true, true, true, true, false] (lv' := [some (.ref 5), some (.int v1), some (.int v2), some (.int v3_3), some (.int (v4_4 + 1)), none]) rfl ?_
                  exact hrec6 v3_3 (v4_4 + 1) mh5 h
                · have h := it_f h hc16
                  refine V_iinc (pc := 125) C (v := (v3_3 + (-1))) (lv' := [some (.ref 5), some (.int v1), some (.int v2), some (.int (v3_3 + (-1))), some (.int v4_4), some (.int (mh5.1 25 (jn v4_4)))]) dX3_run_125 rfl rfl (by decide) (Nat.le_of_ble_eq_true rfl) rfl rfl ?_
                  refine V_aload_n (pc := 128) C dX3_run_128 rfl rfl ?_
                  refine V_getR (pc := 129) C (r' := 28) CF3 fl_X3_25 LO3 (by decide) rfl dX3_run_129 ?_
                  refine V_iload_n (pc := 132) C dX3_run_132 rfl rfl ?_
                  refine V_iconst (pc := 133) C (v := 1) dX3_run_133 (by decide) ?_
                  refine V_isub (pc := 134) C dX3_run_134 ?_
                  refine V_iload (pc := 135) C dX3_run_135 rfl ?_
                  refine V_aload_n (pc := 137) C dX3_run_137 rfl rfl ?_
                  refine V_getR (pc := 138) C (r' := 28) CF3 fl_X3_25 LO3 (by decide) rfl dX3_run_138 ?_
                  refine V_iload_n (pc := 141) C dX3_run_141 rfl rfl ?_
                  refine V_iconst (pc := 142) C (v := 1) dX3_run_142 (by decide) ?_
                  refine V_isub (pc := 143) C dX3_run_143 ?_
                  obtain ⟨hi17, h⟩ := chk_ok h
                  refine V_iald (pc := 144) C LAC28 hi17 dX3_run_144 (v := (mh5.1 28 (jn ((v3_3 + (-1)) - 1)))) rfl ?_
                  refine V_aload_n (pc := 145) C dX3_run_145 rfl rfl ?_
                  refine V_getR (pc := 146) C (r' := 28) CF3 fl_X3_25 LO3 (by decide) rfl dX3_run_146 ?_
                  refine V_iload_n (pc := 149) C dX3_run_149 rfl rfl ?_
                  obtain ⟨hi18, h⟩ := chk_ok h
                  refine V_iald (pc := 150) C LAC28 hi18 dX3_run_150 (v := (mh5.1 28 (jn (v3_3 + (-1))))) rfl ?_
                  refine V_callSi (pc := 151) (rest := [.int ((v3_3 + (-1)) - 1), .ref 28]) C cs_X3_85 (c_X3_joined (d + 0) (mh5.1 25 (jn v4_4)) (mh5.1 28 (jn ((v3_3 + (-1)) - 1))) (mh5.1 28 (jn (v3_3 + (-1)))) mh5) (by omega) (by decide) rfl rfl (Nat.le_of_ble_eq_true rfl) dX3_run_151 ?_
                  refine V_iast (pc := 154) C LAC28 hi17 dX3_run_154 ?_
                  refine V_iinc (pc := 155) C (v := (v4_4 + 1)) (lv' := [some (.ref 5), some (.int v1), some (.int v2), some (.int (v3_3 + (-1))), some (.int (v4_4 + 1)), some (.int (mh5.1 25 (jn v4_4)))]) dX3_run_155 rfl rfl (by decide) (Nat.le_of_ble_eq_true rfl) rfl rfl ?_
                  refine V_goto (pc := 158) (tgt := 5) C dX3_run_158 (by decide) ?_
                  refine V_mask [true, true, true, true, true, false] (lv' := [some (.ref 5), some (.int v1), some (.int v2), some (.int (v3_3 + (-1))), some (.int (v4_4 + 1)), none]) rfl ?_
                  exact hrec6 (v3_3 + (-1)) (v4_4 + 1) (v_up mh5 28 (jn ((v3_3 + (-1)) - 1)) (X3_joined (mh5.1 25 (jn v4_4)) (mh5.1 28 (jn ((v3_3 + (-1)) - 1))) (mh5.1 28 (jn (v3_3 + (-1)))))) h
              · have h := it_t h hc15
                exact hJ11 h
        · have h := it_f h hc10
          refine V_iload_n (pc := 37) C dX3_run_37 rfl rfl ?_
          refine V_aload_n (pc := 38) C dX3_run_38 rfl rfl ?_
          refine V_getR (pc := 39) C (r' := 28) CF3 fl_X3_25 LO3 (by decide) rfl dX3_run_39 ?_
          refine V_alen (pc := 42) C LAC28 (v := 160) (by decide) dX3_run_42 ?_
          refine V_icmpge (pc := 43) (tgt := 155) C dX3_run_43 (by decide) (fun hc19 => ?_) (fun hc19 => ?_)
          · have h := it_t h hc19
            refine V_iinc (pc := 155) C (v := (v4_4 + 1)) (lv' := [some (.ref 5), some (.int v1), some (.int v2), some (.int v3_3), some (.int (v4_4 + 1)), some (.int (mh5.1 25 (jn v4_4)))]) dX3_run_155 rfl rfl (by decide) (Nat.le_of_ble_eq_true rfl) rfl rfl ?_
            refine V_goto (pc := 158) (tgt := 5) C dX3_run_158 (by decide) ?_
            refine V_mask [true, true, true, true, true, false] (lv' := [some (.ref 5), some (.int v1), some (.int v2), some (.int v3_3), some (.int (v4_4 + 1)), none]) rfl ?_
            exact hrec6 v3_3 (v4_4 + 1) mh5 h
          · have h := it_f h hc19
            refine V_aload_n (pc := 46) C dX3_run_46 rfl rfl ?_
            refine V_getR (pc := 47) C (r' := 28) CF3 fl_X3_25 LO3 (by decide) rfl dX3_run_47 ?_
            refine V_iload_n (pc := 50) C dX3_run_50 rfl rfl ?_
            refine V_iload (pc := 51) C dX3_run_51 rfl ?_
            refine wj1_ok (fun (s20 : Int32) => Vw LC X (d + 1) 6 70 [some (.ref 5), some (.int v1), some (.int v2), some (.int v3_3), some (.int v4_4), some (.int (mh5.1 25 (jn v4_4)))] [.int s20, .int v3_3, .ref 28] mh5) h (fun s20 h => ?_) (fun J21 hJ21 h => ?_)
            · obtain ⟨hi22, h⟩ := chk_ok h
              refine V_iast (pc := 70) C LAC28 hi22 dX3_run_70 ?_
              refine V_iinc (pc := 71) C (v := (v3_3 + 1)) (lv' := [some (.ref 5), some (.int v1), some (.int v2), some (.int (v3_3 + 1)), some (.int v4_4), some (.int (mh5.1 25 (jn v4_4)))]) dX3_run_71 rfl rfl (by decide) (Nat.le_of_ble_eq_true rfl) rfl rfl ?_
              refine V_goto (pc := 74) (tgt := 155) C dX3_run_74 (by decide) ?_
              refine V_iinc (pc := 155) C (v := (v4_4 + 1)) (lv' := [some (.ref 5), some (.int v1), some (.int v2), some (.int (v3_3 + 1)), some (.int (v4_4 + 1)), some (.int (mh5.1 25 (jn v4_4)))]) dX3_run_155 rfl rfl (by decide) (Nat.le_of_ble_eq_true rfl) rfl rfl ?_
              refine V_goto (pc := 158) (tgt := 5) C dX3_run_158 (by decide) ?_
              refine V_mask [true, true, true, true, true, false] (lv' := [some (.ref 5), some (.int v1), some (.int v2), some (.int (v3_3 + 1)), some (.int (v4_4 + 1)), none]) rfl ?_
              exact hrec6 (v3_3 + 1) (v4_4 + 1) (v_up mh5 28 (jn v3_3) s20) h
            · refine V_iflt (pc := 53) (tgt := 61) C dX3_run_53 (by decide) (fun hc23 => ?_) (fun hc23 => ?_)
              · have h := it_t h hc23
                refine V_aload_n (pc := 61) C dX3_run_61 rfl rfl ?_
                refine V_getR (pc := 62) C (r' := 27) CF3 fl_X3_22 LO3 (by decide) rfl dX3_run_62 ?_
                refine V_iconst (pc := 65) C (v := (-1)) dX3_run_65 (by decide) ?_
                refine V_iload (pc := 66) C dX3_run_66 rfl ?_
                refine V_isub (pc := 68) C dX3_run_68 ?_
                obtain ⟨hi24, h⟩ := chk_ok h
                refine V_iald (pc := 69) C LAC27 hi24 dX3_run_69 (v := (mh5.1 27 (jn ((-1) - (mh5.1 25 (jn v4_4)))))) rfl ?_
                exact hJ21 (mh5.1 27 (jn ((-1) - (mh5.1 25 (jn v4_4))))) h
              · have h := it_f h hc23
                refine V_iload (pc := 56) C dX3_run_56 rfl ?_
                refine V_goto (pc := 58) (tgt := 70) C dX3_run_58 (by decide) ?_
                exact hJ21 (mh5.1 25 (jn v4_4)) h
def X3_reckon (r2 : Nat) (v1 : Int32) (v3 : Int32) (v4 : Int32) (mh : vMH) : Option (Int32 × vMH) := (if (X3_has (mh.1 r2 10) mh) = 0 then (some (0, mh)) else (if (X0_has r2 v3 mh) = 0 then (some (0, mh)) else (if (X5_isWithin v1 0 2) = 0 then (some (0, mh)) else (if (((mh.1 r2 10) * 3) + v1) < 18 then (chk (inb v3 12) (wj1 (fun (s6 : Int32) => (chk (inb (((mh.1 r2 10) * 3) + v1) 18) ((X3_run s6 (mh.1 26 (jn (((mh.1 r2 10) * 3) + v1))) (v_up (v_up (v_up (v_up (v_up (v_up mh 27 (jn 0) (X5_toneOf (mh.1 (4 * r2 + 5) (jn v3)) (mh.1 (4 * r2 + 8) (jn v3)))) 27 (jn 1) v4) 27 (jn 2) (mh.1 r2 6)) 27 (jn 3) (mh.1 r2 7)) 27 (jn 4) (((v_up (v_up (v_up (v_up mh 27 (jn 0) (X5_toneOf (mh.1 (4 * r2 + 5) (jn v3)) (mh.1 (4 * r2 + 8) (jn v3)))) 27 (jn 1) v4) 27 (jn 2) (mh.1 r2 6)) 27 (jn 3) (mh.1 r2 7)).1 (4 * r2 + 6) (jn v3)) / 8)) 27 (jn 5) (jr ((v_up (v_up (v_up (v_up (v_up mh 27 (jn 0) (X5_toneOf (mh.1 (4 * r2 + 5) (jn v3)) (mh.1 (4 * r2 + 8) (jn v3)))) 27 (jn 1) v4) 27 (jn 2) (mh.1 r2 6)) 27 (jn 3) (mh.1 r2 7)) 27 (jn 4) (((v_up (v_up (v_up (v_up mh 27 (jn 0) (X5_toneOf (mh.1 (4 * r2 + 5) (jn v3)) (mh.1 (4 * r2 + 8) (jn v3)))) 27 (jn 1) v4) 27 (jn 2) (mh.1 r2 6)) 27 (jn 3) (mh.1 r2 7)).1 (4 * r2 + 6) (jn v3)) / 8)).1 (4 * r2 + 6) (jn v3)) 8))).bind fun q9 => (if v1 = 0 then (some (q9.1, q9.2)) else (some ((X5_held q9.1 99), q9.2)))))) fun J7 => (if v1 = 0 then (J7 ((mh.1 r2 10) * 160)) else (chk (inb ((((mh.1 r2 10) * 3) + v1) - 1) 18) (J7 (mh.1 26 (jn ((((mh.1 r2 10) * 3) + v1) - 1)))))))) else (some (0, mh))))))
set_option maxRecDepth 100000 in
set_option maxHeartbeats 8000000 in
theorem c_X3_reckon (d : Nat) {r2 : Nat} (hr2 : isF r2) (v1 : Int32) (v3 : Int32) (v4 : Int32) (mh : vMH) {res : Int32 × vMH} (h : X3_reckon r2 v1 v3 v4 mh = some res) : MC LC (d + 2) yX3_reckon cX3_reckon 8 (some .int) [.ref 5, .int v1, .ref r2, .int v3, .int v4] mh (some (.int res.1)) res.2 := by
  refine MC_of 3 (by decide) rfl (fun X C hG => ?_)
  replace C : Cx X (d + 2) 8 cX3_reckon RX3 (some .int) := C
  show Vw LC X (d + 2) 8 0 [some (.ref 5), some (.int v1), some (.ref r2), some (.int v3), some (.int v4), none, none, none] [] mh
  unfold X3_reckon at h
  refine V_aload_n (pc := 0) C dX3_reckon_0 rfl rfl ?_
  refine V_getI (pc := 1) C CF0 fl_X3_43 (LO_F hr2) (by decide) rfl dX3_reckon_1 (v := (mh.1 r2 10)) rfl ?_
  refine V_iconst (pc := 4) C (v := 3) dX3_reckon_4 (by decide) ?_
  refine V_imul (pc := 5) C dX3_reckon_5 ?_
  refine V_iload_n (pc := 6) C dX3_reckon_6 rfl rfl ?_
  refine V_iadd (pc := 7) C dX3_reckon_7 ?_
  refine V_istore (pc := 8) C (lv' := [some (.ref 5), some (.int v1), some (.ref r2), some (.int v3), some (.int v4), some (.int (((mh.1 r2 10) * 3) + v1)), none, none]) dX3_reckon_8 (by decide) (Nat.le_of_ble_eq_true rfl) rfl rfl ?_
  refine V_aload_n (pc := 10) C dX3_reckon_10 rfl rfl ?_
  refine V_aload_n (pc := 11) C dX3_reckon_11 rfl rfl ?_
  refine V_getI (pc := 12) C CF0 fl_X3_43 (LO_F hr2) (by decide) rfl dX3_reckon_12 (v := (mh.1 r2 10)) rfl ?_
  refine V_callVi (pc := 15) (rest := []) C cs_X3_48 (c_X3_has (d + 1) (mh.1 r2 10) mh) CF3.1 LO3 (by omega) (by decide) rfl rfl (Nat.le_of_ble_eq_true rfl) dX3_reckon_15 ?_
  refine V_ifeq (pc := 18) (tgt := 48) C dX3_reckon_18 (by decide) (fun hc1 => ?_) (fun hc1 => ?_)
  · have h := it_t h hc1
    refine V_iconst (pc := 48) C (v := 0) dX3_reckon_48 (by decide) ?_
    exact V_iret (pc := 49) C (gdow h hG) dX3_reckon_49
  · have h := it_f h hc1
    refine V_aload_n (pc := 21) C dX3_reckon_21 rfl rfl ?_
    refine V_iload_n (pc := 22) C dX3_reckon_22 rfl rfl ?_
    refine V_callVi (pc := 23) (rest := []) C cs_X3_52 (c_X0_has (d + 1) hr2 v3 mh) CF0.1 (LO_F hr2) (by omega) (by decide) rfl rfl (Nat.le_of_ble_eq_true rfl) dX3_reckon_23 ?_
    refine V_ifeq (pc := 26) (tgt := 48) C dX3_reckon_26 (by decide) (fun hc2 => ?_) (fun hc2 => ?_)
    · have h := it_t h hc2
      refine V_iconst (pc := 48) C (v := 0) dX3_reckon_48 (by decide) ?_
      exact V_iret (pc := 49) C (gdow h hG) dX3_reckon_49
    · have h := it_f h hc2
      refine V_iload_n (pc := 29) C dX3_reckon_29 rfl rfl ?_
      refine V_iconst (pc := 30) C (v := 0) dX3_reckon_30 (by decide) ?_
      refine V_iconst (pc := 31) C (v := 2) dX3_reckon_31 (by decide) ?_
      refine V_callNi (pc := 32) (rest := []) C cs_X3_53 (c_X5_isWithin (d + 1) v1 0 2 mh) (by omega) (by decide) rfl rfl (Nat.le_of_ble_eq_true rfl) dX3_reckon_32 ?_
      refine V_ifeq (pc := 35) (tgt := 48) C dX3_reckon_35 (by decide) (fun hc3 => ?_) (fun hc3 => ?_)
      · have h := it_t h hc3
        refine V_iconst (pc := 48) C (v := 0) dX3_reckon_48 (by decide) ?_
        exact V_iret (pc := 49) C (gdow h hG) dX3_reckon_49
      · have h := it_f h hc3
        refine V_iload (pc := 38) C dX3_reckon_38 rfl ?_
        refine V_aload_n (pc := 40) C dX3_reckon_40 rfl rfl ?_
        refine V_getR (pc := 41) C (r' := 26) CF3 fl_X3_19 LO3 (by decide) rfl dX3_reckon_41 ?_
        refine V_alen (pc := 44) C LAC26 (v := 18) (by decide) dX3_reckon_44 ?_
        refine V_icmplt (pc := 45) (tgt := 50) C dX3_reckon_45 (by decide) (fun hc4 => ?_) (fun hc4 => ?_)
        · have h := it_t h hc4
          refine V_aload_n (pc := 50) C dX3_reckon_50 rfl rfl ?_
          refine V_getR (pc := 51) C (r' := 27) CF3 fl_X3_22 LO3 (by decide) rfl dX3_reckon_51 ?_
          refine V_iconst (pc := 54) C (v := 0) dX3_reckon_54 (by decide) ?_
          refine V_aload_n (pc := 55) C dX3_reckon_55 rfl rfl ?_
          refine V_getR (pc := 56) C (r' := (4 * r2 + 5)) CF0 fl_X3_57 (LO_F hr2) (by decide) rfl dX3_reckon_56 ?_
          refine V_iload_n (pc := 59) C dX3_reckon_59 rfl rfl ?_
          obtain ⟨hi5, h⟩ := chk_ok h
          refine V_iald (pc := 60) C (LA_F0 hr2) hi5 dX3_reckon_60 (v := (mh.1 (4 * r2 + 5) (jn v3))) rfl ?_
          refine V_aload_n (pc := 61) C dX3_reckon_61 rfl rfl ?_
          refine V_getR (pc := 62) C (r' := (4 * r2 + 8)) CF0 fl_X3_60 (LO_F hr2) (by decide) rfl dX3_reckon_62 ?_
          refine V_iload_n (pc := 65) C dX3_reckon_65 rfl rfl ?_
          refine V_iald (pc := 66) C (LA_F3 hr2) hi5 dX3_reckon_66 (v := (mh.1 (4 * r2 + 8) (jn v3))) rfl ?_
          refine V_callNi (pc := 67) (rest := [.int 0, .ref 27]) C cs_X3_63 (c_X5_toneOf (d + 1) (mh.1 (4 * r2 + 5) (jn v3)) (mh.1 (4 * r2 + 8) (jn v3)) mh) (by omega) (by decide) rfl rfl (Nat.le_of_ble_eq_true rfl) dX3_reckon_67 ?_
          refine V_iast (pc := 70) C LAC27 (show inb 0 6 by decide) dX3_reckon_70 ?_
          refine V_aload_n (pc := 71) C dX3_reckon_71 rfl rfl ?_
          refine V_getR (pc := 72) C (r' := 27) CF3 fl_X3_22 LO3 (by decide) rfl dX3_reckon_72 ?_
          refine V_iconst (pc := 75) C (v := 1) dX3_reckon_75 (by decide) ?_
          refine V_iload (pc := 76) C dX3_reckon_76 rfl ?_
          refine V_iast (pc := 78) C LAC27 (show inb 1 6 by decide) dX3_reckon_78 ?_
          refine V_aload_n (pc := 79) C dX3_reckon_79 rfl rfl ?_
          refine V_getR (pc := 80) C (r' := 27) CF3 fl_X3_22 LO3 (by decide) rfl dX3_reckon_80 ?_
          refine V_iconst (pc := 83) C (v := 2) dX3_reckon_83 (by decide) ?_
          refine V_aload_n (pc := 84) C dX3_reckon_84 rfl rfl ?_
          refine V_getI (pc := 85) C CF0 fl_X3_67 (LO_F hr2) (by decide) rfl dX3_reckon_85 (v := (mh.1 r2 6)) ((rd_oa (LO_F hr2) LAC27).trans (rd_oa (LO_F hr2) LAC27)) ?_
          refine V_iast (pc := 88) C LAC27 (show inb 2 6 by decide) dX3_reckon_88 ?_
          refine V_aload_n (pc := 89) C dX3_reckon_89 rfl rfl ?_
          refine V_getR (pc := 90) C (r' := 27) CF3 fl_X3_22 LO3 (by decide) rfl dX3_reckon_90 ?_
          refine V_iconst (pc := 93) C (v := 3) dX3_reckon_93 (by decide) ?_
          refine V_aload_n (pc := 94) C dX3_reckon_94 rfl rfl ?_
          refine V_getI (pc := 95) C CF0 fl_X3_70 (LO_F hr2) (by decide) rfl dX3_reckon_95 (v := (mh.1 r2 7)) ((rd_oa (LO_F hr2) LAC27).trans ((rd_oa (LO_F hr2) LAC27).trans (rd_oa (LO_F hr2) LAC27))) ?_
          refine V_iast (pc := 98) C LAC27 (show inb 3 6 by decide) dX3_reckon_98 ?_
          refine V_aload_n (pc := 99) C dX3_reckon_99 rfl rfl ?_
          refine V_getR (pc := 100) C (r' := 27) CF3 fl_X3_22 LO3 (by decide) rfl dX3_reckon_100 ?_
          refine V_iconst (pc := 103) C (v := 4) dX3_reckon_103 (by decide) ?_
          refine V_aload_n (pc := 104) C dX3_reckon_104 rfl rfl ?_
          refine V_getR (pc := 105) C (r' := (4 * r2 + 6)) CF0 fl_X3_73 (LO_F hr2) (by decide) rfl dX3_reckon_105 ?_
          refine V_iload_n (pc := 108) C dX3_reckon_108 rfl rfl ?_
          refine V_iald (pc := 109) C (LA_F1 hr2) hi5 dX3_reckon_109 (v := ((v_up (v_up (v_up (v_up mh 27 (jn 0) (X5_toneOf (mh.1 (4 * r2 + 5) (jn v3)) (mh.1 (4 * r2 + 8) (jn v3)))) 27 (jn 1) v4) 27 (jn 2) (mh.1 r2 6)) 27 (jn 3) (mh.1 r2 7)).1 (4 * r2 + 6) (jn v3))) rfl ?_
          refine V_bipush (pc := 110) C (v := 8) dX3_reckon_110 (by decide) ?_
          refine V_idiv (pc := 112) C dX3_reckon_112 (by decide) ?_
          refine V_iast (pc := 113) C LAC27 (show inb 4 6 by decide) dX3_reckon_113 ?_
          refine V_aload_n (pc := 114) C dX3_reckon_114 rfl rfl ?_
          refine V_getR (pc := 115) C (r' := 27) CF3 fl_X3_22 LO3 (by decide) rfl dX3_reckon_115 ?_
          refine V_iconst (pc := 118) C (v := 5) dX3_reckon_118 (by decide) ?_
          refine V_aload_n (pc := 119) C dX3_reckon_119 rfl rfl ?_
          refine V_getR (pc := 120) C (r' := (4 * r2 + 6)) CF0 fl_X3_73 (LO_F hr2) (by decide) rfl dX3_reckon_120 ?_
          refine V_iload_n (pc := 123) C dX3_reckon_123 rfl rfl ?_
          refine V_iald (pc := 124) C (LA_F1 hr2) hi5 dX3_reckon_124 (v := ((v_up (v_up (v_up (v_up (v_up mh 27 (jn 0) (X5_toneOf (mh.1 (4 * r2 + 5) (jn v3)) (mh.1 (4 * r2 + 8) (jn v3)))) 27 (jn 1) v4) 27 (jn 2) (mh.1 r2 6)) 27 (jn 3) (mh.1 r2 7)) 27 (jn 4) (((v_up (v_up (v_up (v_up mh 27 (jn 0) (X5_toneOf (mh.1 (4 * r2 + 5) (jn v3)) (mh.1 (4 * r2 + 8) (jn v3)))) 27 (jn 1) v4) 27 (jn 2) (mh.1 r2 6)) 27 (jn 3) (mh.1 r2 7)).1 (4 * r2 + 6) (jn v3)) / 8)).1 (4 * r2 + 6) (jn v3))) rfl ?_
          refine V_bipush (pc := 125) C (v := 8) dX3_reckon_125 (by decide) ?_
          refine V_irem (pc := 127) C dX3_reckon_127 (by decide) ?_
          refine V_iast (pc := 128) C LAC27 (show inb 5 6 by decide) dX3_reckon_128 ?_
          refine V_iload_n (pc := 129) C dX3_reckon_129 rfl rfl ?_
          refine wj1_ok (fun (s6 : Int32) => Vw LC X (d + 2) 8 153 [some (.ref 5), some (.int v1), some (.ref r2), some (.int v3), some (.int v4), some (.int (((mh.1 r2 10) * 3) + v1)), none, none] [.int s6] (v_up (v_up (v_up (v_up (v_up (v_up mh 27 (jn 0) (X5_toneOf (mh.1 (4 * r2 + 5) (jn v3)) (mh.1 (4 * r2 + 8) (jn v3)))) 27 (jn 1) v4) 27 (jn 2) (mh.1 r2 6)) 27 (jn 3) (mh.1 r2 7)) 27 (jn 4) (((v_up (v_up (v_up (v_up mh 27 (jn 0) (X5_toneOf (mh.1 (4 * r2 + 5) (jn v3)) (mh.1 (4 * r2 + 8) (jn v3)))) 27 (jn 1) v4) 27 (jn 2) (mh.1 r2 6)) 27 (jn 3) (mh.1 r2 7)).1 (4 * r2 + 6) (jn v3)) / 8)) 27 (jn 5) (jr ((v_up (v_up (v_up (v_up (v_up mh 27 (jn 0) (X5_toneOf (mh.1 (4 * r2 + 5) (jn v3)) (mh.1 (4 * r2 + 8) (jn v3)))) 27 (jn 1) v4) 27 (jn 2) (mh.1 r2 6)) 27 (jn 3) (mh.1 r2 7)) 27 (jn 4) (((v_up (v_up (v_up (v_up mh 27 (jn 0) (X5_toneOf (mh.1 (4 * r2 + 5) (jn v3)) (mh.1 (4 * r2 + 8) (jn v3)))) 27 (jn 1) v4) 27 (jn 2) (mh.1 r2 6)) 27 (jn 3) (mh.1 r2 7)).1 (4 * r2 + 6) (jn v3)) / 8)).1 (4 * r2 + 6) (jn v3)) 8))) h (fun s6 h => ?_) (fun J7 hJ7 h => ?_)
          · refine V_istore (pc := 153) C (lv' := [some (.ref 5), some (.int v1), some (.ref r2), some (.int v3), some (.int v4), some (.int (((mh.1 r2 10) * 3) + v1)), some (.int s6), none]) dX3_reckon_153 (by decide) (Nat.le_of_ble_eq_true rfl) rfl rfl ?_
            refine V_aload_n (pc := 155) C dX3_reckon_155 rfl rfl ?_
            refine V_iload (pc := 156) C dX3_reckon_156 rfl ?_
            refine V_aload_n (pc := 158) C dX3_reckon_158 rfl rfl ?_
            refine V_getR (pc := 159) C (r' := 26) CF3 fl_X3_19 LO3 (by decide) rfl dX3_reckon_159 ?_
            refine V_iload (pc := 162) C dX3_reckon_162 rfl ?_
            obtain ⟨hi8, h⟩ := chk_ok h
            refine V_iald (pc := 164) C LAC26 hi8 dX3_reckon_164 (v := (mh.1 26 (jn (((mh.1 r2 10) * 3) + v1)))) ((rd_ne (by decide)).trans ((rd_ne (by decide)).trans ((rd_ne (by decide)).trans ((rd_ne (by decide)).trans ((rd_ne (by decide)).trans (rd_ne (by decide))))))) ?_
            obtain ⟨q9, hq10, h⟩ := bnd_ok h
            refine V_callVi (pc := 165) (rest := []) C cs_X3_76 (c_X3_run (d + 0) s6 (mh.1 26 (jn (((mh.1 r2 10) * 3) + v1))) (v_up (v_up (v_up (v_up (v_up (v_up mh 27 (jn 0) (X5_toneOf (mh.1 (4 * r2 + 5) (jn v3)) (mh.1 (4 * r2 + 8) (jn v3)))) 27 (jn 1) v4) 27 (jn 2) (mh.1 r2 6)) 27 (jn 3) (mh.1 r2 7)) 27 (jn 4) (((v_up (v_up (v_up (v_up mh 27 (jn 0) (X5_toneOf (mh.1 (4 * r2 + 5) (jn v3)) (mh.1 (4 * r2 + 8) (jn v3)))) 27 (jn 1) v4) 27 (jn 2) (mh.1 r2 6)) 27 (jn 3) (mh.1 r2 7)).1 (4 * r2 + 6) (jn v3)) / 8)) 27 (jn 5) (jr ((v_up (v_up (v_up (v_up (v_up mh 27 (jn 0) (X5_toneOf (mh.1 (4 * r2 + 5) (jn v3)) (mh.1 (4 * r2 + 8) (jn v3)))) 27 (jn 1) v4) 27 (jn 2) (mh.1 r2 6)) 27 (jn 3) (mh.1 r2 7)) 27 (jn 4) (((v_up (v_up (v_up (v_up mh 27 (jn 0) (X5_toneOf (mh.1 (4 * r2 + 5) (jn v3)) (mh.1 (4 * r2 + 8) (jn v3)))) 27 (jn 1) v4) 27 (jn 2) (mh.1 r2 6)) 27 (jn 3) (mh.1 r2 7)).1 (4 * r2 + 6) (jn v3)) / 8)).1 (4 * r2 + 6) (jn v3)) 8)) hq10) CF3.1 LO3 (by omega) (by decide) rfl rfl (Nat.le_of_ble_eq_true rfl) dX3_reckon_165 ?_
            refine V_istore (pc := 168) C (lv' := [some (.ref 5), some (.int v1), some (.ref r2), some (.int v3), some (.int v4), some (.int (((mh.1 r2 10) * 3) + v1)), some (.int s6), some (.int q9.1)]) dX3_reckon_168 (by decide) (Nat.le_of_ble_eq_true rfl) rfl rfl ?_
            refine V_iload_n (pc := 170) C dX3_reckon_170 rfl rfl ?_
            refine V_ifne (pc := 171) (tgt := 179) C dX3_reckon_171 (by decide) (fun hc11 => ?_) (fun hc11 => ?_)
            · have h := it_f h hc11
              refine V_iload (pc := 179) C dX3_reckon_179 rfl ?_
              refine V_bipush (pc := 181) C (v := 99) dX3_reckon_181 (by decide) ?_
              refine V_callNi (pc := 183) (rest := []) C cs_X3_79 (c_X5_held (d + 1) q9.1 99 q9.2) (by omega) (by decide) rfl rfl (Nat.le_of_ble_eq_true rfl) dX3_reckon_183 ?_
              exact V_iret (pc := 186) C (gdow h hG) dX3_reckon_186
            · have h := it_t h hc11
              refine V_iload (pc := 174) C dX3_reckon_174 rfl ?_
              refine V_goto (pc := 176) (tgt := 186) C dX3_reckon_176 (by decide) ?_
              exact V_iret (pc := 186) C (gdow h hG) dX3_reckon_186
          · refine V_ifne (pc := 130) (tgt := 144) C dX3_reckon_130 (by decide) (fun hc12 => ?_) (fun hc12 => ?_)
            · have h := it_f h hc12
              refine V_aload_n (pc := 144) C dX3_reckon_144 rfl rfl ?_
              refine V_getR (pc := 145) C (r' := 26) CF3 fl_X3_19 LO3 (by decide) rfl dX3_reckon_145 ?_
              refine V_iload (pc := 148) C dX3_reckon_148 rfl ?_
              refine V_iconst (pc := 150) C (v := 1) dX3_reckon_150 (by decide) ?_
              refine V_isub (pc := 151) C dX3_reckon_151 ?_
              obtain ⟨hi13, h⟩ := chk_ok h
              refine V_iald (pc := 152) C LAC26 hi13 dX3_reckon_152 (v := (mh.1 26 (jn ((((mh.1 r2 10) * 3) + v1) - 1)))) ((rd_ne (by decide)).trans ((rd_ne (by decide)).trans ((rd_ne (by decide)).trans ((rd_ne (by decide)).trans ((rd_ne (by decide)).trans (rd_ne (by decide))))))) ?_
              exact hJ7 (mh.1 26 (jn ((((mh.1 r2 10) * 3) + v1) - 1))) h
            · have h := it_t h hc12
              refine V_aload_n (pc := 133) C dX3_reckon_133 rfl rfl ?_
              refine V_getI (pc := 134) C CF0 fl_X3_43 (LO_F hr2) (by decide) rfl dX3_reckon_134 (v := (mh.1 r2 10)) ((rd_oa (LO_F hr2) LAC27).trans ((rd_oa (LO_F hr2) LAC27).trans ((rd_oa (LO_F hr2) LAC27).trans ((rd_oa (LO_F hr2) LAC27).trans ((rd_oa (LO_F hr2) LAC27).trans (rd_oa (LO_F hr2) LAC27)))))) ?_
              refine V_sipush (pc := 137) C (v := 160) dX3_reckon_137 (by decide) ?_
              refine V_imul (pc := 140) C dX3_reckon_140 ?_
              refine V_goto (pc := 141) (tgt := 153) C dX3_reckon_141 (by decide) ?_
              exact hJ7 ((mh.1 r2 10) * 160) h
        · have h := it_f h hc4
          refine V_iconst (pc := 48) C (v := 0) dX3_reckon_48 (by decide) ?_
          exact V_iret (pc := 49) C (gdow h hG) dX3_reckon_49
def X4_beepIn_L8 (r1 : Nat) (v2 : Int32) (rec5 : Int32 → Int32 → Int32 → vMH → Option (Int32 × vMH)) (v3_1 : Int32) (v4_2 : Int32) (v5_3 : Int32) (mh4 : vMH) : Option (Int32 × vMH) := (if (mh4.1 r1 4) ≤ v5_3 then (some (v3_1, mh4)) else (chk (inb v5_3 12) (if (mh4.1 (4 * r1 + 6) (jn v5_3)) = v2 then (if (X0_lies r1 v5_3 mh4) = 0 then (rec5 v3_1 v4_2 (v5_3 + 1) mh4) else ((X0_heard r1 v5_3 mh4).bind fun q10 => (if q10 ≤ v4_2 then (rec5 v3_1 v4_2 (v5_3 + 1) mh4) else ((X3_reckon r1 1 v5_3 q10 mh4).bind fun q13 => (if q10 < q13.1 then (rec5 v3_1 v4_2 (v5_3 + 1) q13.2) else (rec5 v5_3 q10 (v5_3 + 1) q13.2)))))) else (rec5 v3_1 v4_2 (v5_3 + 1) mh4))))
def X4_beepIn (r1 : Nat) (v2 : Int32) (mh : vMH) : Option (Int32 × vMH) := (lq4 4096 (X4_beepIn_L8 r1 v2) (-1) (-1) 0 mh)
set_option maxRecDepth 100000 in
set_option maxHeartbeats 8000000 in
theorem c_X4_beepIn (d : Nat) {r1 : Nat} (hr1 : isF r1) (v2 : Int32) (mh : vMH) {res : Int32 × vMH} (h : X4_beepIn r1 v2 mh = some res) : MC LC (d + 3) yX4_beepIn cX4_beepIn 7 (some .int) [.ref 7, .ref r1, .int v2] mh (some (.int res.1)) res.2 := by
  refine MC_of 4 (by decide) rfl (fun X C hG => ?_)
  replace C : Cx X (d + 3) 7 cX4_beepIn RX4 (some .int) := C
  show Vw LC X (d + 3) 7 0 [some (.ref 7), some (.ref r1), some (.int v2), none, none, none, none] [] mh
  unfold X4_beepIn at h
  refine V_iconst (pc := 0) C (v := (-1)) dX4_beepIn_0 (by decide) ?_
  refine V_istore_n (pc := 1) C (lv' := [some (.ref 7), some (.ref r1), some (.int v2), some (.int (-1)), none, none, none]) dX4_beepIn_1 rfl (by decide) (Nat.le_of_ble_eq_true rfl) rfl rfl ?_
  refine V_iconst (pc := 2) C (v := (-1)) dX4_beepIn_2 (by decide) ?_
  refine V_istore (pc := 3) C (lv' := [some (.ref 7), some (.ref r1), some (.int v2), some (.int (-1)), some (.int (-1)), none, none]) dX4_beepIn_3 (by decide) (Nat.le_of_ble_eq_true rfl) rfl rfl ?_
  refine V_iconst (pc := 5) C (v := 0) dX4_beepIn_5 (by decide) ?_
  refine V_istore (pc := 6) C (lv' := [some (.ref 7), some (.ref r1), some (.int v2), some (.int (-1)), some (.int (-1)), some (.int 0), none]) dX4_beepIn_6 (by decide) (Nat.le_of_ble_eq_true rfl) rfl rfl ?_
  refine lq4_ok (fun (v3_1 : Int32) (v4_2 : Int32) (v5_3 : Int32) (mh4 : vMH) => Vw LC X (d + 3) 7 8 [some (.ref 7), some (.ref r1), some (.int v2), some (.int v3_1), some (.int v4_2), some (.int v5_3), none] [] mh4) h (fun rec5 hrec5 v3_1 v4_2 v5_3 mh4 h => ?_)
  unfold X4_beepIn_L8 at h
  refine V_iload (pc := 8) C dX4_beepIn_8 rfl ?_
  refine V_aload_n (pc := 10) C dX4_beepIn_10 rfl rfl ?_
  refine V_getI (pc := 11) C CF0 fl_X4_49 (LO_F hr1) (by decide) rfl dX4_beepIn_11 (v := (mh4.1 r1 4)) rfl ?_
  refine V_icmpge (pc := 14) (tgt := 86) C dX4_beepIn_14 (by decide) (fun hc6 => ?_) (fun hc6 => ?_)
  · have h := it_t h hc6
    refine V_iload_n (pc := 86) C dX4_beepIn_86 rfl rfl ?_
    exact V_iret (pc := 87) C (gdow h hG) dX4_beepIn_87
  · have h := it_f h hc6
    refine V_aload_n (pc := 17) C dX4_beepIn_17 rfl rfl ?_
    refine V_getR (pc := 18) C (r' := (4 * r1 + 6)) CF0 fl_X4_52 (LO_F hr1) (by decide) rfl dX4_beepIn_18 ?_
    refine V_iload (pc := 21) C dX4_beepIn_21 rfl ?_
    obtain ⟨hi7, h⟩ := chk_ok h
    refine V_iald (pc := 23) C (LA_F1 hr1) hi7 dX4_beepIn_23 (v := (mh4.1 (4 * r1 + 6) (jn v5_3))) rfl ?_
    refine V_iload_n (pc := 24) C dX4_beepIn_24 rfl rfl ?_
    refine V_icmpne (pc := 25) (tgt := 80) C dX4_beepIn_25 (by decide) (fun hc8 => ?_) (fun hc8 => ?_)
    · have h := it_f h hc8
      refine V_iinc (pc := 80) C (v := (v5_3 + 1)) (lv' := [some (.ref 7), some (.ref r1), some (.int v2), some (.int v3_1), some (.int v4_2), some (.int (v5_3 + 1)), none]) dX4_beepIn_80 rfl rfl (by decide) (Nat.le_of_ble_eq_true rfl) rfl rfl ?_
      refine V_goto (pc := 83) (tgt := 8) C dX4_beepIn_83 (by decide) ?_
      exact hrec5 v3_1 v4_2 (v5_3 + 1) mh4 h
    · have h := it_t h hc8
      refine V_aload_n (pc := 28) C dX4_beepIn_28 rfl rfl ?_
      refine V_iload (pc := 29) C dX4_beepIn_29 rfl ?_
      refine V_callVi (pc := 31) (rest := []) C cs_X4_26 (c_X0_lies (d + 1) hr1 v5_3 mh4) CF0.1 (LO_F hr1) (by omega) (by decide) rfl rfl (Nat.le_of_ble_eq_true rfl) dX4_beepIn_31 ?_
      refine V_ifne (pc := 34) (tgt := 40) C dX4_beepIn_34 (by decide) (fun hc9 => ?_) (fun hc9 => ?_)
      · have h := it_f h hc9
        refine V_aload_n (pc := 40) C dX4_beepIn_40 rfl rfl ?_
        refine V_iload (pc := 41) C dX4_beepIn_41 rfl ?_
        obtain ⟨q10, hq11, h⟩ := bnd_ok h
        refine V_callVi (pc := 43) (rest := []) C cs_X4_36 (c_X0_heard (d + 0) hr1 v5_3 mh4 hq11) CF0.1 (LO_F hr1) (by omega) (by decide) rfl rfl (Nat.le_of_ble_eq_true rfl) dX4_beepIn_43 ?_
        refine V_istore (pc := 46) C (lv' := [some (.ref 7), some (.ref r1), some (.int v2), some (.int v3_1), some (.int v4_2), some (.int v5_3), some (.int q10)]) dX4_beepIn_46 (by decide) (Nat.le_of_ble_eq_true rfl) rfl rfl ?_
        refine V_iload (pc := 48) C dX4_beepIn_48 rfl ?_
        refine V_iload (pc := 50) C dX4_beepIn_50 rfl ?_
        refine V_icmple (pc := 52) (tgt := 80) C dX4_beepIn_52 (by decide) (fun hc12 => ?_) (fun hc12 => ?_)
        · have h := it_t h hc12
          refine V_iinc (pc := 80) C (v := (v5_3 + 1)) (lv' := [some (.ref 7), some (.ref r1), some (.int v2), some (.int v3_1), some (.int v4_2), some (.int (v5_3 + 1)), some (.int q10)]) dX4_beepIn_80 rfl rfl (by decide) (Nat.le_of_ble_eq_true rfl) rfl rfl ?_
          refine V_goto (pc := 83) (tgt := 8) C dX4_beepIn_83 (by decide) ?_
          refine V_mask [true, true, true, true, true, true, false] (lv' := [some (.ref 7), some (.ref r1), some (.int v2), some (.int v3_1), some (.int v4_2), some (.int (v5_3 + 1)), none]) rfl ?_
          exact hrec5 v3_1 v4_2 (v5_3 + 1) mh4 h
        · have h := it_f h hc12
          refine V_iload (pc := 55) C dX4_beepIn_55 rfl ?_
          refine V_aload_n (pc := 57) C dX4_beepIn_57 rfl rfl ?_
          refine V_getR (pc := 58) C (r' := 5) CF4 fl_X4_15 LO4 (by decide) rfl dX4_beepIn_58 ?_
          refine V_iconst (pc := 61) C (v := 1) dX4_beepIn_61 (by decide) ?_
          refine V_aload_n (pc := 62) C dX4_beepIn_62 rfl rfl ?_
          refine V_iload (pc := 63) C dX4_beepIn_63 rfl ?_
          refine V_iload (pc := 65) C dX4_beepIn_65 rfl ?_
          obtain ⟨q13, hq14, h⟩ := bnd_ok h
          refine V_callVi (pc := 67) (rest := [.int q10]) C cs_X4_40 (c_X3_reckon (d + 0) hr1 1 v5_3 q10 mh4 hq14) CF3.1 LO3 (by omega) (by decide) rfl rfl (Nat.le_of_ble_eq_true rfl) dX4_beepIn_67 ?_
          refine V_icmplt (pc := 70) (tgt := 80) C dX4_beepIn_70 (by decide) (fun hc15 => ?_) (fun hc15 => ?_)
          · have h := it_t h hc15
            refine V_iinc (pc := 80) C (v := (v5_3 + 1)) (lv' := [some (.ref 7), some (.ref r1), some (.int v2), some (.int v3_1), some (.int v4_2), some (.int (v5_3 + 1)), some (.int q10)]) dX4_beepIn_80 rfl rfl (by decide) (Nat.le_of_ble_eq_true rfl) rfl rfl ?_
            refine V_goto (pc := 83) (tgt := 8) C dX4_beepIn_83 (by decide) ?_
            refine V_mask [true, true, true, true, true, true, false] (lv' := [some (.ref 7), some (.ref r1), some (.int v2), some (.int v3_1), some (.int v4_2), some (.int (v5_3 + 1)), none]) rfl ?_
            exact hrec5 v3_1 v4_2 (v5_3 + 1) q13.2 h
          · have h := it_f h hc15
            refine V_iload (pc := 73) C dX4_beepIn_73 rfl ?_
            refine V_istore (pc := 75) C (lv' := [some (.ref 7), some (.ref r1), some (.int v2), some (.int v3_1), some (.int q10), some (.int v5_3), some (.int q10)]) dX4_beepIn_75 (by decide) (Nat.le_of_ble_eq_true rfl) rfl rfl ?_
            refine V_iload (pc := 77) C dX4_beepIn_77 rfl ?_
            refine V_istore_n (pc := 79) C (lv' := [some (.ref 7), some (.ref r1), some (.int v2), some (.int v5_3), some (.int q10), some (.int v5_3), some (.int q10)]) dX4_beepIn_79 rfl (by decide) (Nat.le_of_ble_eq_true rfl) rfl rfl ?_
            refine V_iinc (pc := 80) C (v := (v5_3 + 1)) (lv' := [some (.ref 7), some (.ref r1), some (.int v2), some (.int v5_3), some (.int q10), some (.int (v5_3 + 1)), some (.int q10)]) dX4_beepIn_80 rfl rfl (by decide) (Nat.le_of_ble_eq_true rfl) rfl rfl ?_
            refine V_goto (pc := 83) (tgt := 8) C dX4_beepIn_83 (by decide) ?_
            refine V_mask [true, true, true, true, true, true, false] (lv' := [some (.ref 7), some (.ref r1), some (.int v2), some (.int v5_3), some (.int q10), some (.int (v5_3 + 1)), none]) rfl ?_
            exact hrec5 v5_3 q10 (v5_3 + 1) q13.2 h
      · have h := it_t h hc9
        refine V_goto (pc := 37) (tgt := 80) C dX4_beepIn_37 (by decide) ?_
        refine V_iinc (pc := 80) C (v := (v5_3 + 1)) (lv' := [some (.ref 7), some (.ref r1), some (.int v2), some (.int v3_1), some (.int v4_2), some (.int (v5_3 + 1)), none]) dX4_beepIn_80 rfl rfl (by decide) (Nat.le_of_ble_eq_true rfl) rfl rfl ?_
        refine V_goto (pc := 83) (tgt := 8) C dX4_beepIn_83 (by decide) ?_
        exact hrec5 v3_1 v4_2 (v5_3 + 1) mh4 h
def X4_digIn_L2 (r1 : Nat) (v2 : Int32) (rec3 : Int32 → vMH → Option (Int32 × vMH)) (v3_1 : Int32) (mh2 : vMH) : Option (Int32 × vMH) := (if 12 ≤ v3_1 then (some (12, mh2)) else ((X4_beepIn r1 v2 mh2).bind fun q5 => (if (X0_lies r1 q5.1 q5.2) = 0 then (some (v3_1, q5.2)) else (chk (inb q5.1 12) (if (q5.2.1 (4 * r1 + 7) (jn q5.1)) ≤ 10 then ((X0_heard r1 q5.1 q5.2).bind fun q10 => ((X3_reckon r1 0 q5.1 q10 q5.2).bind fun q12 => (if q12.1 = 0 then (some (v3_1, q12.2)) else ((X3_reckon r1 2 q5.1 q10 q12.2).bind fun q15 => (rec3 (v3_1 + 1) (v_up (v_up q15.2 7 1 ((q12.2.1 7 1) + q15.1)) r1 5 (((v_up q15.2 7 1 ((q12.2.1 7 1) + q15.1)).1 r1 5) ||| (jl 1 q5.1)))))))) else (some (v3_1, q5.2)))))))
def X4_digIn (r1 : Nat) (v2 : Int32) (mh : vMH) : Option (Int32 × vMH) := (lq2 4096 (X4_digIn_L2 r1 v2) 0 mh)
set_option maxRecDepth 100000 in
set_option maxHeartbeats 8000000 in
theorem c_X4_digIn (d : Nat) {r1 : Nat} (hr1 : isF r1) (v2 : Int32) (mh : vMH) {res : Int32 × vMH} (h : X4_digIn r1 v2 mh = some res) : MC LC (d + 4) yX4_digIn cX4_digIn 6 (some .int) [.ref 7, .ref r1, .int v2] mh (some (.int res.1)) res.2 := by
  refine MC_of 3 (by decide) rfl (fun X C hG => ?_)
  replace C : Cx X (d + 4) 6 cX4_digIn RX4 (some .int) := C
  show Vw LC X (d + 4) 6 0 [some (.ref 7), some (.ref r1), some (.int v2), none, none, none] [] mh
  unfold X4_digIn at h
  refine V_iconst (pc := 0) C (v := 0) dX4_digIn_0 (by decide) ?_
  refine V_istore_n (pc := 1) C (lv' := [some (.ref 7), some (.ref r1), some (.int v2), some (.int 0), none, none]) dX4_digIn_1 rfl (by decide) (Nat.le_of_ble_eq_true rfl) rfl rfl ?_
  refine lq2_ok (fun (v3_1 : Int32) (mh2 : vMH) => Vw LC X (d + 4) 6 2 [some (.ref 7), some (.ref r1), some (.int v2), some (.int v3_1), none, none] [] mh2) h (fun rec3 hrec3 v3_1 mh2 h => ?_)
  unfold X4_digIn_L2 at h
  refine V_iload_n (pc := 2) C dX4_digIn_2 rfl rfl ?_
  refine V_bipush (pc := 3) C (v := 12) dX4_digIn_3 (by decide) ?_
  refine V_icmpge (pc := 5) (tgt := 106) C dX4_digIn_5 (by decide) (fun hc4 => ?_) (fun hc4 => ?_)
  · have h := it_t h hc4
    refine V_bipush (pc := 106) C (v := 12) dX4_digIn_106 (by decide) ?_
    exact V_iret (pc := 108) C (gdow h hG) dX4_digIn_108
  · have h := it_f h hc4
    refine V_aload_n (pc := 8) C dX4_digIn_8 rfl rfl ?_
    refine V_aload_n (pc := 9) C dX4_digIn_9 rfl rfl ?_
    refine V_iload_n (pc := 10) C dX4_digIn_10 rfl rfl ?_
    obtain ⟨q5, hq6, h⟩ := bnd_ok h
    refine V_callVi (pc := 11) (rest := []) C cs_X4_23 (c_X4_beepIn (d + 0) hr1 v2 mh2 hq6) CF4.1 LO4 (by omega) (by decide) rfl rfl (Nat.le_of_ble_eq_true rfl) dX4_digIn_11 ?_
    refine V_istore (pc := 14) C (lv' := [some (.ref 7), some (.ref r1), some (.int v2), some (.int v3_1), some (.int q5.1), none]) dX4_digIn_14 (by decide) (Nat.le_of_ble_eq_true rfl) rfl rfl ?_
    refine V_aload_n (pc := 16) C dX4_digIn_16 rfl rfl ?_
    refine V_iload (pc := 17) C dX4_digIn_17 rfl ?_
    refine V_callVi (pc := 19) (rest := []) C cs_X4_26 (c_X0_lies (d + 2) hr1 q5.1 q5.2) CF0.1 (LO_F hr1) (by omega) (by decide) rfl rfl (Nat.le_of_ble_eq_true rfl) dX4_digIn_19 ?_
    refine V_ifeq (pc := 22) (tgt := 37) C dX4_digIn_22 (by decide) (fun hc7 => ?_) (fun hc7 => ?_)
    · have h := it_t h hc7
      refine V_iload_n (pc := 37) C dX4_digIn_37 rfl rfl ?_
      exact V_iret (pc := 38) C (gdow h hG) dX4_digIn_38
    · have h := it_f h hc7
      refine V_aload_n (pc := 25) C dX4_digIn_25 rfl rfl ?_
      refine V_getR (pc := 26) C (r' := (4 * r1 + 7)) CF0 fl_X4_32 (LO_F hr1) (by decide) rfl dX4_digIn_26 ?_
      refine V_iload (pc := 29) C dX4_digIn_29 rfl ?_
      obtain ⟨hi8, h⟩ := chk_ok h
      refine V_iald (pc := 31) C (LA_F2 hr1) hi8 dX4_digIn_31 (v := (q5.2.1 (4 * r1 + 7) (jn q5.1))) rfl ?_
      refine V_bipush (pc := 32) C (v := 10) dX4_digIn_32 (by decide) ?_
      refine V_icmple (pc := 34) (tgt := 39) C dX4_digIn_34 (by decide) (fun hc9 => ?_) (fun hc9 => ?_)
      · have h := it_t h hc9
        refine V_aload_n (pc := 39) C dX4_digIn_39 rfl rfl ?_
        refine V_iload (pc := 40) C dX4_digIn_40 rfl ?_
        obtain ⟨q10, hq11, h⟩ := bnd_ok h
        refine V_callVi (pc := 42) (rest := []) C cs_X4_36 (c_X0_heard (d + 1) hr1 q5.1 q5.2 hq11) CF0.1 (LO_F hr1) (by omega) (by decide) rfl rfl (Nat.le_of_ble_eq_true rfl) dX4_digIn_42 ?_
        refine V_istore (pc := 45) C (lv' := [some (.ref 7), some (.ref r1), some (.int v2), some (.int v3_1), some (.int q5.1), some (.int q10)]) dX4_digIn_45 (by decide) (Nat.le_of_ble_eq_true rfl) rfl rfl ?_
        refine V_aload_n (pc := 47) C dX4_digIn_47 rfl rfl ?_
        refine V_getR (pc := 48) C (r' := 5) CF4 fl_X4_15 LO4 (by decide) rfl dX4_digIn_48 ?_
        refine V_iconst (pc := 51) C (v := 0) dX4_digIn_51 (by decide) ?_
        refine V_aload_n (pc := 52) C dX4_digIn_52 rfl rfl ?_
        refine V_iload (pc := 53) C dX4_digIn_53 rfl ?_
        refine V_iload (pc := 55) C dX4_digIn_55 rfl ?_
        obtain ⟨q12, hq13, h⟩ := bnd_ok h
        refine V_callVi (pc := 57) (rest := []) C cs_X4_40 (c_X3_reckon (d + 1) hr1 0 q5.1 q10 q5.2 hq13) CF3.1 LO3 (by omega) (by decide) rfl rfl (Nat.le_of_ble_eq_true rfl) dX4_digIn_57 ?_
        refine V_ifne (pc := 60) (tgt := 65) C dX4_digIn_60 (by decide) (fun hc14 => ?_) (fun hc14 => ?_)
        · have h := it_f h hc14
          refine V_aload_n (pc := 65) C dX4_digIn_65 rfl rfl ?_
          refine V_dup (pc := 66) C dX4_digIn_66 rfl ?_
          refine V_getI (pc := 67) C CF4 fl_X4_9 LO4 (by decide) rfl dX4_digIn_67 (v := (q12.2.1 7 1)) rfl ?_
          refine V_aload_n (pc := 70) C dX4_digIn_70 rfl rfl ?_
          refine V_getR (pc := 71) C (r' := 5) CF4 fl_X4_15 LO4 (by decide) rfl dX4_digIn_71 ?_
          refine V_iconst (pc := 74) C (v := 2) dX4_digIn_74 (by decide) ?_
          refine V_aload_n (pc := 75) C dX4_digIn_75 rfl rfl ?_
          refine V_iload (pc := 76) C dX4_digIn_76 rfl ?_
          refine V_iload (pc := 78) C dX4_digIn_78 rfl ?_
          obtain ⟨q15, hq16, h⟩ := bnd_ok h
          refine V_callVi (pc := 80) (rest := [.int (q12.2.1 7 1), .ref 7]) C cs_X4_40 (c_X3_reckon (d + 1) hr1 2 q5.1 q10 q12.2 hq16) CF3.1 LO3 (by omega) (by decide) rfl rfl (Nat.le_of_ble_eq_true rfl) dX4_digIn_80 ?_
          refine V_iadd (pc := 83) C dX4_digIn_83 ?_
          refine V_putI (pc := 84) C CF4 fl_X4_9 LO4 (by decide) rfl rfl rfl dX4_digIn_84 ?_
          refine V_aload_n (pc := 87) C dX4_digIn_87 rfl rfl ?_
          refine V_dup (pc := 88) C dX4_digIn_88 rfl ?_
          refine V_getI (pc := 89) C CF0 fl_X4_46 (LO_F hr1) (by decide) rfl dX4_digIn_89 (v := ((v_up q15.2 7 1 ((q12.2.1 7 1) + q15.1)).1 r1 5)) rfl ?_
          refine V_iconst (pc := 92) C (v := 1) dX4_digIn_92 (by decide) ?_
          refine V_iload (pc := 93) C dX4_digIn_93 rfl ?_
          refine V_ishl (pc := 95) C dX4_digIn_95 ?_
          refine V_ior (pc := 96) C dX4_digIn_96 ?_
          refine V_putI (pc := 97) C CF0 fl_X4_46 (LO_F hr1) (by decide) rfl rfl rfl dX4_digIn_97 ?_
          refine V_iinc (pc := 100) C (v := (v3_1 + 1)) (lv' := [some (.ref 7), some (.ref r1), some (.int v2), some (.int (v3_1 + 1)), some (.int q5.1), some (.int q10)]) dX4_digIn_100 rfl rfl (by decide) (Nat.le_of_ble_eq_true rfl) rfl rfl ?_
          refine V_goto (pc := 103) (tgt := 2) C dX4_digIn_103 (by decide) ?_
          refine V_mask [true, true, true, true, false, false] (lv' := [some (.ref 7), some (.ref r1), some (.int v2), some (.int (v3_1 + 1)), none, none]) rfl ?_
          exact hrec3 (v3_1 + 1) (v_up (v_up q15.2 7 1 ((q12.2.1 7 1) + q15.1)) r1 5 (((v_up q15.2 7 1 ((q12.2.1 7 1) + q15.1)).1 r1 5) ||| (jl 1 q5.1))) h
        · have h := it_t h hc14
          refine V_iload_n (pc := 63) C dX4_digIn_63 rfl rfl ?_
          exact V_iret (pc := 64) C (gdow h hG) dX4_digIn_64
      · have h := it_f h hc9
        refine V_iload_n (pc := 37) C dX4_digIn_37 rfl rfl ?_
        exact V_iret (pc := 38) C (gdow h hG) dX4_digIn_38
def X4_walkStrips_L32 (r1 : Nat) (v4_2 : Int32) (rec4 : Int32 → Int32 → vMH → Option (Int32 × vMH)) (rec10 : Int32 → Int32 → vMH → Option (Int32 × vMH)) (v3_7 : Int32) (v5_8 : Int32) (mh9 : vMH) : Option (Int32 × vMH) := (if 8 ≤ v5_8 then (rec4 v3_7 (v4_2 + 1) mh9) else (wj1 (fun (s12 : Int32) => ((X4_digIn r1 ((v4_2 * 8) + s12) mh9).bind fun q14 => (rec10 (v3_7 + q14.1) (v5_8 + 1) q14.2))) fun J13 => (if (jr v4_2 2) = 0 then (J13 v5_8) else (J13 (7 - v5_8)))))
def X4_walkStrips_L10 (r1 : Nat) (v2 : Int32) (rec4 : Int32 → Int32 → vMH → Option (Int32 × vMH)) (v3_1 : Int32) (v4_2 : Int32) (mh3 : vMH) : Option (Int32 × vMH) := (if 6 ≤ v4_2 then (some (v3_1, mh3)) else (if ((js v2 v4_2) &&& 1) = 0 then (rec4 v3_1 (v4_2 + 1) mh3) else (lq3 4096 (X4_walkStrips_L32 r1 v4_2 rec4) v3_1 0 mh3)))
def X4_walkStrips (r1 : Nat) (v2 : Int32) (mh : vMH) : Option (Int32 × vMH) := (lq3 4096 (X4_walkStrips_L10 r1 v2) 0 0 (v_up mh 7 1 0))
set_option maxRecDepth 100000 in
set_option maxHeartbeats 8000000 in
theorem c_X4_walkStrips (d : Nat) {r1 : Nat} (hr1 : isF r1) (v2 : Int32) (mh : vMH) {res : Int32 × vMH} (h : X4_walkStrips r1 v2 mh = some res) : MC LC (d + 5) yX4_walkStrips cX4_walkStrips 7 (some .int) [.ref 7, .ref r1, .int v2] mh (some (.int res.1)) res.2 := by
  refine MC_of 4 (by decide) rfl (fun X C hG => ?_)
  replace C : Cx X (d + 5) 7 cX4_walkStrips RX4 (some .int) := C
  show Vw LC X (d + 5) 7 0 [some (.ref 7), some (.ref r1), some (.int v2), none, none, none, none] [] mh
  unfold X4_walkStrips at h
  refine V_iconst (pc := 0) C (v := 0) dX4_walkStrips_0 (by decide) ?_
  refine V_istore_n (pc := 1) C (lv' := [some (.ref 7), some (.ref r1), some (.int v2), some (.int 0), none, none, none]) dX4_walkStrips_1 rfl (by decide) (Nat.le_of_ble_eq_true rfl) rfl rfl ?_
  refine V_aload_n (pc := 2) C dX4_walkStrips_2 rfl rfl ?_
  refine V_iconst (pc := 3) C (v := 0) dX4_walkStrips_3 (by decide) ?_
  refine V_putI (pc := 4) C CF4 fl_X4_9 LO4 (by decide) rfl rfl rfl dX4_walkStrips_4 ?_
  refine V_iconst (pc := 7) C (v := 0) dX4_walkStrips_7 (by decide) ?_
  refine V_istore (pc := 8) C (lv' := [some (.ref 7), some (.ref r1), some (.int v2), some (.int 0), some (.int 0), none, none]) dX4_walkStrips_8 (by decide) (Nat.le_of_ble_eq_true rfl) rfl rfl ?_
  refine lq3_ok (fun (v3_1 : Int32) (v4_2 : Int32) (mh3 : vMH) => Vw LC X (d + 5) 7 10 [some (.ref 7), some (.ref r1), some (.int v2), some (.int v3_1), some (.int v4_2), none, none] [] mh3) h (fun rec4 hrec4 v3_1 v4_2 mh3 h => ?_)
  unfold X4_walkStrips_L10 at h
  refine V_iload (pc := 10) C dX4_walkStrips_10 rfl ?_
  refine V_bipush (pc := 12) C (v := 6) dX4_walkStrips_12 (by decide) ?_
  refine V_icmpge (pc := 14) (tgt := 86) C dX4_walkStrips_14 (by decide) (fun hc5 => ?_) (fun hc5 => ?_)
  · have h := it_t h hc5
    refine V_iload_n (pc := 86) C dX4_walkStrips_86 rfl rfl ?_
    exact V_iret (pc := 87) C (gdow h hG) dX4_walkStrips_87
  · have h := it_f h hc5
    refine V_iload_n (pc := 17) C dX4_walkStrips_17 rfl rfl ?_
    refine V_iload (pc := 18) C dX4_walkStrips_18 rfl ?_
    refine V_ishr (pc := 20) C dX4_walkStrips_20 ?_
    refine V_iconst (pc := 21) C (v := 1) dX4_walkStrips_21 (by decide) ?_
    refine V_iand (pc := 22) C dX4_walkStrips_22 ?_
    refine V_ifne (pc := 23) (tgt := 29) C dX4_walkStrips_23 (by decide) (fun hc6 => ?_) (fun hc6 => ?_)
    · have h := it_f h hc6
      refine V_iconst (pc := 29) C (v := 0) dX4_walkStrips_29 (by decide) ?_
      refine V_istore (pc := 30) C (lv' := [some (.ref 7), some (.ref r1), some (.int v2), some (.int v3_1), some (.int v4_2), some (.int 0), none]) dX4_walkStrips_30 (by decide) (Nat.le_of_ble_eq_true rfl) rfl rfl ?_
      refine lq3_ok (fun (v3_7 : Int32) (v5_8 : Int32) (mh9 : vMH) => Vw LC X (d + 5) 7 32 [some (.ref 7), some (.ref r1), some (.int v2), some (.int v3_7), some (.int v4_2), some (.int v5_8), none] [] mh9) h (fun rec10 hrec10 v3_7 v5_8 mh9 h => ?_)
      unfold X4_walkStrips_L32 at h
      refine V_iload (pc := 32) C dX4_walkStrips_32 rfl ?_
      refine V_bipush (pc := 34) C (v := 8) dX4_walkStrips_34 (by decide) ?_
      refine V_icmpge (pc := 36) (tgt := 80) C dX4_walkStrips_36 (by decide) (fun hc11 => ?_) (fun hc11 => ?_)
      · have h := it_t h hc11
        refine V_iinc (pc := 80) C (v := (v4_2 + 1)) (lv' := [some (.ref 7), some (.ref r1), some (.int v2), some (.int v3_7), some (.int (v4_2 + 1)), some (.int v5_8), none]) dX4_walkStrips_80 rfl rfl (by decide) (Nat.le_of_ble_eq_true rfl) rfl rfl ?_
        refine V_goto (pc := 83) (tgt := 10) C dX4_walkStrips_83 (by decide) ?_
        refine V_mask [true, true, true, true, true, false, true] (lv' := [some (.ref 7), some (.ref r1), some (.int v2), some (.int v3_7), some (.int (v4_2 + 1)), none, none]) rfl ?_
        exact hrec4 v3_7 (v4_2 + 1) mh9 h
      · have h := it_f h hc11
        refine V_iload (pc := 39) C dX4_walkStrips_39 rfl ?_
        refine V_iconst (pc := 41) C (v := 2) dX4_walkStrips_41 (by decide) ?_
        refine V_irem (pc := 42) C dX4_walkStrips_42 (by decide) ?_
        refine wj1_ok (fun (s12 : Int32) => Vw LC X (d + 5) 7 56 [some (.ref 7), some (.ref r1), some (.int v2), some (.int v3_7), some (.int v4_2), some (.int v5_8), none] [.int s12] mh9) h (fun s12 h => ?_) (fun J13 hJ13 h => ?_)
        · refine V_istore (pc := 56) C (lv' := [some (.ref 7), some (.ref r1), some (.int v2), some (.int v3_7), some (.int v4_2), some (.int v5_8), some (.int s12)]) dX4_walkStrips_56 (by decide) (Nat.le_of_ble_eq_true rfl) rfl rfl ?_
          refine V_iload_n (pc := 58) C dX4_walkStrips_58 rfl rfl ?_
          refine V_aload_n (pc := 59) C dX4_walkStrips_59 rfl rfl ?_
          refine V_aload_n (pc := 60) C dX4_walkStrips_60 rfl rfl ?_
          refine V_iload (pc := 61) C dX4_walkStrips_61 rfl ?_
          refine V_bipush (pc := 63) C (v := 8) dX4_walkStrips_63 (by decide) ?_
          refine V_imul (pc := 65) C dX4_walkStrips_65 ?_
          refine V_iload (pc := 66) C dX4_walkStrips_66 rfl ?_
          refine V_iadd (pc := 68) C dX4_walkStrips_68 ?_
          obtain ⟨q14, hq15, h⟩ := bnd_ok h
          refine V_callVi (pc := 69) (rest := [.int v3_7]) C cs_X4_19 (c_X4_digIn (d + 0) hr1 ((v4_2 * 8) + s12) mh9 hq15) CF4.1 LO4 (by omega) (by decide) rfl rfl (Nat.le_of_ble_eq_true rfl) dX4_walkStrips_69 ?_
          refine V_iadd (pc := 72) C dX4_walkStrips_72 ?_
          refine V_istore_n (pc := 73) C (lv' := [some (.ref 7), some (.ref r1), some (.int v2), some (.int (v3_7 + q14.1)), some (.int v4_2), some (.int v5_8), some (.int s12)]) dX4_walkStrips_73 rfl (by decide) (Nat.le_of_ble_eq_true rfl) rfl rfl ?_
          refine V_iinc (pc := 74) C (v := (v5_8 + 1)) (lv' := [some (.ref 7), some (.ref r1), some (.int v2), some (.int (v3_7 + q14.1)), some (.int v4_2), some (.int (v5_8 + 1)), some (.int s12)]) dX4_walkStrips_74 rfl rfl (by decide) (Nat.le_of_ble_eq_true rfl) rfl rfl ?_
          refine V_goto (pc := 77) (tgt := 32) C dX4_walkStrips_77 (by decide) ?_
          refine V_mask [true, true, true, true, true, true, false] (lv' := [some (.ref 7), some (.ref r1), some (.int v2), some (.int (v3_7 + q14.1)), some (.int v4_2), some (.int (v5_8 + 1)), none]) rfl ?_
          exact hrec10 (v3_7 + q14.1) (v5_8 + 1) q14.2 h
        · refine V_ifne (pc := 43) (tgt := 51) C dX4_walkStrips_43 (by decide) (fun hc16 => ?_) (fun hc16 => ?_)
          · have h := it_f h hc16
            refine V_bipush (pc := 51) C (v := 7) dX4_walkStrips_51 (by decide) ?_
            refine V_iload (pc := 53) C dX4_walkStrips_53 rfl ?_
            refine V_isub (pc := 55) C dX4_walkStrips_55 ?_
            exact hJ13 (7 - v5_8) h
          · have h := it_t h hc16
            refine V_iload (pc := 46) C dX4_walkStrips_46 rfl ?_
            refine V_goto (pc := 48) (tgt := 56) C dX4_walkStrips_48 (by decide) ?_
            exact hJ13 v5_8 h
    · have h := it_t h hc6
      refine V_goto (pc := 26) (tgt := 80) C dX4_walkStrips_26 (by decide) ?_
      refine V_iinc (pc := 80) C (v := (v4_2 + 1)) (lv' := [some (.ref 7), some (.ref r1), some (.int v2), some (.int v3_1), some (.int (v4_2 + 1)), none, none]) dX4_walkStrips_80 rfl rfl (by decide) (Nat.le_of_ble_eq_true rfl) rfl rfl ?_
      refine V_goto (pc := 83) (tgt := 10) C dX4_walkStrips_83 (by decide) ?_
      exact hrec4 v3_1 (v4_2 + 1) mh3 h
def X4_dugIfHeard_L4 (r1 : Nat) (rec4 : Int32 → Int32 → vMH → Option (Int32 × vMH)) (v2_1 : Int32) (v3_2 : Int32) (mh3 : vMH) : Option (Int32 × vMH) := (if (mh3.1 r1 4) ≤ v3_2 then (some (v2_1, mh3)) else (if (X0_lies r1 v3_2 mh3) = 0 then (rec4 v2_1 (v3_2 + 1) mh3) else ((X0_heard r1 v3_2 mh3).bind fun q7 => ((X3_reckon r1 1 v3_2 q7 mh3).bind fun q9 => (if q7 < q9.1 then (rec4 v2_1 (v3_2 + 1) q9.2) else ((X3_reckon r1 0 v3_2 q7 q9.2).bind fun q12 => (if q12.1 = 0 then (rec4 v2_1 (v3_2 + 1) q12.2) else (rec4 (v2_1 ||| (jl 1 v3_2)) (v3_2 + 1) q12.2))))))))
def X4_dugIfHeard (r1 : Nat) (mh : vMH) : Option (Int32 × vMH) := (lq3 4096 (X4_dugIfHeard_L4 r1) 0 0 mh)
set_option maxRecDepth 100000 in
set_option maxHeartbeats 8000000 in
theorem c_X4_dugIfHeard (d : Nat) {r1 : Nat} (hr1 : isF r1) (mh : vMH) {res : Int32 × vMH} (h : X4_dugIfHeard r1 mh = some res) : MC LC (d + 3) yX4_dugIfHeard cX4_dugIfHeard 5 (some .int) [.ref 7, .ref r1] mh (some (.int res.1)) res.2 := by
  refine MC_of 3 (by decide) rfl (fun X C hG => ?_)
  replace C : Cx X (d + 3) 5 cX4_dugIfHeard RX4 (some .int) := C
  show Vw LC X (d + 3) 5 0 [some (.ref 7), some (.ref r1), none, none, none] [] mh
  unfold X4_dugIfHeard at h
  refine V_iconst (pc := 0) C (v := 0) dX4_dugIfHeard_0 (by decide) ?_
  refine V_istore_n (pc := 1) C (lv' := [some (.ref 7), some (.ref r1), some (.int 0), none, none]) dX4_dugIfHeard_1 rfl (by decide) (Nat.le_of_ble_eq_true rfl) rfl rfl ?_
  refine V_iconst (pc := 2) C (v := 0) dX4_dugIfHeard_2 (by decide) ?_
  refine V_istore_n (pc := 3) C (lv' := [some (.ref 7), some (.ref r1), some (.int 0), some (.int 0), none]) dX4_dugIfHeard_3 rfl (by decide) (Nat.le_of_ble_eq_true rfl) rfl rfl ?_
  refine lq3_ok (fun (v2_1 : Int32) (v3_2 : Int32) (mh3 : vMH) => Vw LC X (d + 3) 5 4 [some (.ref 7), some (.ref r1), some (.int v2_1), some (.int v3_2), none] [] mh3) h (fun rec4 hrec4 v2_1 v3_2 mh3 h => ?_)
  unfold X4_dugIfHeard_L4 at h
  refine V_iload_n (pc := 4) C dX4_dugIfHeard_4 rfl rfl ?_
  refine V_aload_n (pc := 5) C dX4_dugIfHeard_5 rfl rfl ?_
  refine V_getI (pc := 6) C CF0 fl_X4_49 (LO_F hr1) (by decide) rfl dX4_dugIfHeard_6 (v := (mh3.1 r1 4)) rfl ?_
  refine V_icmpge (pc := 9) (tgt := 74) C dX4_dugIfHeard_9 (by decide) (fun hc5 => ?_) (fun hc5 => ?_)
  · have h := it_t h hc5
    refine V_iload_n (pc := 74) C dX4_dugIfHeard_74 rfl rfl ?_
    exact V_iret (pc := 75) C (gdow h hG) dX4_dugIfHeard_75
  · have h := it_f h hc5
    refine V_aload_n (pc := 12) C dX4_dugIfHeard_12 rfl rfl ?_
    refine V_iload_n (pc := 13) C dX4_dugIfHeard_13 rfl rfl ?_
    refine V_callVi (pc := 14) (rest := []) C cs_X4_26 (c_X0_lies (d + 1) hr1 v3_2 mh3) CF0.1 (LO_F hr1) (by omega) (by decide) rfl rfl (Nat.le_of_ble_eq_true rfl) dX4_dugIfHeard_14 ?_
    refine V_ifne (pc := 17) (tgt := 23) C dX4_dugIfHeard_17 (by decide) (fun hc6 => ?_) (fun hc6 => ?_)
    · have h := it_f h hc6
      refine V_aload_n (pc := 23) C dX4_dugIfHeard_23 rfl rfl ?_
      refine V_iload_n (pc := 24) C dX4_dugIfHeard_24 rfl rfl ?_
      obtain ⟨q7, hq8, h⟩ := bnd_ok h
      refine V_callVi (pc := 25) (rest := []) C cs_X4_36 (c_X0_heard (d + 0) hr1 v3_2 mh3 hq8) CF0.1 (LO_F hr1) (by omega) (by decide) rfl rfl (Nat.le_of_ble_eq_true rfl) dX4_dugIfHeard_25 ?_
      refine V_istore (pc := 28) C (lv' := [some (.ref 7), some (.ref r1), some (.int v2_1), some (.int v3_2), some (.int q7)]) dX4_dugIfHeard_28 (by decide) (Nat.le_of_ble_eq_true rfl) rfl rfl ?_
      refine V_iload (pc := 30) C dX4_dugIfHeard_30 rfl ?_
      refine V_aload_n (pc := 32) C dX4_dugIfHeard_32 rfl rfl ?_
      refine V_getR (pc := 33) C (r' := 5) CF4 fl_X4_15 LO4 (by decide) rfl dX4_dugIfHeard_33 ?_
      refine V_iconst (pc := 36) C (v := 1) dX4_dugIfHeard_36 (by decide) ?_
      refine V_aload_n (pc := 37) C dX4_dugIfHeard_37 rfl rfl ?_
      refine V_iload_n (pc := 38) C dX4_dugIfHeard_38 rfl rfl ?_
      refine V_iload (pc := 39) C dX4_dugIfHeard_39 rfl ?_
      obtain ⟨q9, hq10, h⟩ := bnd_ok h
      refine V_callVi (pc := 41) (rest := [.int q7]) C cs_X4_40 (c_X3_reckon (d + 0) hr1 1 v3_2 q7 mh3 hq10) CF3.1 LO3 (by omega) (by decide) rfl rfl (Nat.le_of_ble_eq_true rfl) dX4_dugIfHeard_41 ?_
      refine V_icmplt (pc := 44) (tgt := 68) C dX4_dugIfHeard_44 (by decide) (fun hc11 => ?_) (fun hc11 => ?_)
      · have h := it_t h hc11
        refine V_iinc (pc := 68) C (v := (v3_2 + 1)) (lv' := [some (.ref 7), some (.ref r1), some (.int v2_1), some (.int (v3_2 + 1)), some (.int q7)]) dX4_dugIfHeard_68 rfl rfl (by decide) (Nat.le_of_ble_eq_true rfl) rfl rfl ?_
        refine V_goto (pc := 71) (tgt := 4) C dX4_dugIfHeard_71 (by decide) ?_
        refine V_mask [true, true, true, true, false] (lv' := [some (.ref 7), some (.ref r1), some (.int v2_1), some (.int (v3_2 + 1)), none]) rfl ?_
        exact hrec4 v2_1 (v3_2 + 1) q9.2 h
      · have h := it_f h hc11
        refine V_aload_n (pc := 47) C dX4_dugIfHeard_47 rfl rfl ?_
        refine V_getR (pc := 48) C (r' := 5) CF4 fl_X4_15 LO4 (by decide) rfl dX4_dugIfHeard_48 ?_
        refine V_iconst (pc := 51) C (v := 0) dX4_dugIfHeard_51 (by decide) ?_
        refine V_aload_n (pc := 52) C dX4_dugIfHeard_52 rfl rfl ?_
        refine V_iload_n (pc := 53) C dX4_dugIfHeard_53 rfl rfl ?_
        refine V_iload (pc := 54) C dX4_dugIfHeard_54 rfl ?_
        obtain ⟨q12, hq13, h⟩ := bnd_ok h
        refine V_callVi (pc := 56) (rest := []) C cs_X4_40 (c_X3_reckon (d + 0) hr1 0 v3_2 q7 q9.2 hq13) CF3.1 LO3 (by omega) (by decide) rfl rfl (Nat.le_of_ble_eq_true rfl) dX4_dugIfHeard_56 ?_
        refine V_ifeq (pc := 59) (tgt := 68) C dX4_dugIfHeard_59 (by decide) (fun hc14 => ?_) (fun hc14 => ?_)
        · have h := it_t h hc14
          refine V_iinc (pc := 68) C (v := (v3_2 + 1)) (lv' := [some (.ref 7), some (.ref r1), some (.int v2_1), some (.int (v3_2 + 1)), some (.int q7)]) dX4_dugIfHeard_68 rfl rfl (by decide) (Nat.le_of_ble_eq_true rfl) rfl rfl ?_
          refine V_goto (pc := 71) (tgt := 4) C dX4_dugIfHeard_71 (by decide) ?_
          refine V_mask [true, true, true, true, false] (lv' := [some (.ref 7), some (.ref r1), some (.int v2_1), some (.int (v3_2 + 1)), none]) rfl ?_
          exact hrec4 v2_1 (v3_2 + 1) q12.2 h
        · have h := it_f h hc14
          refine V_iload_n (pc := 62) C dX4_dugIfHeard_62 rfl rfl ?_
          refine V_iconst (pc := 63) C (v := 1) dX4_dugIfHeard_63 (by decide) ?_
          refine V_iload_n (pc := 64) C dX4_dugIfHeard_64 rfl rfl ?_
          refine V_ishl (pc := 65) C dX4_dugIfHeard_65 ?_
          refine V_ior (pc := 66) C dX4_dugIfHeard_66 ?_
          refine V_istore_n (pc := 67) C (lv' := [some (.ref 7), some (.ref r1), some (.int (v2_1 ||| (jl 1 v3_2))), some (.int v3_2), some (.int q7)]) dX4_dugIfHeard_67 rfl (by decide) (Nat.le_of_ble_eq_true rfl) rfl rfl ?_
          refine V_iinc (pc := 68) C (v := (v3_2 + 1)) (lv' := [some (.ref 7), some (.ref r1), some (.int (v2_1 ||| (jl 1 v3_2))), some (.int (v3_2 + 1)), some (.int q7)]) dX4_dugIfHeard_68 rfl rfl (by decide) (Nat.le_of_ble_eq_true rfl) rfl rfl ?_
          refine V_goto (pc := 71) (tgt := 4) C dX4_dugIfHeard_71 (by decide) ?_
          refine V_mask [true, true, true, true, false] (lv' := [some (.ref 7), some (.ref r1), some (.int (v2_1 ||| (jl 1 v3_2))), some (.int (v3_2 + 1)), none]) rfl ?_
          exact hrec4 (v2_1 ||| (jl 1 v3_2)) (v3_2 + 1) q12.2 h
    · have h := it_t h hc6
      refine V_goto (pc := 20) (tgt := 68) C dX4_dugIfHeard_20 (by decide) ?_
      refine V_iinc (pc := 68) C (v := (v3_2 + 1)) (lv' := [some (.ref 7), some (.ref r1), some (.int v2_1), some (.int (v3_2 + 1)), none]) dX4_dugIfHeard_68 rfl rfl (by decide) (Nat.le_of_ble_eq_true rfl) rfl rfl ?_
      refine V_goto (pc := 71) (tgt := 4) C dX4_dugIfHeard_71 (by decide) ?_
      exact hrec4 v2_1 (v3_2 + 1) mh3 h
