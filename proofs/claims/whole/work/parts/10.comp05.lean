def X5_isUnder_L4 (v1 : Int32) (rec3 : Int32 → Int32 → Option (Int32)) (v2_1 : Int32) (v3_2 : Int32) : Option (Int32) := (if 6 ≤ v3_2 then (some 0) else (if v2_1 = v1 then (some 1) else (if v2_1 < 0 then (some 0) else (if v2_1 < 6 then (chk (inb v2_1 6) (rec3 (v_above (jn v2_1)) (v3_2 + 1))) else (some 0)))))
def X5_isUnder (v0 : Int32) (v1 : Int32) : Option (Int32) := (lq2 4096 (X5_isUnder_L4 v1) v0 0)
set_option maxRecDepth 100000 in
set_option maxHeartbeats 8000000 in
theorem c_X5_isUnder (d : Nat) (v0 : Int32) (v1 : Int32) (mh : vMH) {res : Int32} (h : X5_isUnder v0 v1 = some res) : MC LC (d + 0) yX5_isUnder cX5_isUnder 4 (some .boolean) [.int v0, .int v1] mh (some (.int res)) mh := by
  refine MC_of 2 (by decide) rfl (fun X C hG => ?_)
  replace C : Cx X (d + 0) 4 cX5_isUnder RX5 (some .boolean) := C
  show Vw LC X (d + 0) 4 0 [some (.int v0), some (.int v1), none, none] [] mh
  unfold X5_isUnder at h
  refine V_iload_n (pc := 0) C dX5_isUnder_0 rfl rfl ?_
  refine V_istore_n (pc := 1) C (lv' := [some (.int v0), some (.int v1), some (.int v0), none]) dX5_isUnder_1 rfl (by decide) (Nat.le_of_ble_eq_true rfl) rfl rfl ?_
  refine V_iconst (pc := 2) C (v := 0) dX5_isUnder_2 (by decide) ?_
  refine V_istore_n (pc := 3) C (lv' := [some (.int v0), some (.int v1), some (.int v0), some (.int 0)]) dX5_isUnder_3 rfl (by decide) (Nat.le_of_ble_eq_true rfl) rfl rfl ?_
  refine lq2_ok (fun (v2_1 : Int32) (v3_2 : Int32) => Vw LC X (d + 0) 4 4 [some (.int v0), some (.int v1), some (.int v2_1), some (.int v3_2)] [] mh) h (fun rec3 hrec3 v2_1 v3_2 h => ?_)
  unfold X5_isUnder_L4 at h
  refine V_iload_n (pc := 4) C dX5_isUnder_4 rfl rfl ?_
  refine V_above (pc := 5) C fs_X5_265 dX5_isUnder_5 ?_
  refine V_aboveLen (pc := 8) C dX5_isUnder_8 ?_
  refine V_icmpge (pc := 9) (tgt := 45) C dX5_isUnder_9 (by decide) (fun hc4 => ?_) (fun hc4 => ?_)
  · have h := it_t h hc4
    refine V_iconst (pc := 45) C (v := 0) dX5_isUnder_45 (by decide) ?_
    exact V_zret (pc := 46) C rfl (gdo h hG) dX5_isUnder_46
  · have h := it_f h hc4
    refine V_iload_n (pc := 12) C dX5_isUnder_12 rfl rfl ?_
    refine V_iload_n (pc := 13) C dX5_isUnder_13 rfl rfl ?_
    refine V_icmpne (pc := 14) (tgt := 19) C dX5_isUnder_14 (by decide) (fun hc5 => ?_) (fun hc5 => ?_)
    · have h := it_f h hc5
      refine V_iload_n (pc := 19) C dX5_isUnder_19 rfl rfl ?_
      refine V_iflt (pc := 20) (tgt := 31) C dX5_isUnder_20 (by decide) (fun hc6 => ?_) (fun hc6 => ?_)
      · have h := it_t h hc6
        refine V_iconst (pc := 31) C (v := 0) dX5_isUnder_31 (by decide) ?_
        exact V_zret (pc := 32) C rfl (gdo h hG) dX5_isUnder_32
      · have h := it_f h hc6
        refine V_iload_n (pc := 23) C dX5_isUnder_23 rfl rfl ?_
        refine V_above (pc := 24) C fs_X5_265 dX5_isUnder_24 ?_
        refine V_aboveLen (pc := 27) C dX5_isUnder_27 ?_
        refine V_icmplt (pc := 28) (tgt := 33) C dX5_isUnder_28 (by decide) (fun hc7 => ?_) (fun hc7 => ?_)
        · have h := it_t h hc7
          refine V_above (pc := 33) C fs_X5_265 dX5_isUnder_33 ?_
          refine V_iload_n (pc := 36) C dX5_isUnder_36 rfl rfl ?_
          obtain ⟨hi8, h⟩ := chk_ok h
          refine V_aboveAt (pc := 37) C hi8 dX5_isUnder_37 ?_
          refine V_istore_n (pc := 38) C (lv' := [some (.int v0), some (.int v1), some (.int (v_above (jn v2_1))), some (.int v3_2)]) dX5_isUnder_38 rfl (by decide) (Nat.le_of_ble_eq_true rfl) rfl rfl ?_
          refine V_iinc (pc := 39) C (v := (v3_2 + 1)) (lv' := [some (.int v0), some (.int v1), some (.int (v_above (jn v2_1))), some (.int (v3_2 + 1))]) dX5_isUnder_39 rfl rfl (by decide) (Nat.le_of_ble_eq_true rfl) rfl rfl ?_
          refine V_goto (pc := 42) (tgt := 4) C dX5_isUnder_42 (by decide) ?_
          exact hrec3 (v_above (jn v2_1)) (v3_2 + 1) h
        · have h := it_f h hc7
          refine V_iconst (pc := 31) C (v := 0) dX5_isUnder_31 (by decide) ?_
          exact V_zret (pc := 32) C rfl (gdo h hG) dX5_isUnder_32
    · have h := it_t h hc5
      refine V_iconst (pc := 17) C (v := 1) dX5_isUnder_17 (by decide) ?_
      exact V_zret (pc := 18) C rfl (gdo h hG) dX5_isUnder_18
def X5_taken (v1 : Int32) (v2 : Int32) (mh : vMH) : Option (Int32) := (if (X5_isWithin v2 0 5) = 0 then (some (-2)) else (if (X0_has 1 v1 mh) = 0 then (some (-11)) else (chk (inb v1 12) ((X5_isUnder (mh.1 9 (jn v1)) v2).bind fun q4 => (if q4 = 0 then (some (-13)) else (some (mh.1 12 (jn v1))))))))
set_option maxRecDepth 100000 in
set_option maxHeartbeats 8000000 in
theorem c_X5_taken (d : Nat) (v1 : Int32) (v2 : Int32) (mh : vMH) {res : Int32} (h : X5_taken v1 v2 mh = some res) : MC LC (d + 1) yX5_taken cX5_taken 3 (some .int) [.ref 0, .int v1, .int v2] mh (some (.int res)) mh := by
  refine MC_of 0 (by decide) rfl (fun X C hG => ?_)
  replace C : Cx X (d + 1) 3 cX5_taken RX5 (some .int) := C
  show Vw LC X (d + 1) 3 0 [some (.ref 0), some (.int v1), some (.int v2)] [] mh
  unfold X5_taken at h
  refine V_iload_n (pc := 0) C dX5_taken_0 rfl rfl ?_
  refine V_iconst (pc := 1) C (v := 0) dX5_taken_1 (by decide) ?_
  refine V_iconst (pc := 2) C (v := 5) dX5_taken_2 (by decide) ?_
  refine V_callSi (pc := 3) (rest := []) C cs_X5_59 (c_X5_isWithin (d + 0) v2 0 5 mh) (by omega) (by decide) rfl rfl (Nat.le_of_ble_eq_true rfl) dX5_taken_3 ?_
  refine V_ifne (pc := 6) (tgt := 12) C dX5_taken_6 (by decide) (fun hc1 => ?_) (fun hc1 => ?_)
  · have h := it_f h hc1
    refine V_aload_n (pc := 12) C dX5_taken_12 rfl rfl ?_
    refine V_getR (pc := 13) C (r' := 1) CF5 fl_X5_12 LO5 (by decide) rfl dX5_taken_13 ?_
    refine V_iload_n (pc := 16) C dX5_taken_16 rfl rfl ?_
    refine V_callVi (pc := 17) (rest := []) C cs_X5_99 (c_X0_has (d + 0) isF1 v1 mh) CF0.1 (LO_F isF1) (by omega) (by decide) rfl rfl (Nat.le_of_ble_eq_true rfl) dX5_taken_17 ?_
    refine V_ifne (pc := 20) (tgt := 26) C dX5_taken_20 (by decide) (fun hc2 => ?_) (fun hc2 => ?_)
    · have h := it_f h hc2
      refine V_aload_n (pc := 26) C dX5_taken_26 rfl rfl ?_
      refine V_getR (pc := 27) C (r' := 1) CF5 fl_X5_12 LO5 (by decide) rfl dX5_taken_27 ?_
      refine V_getR (pc := 30) C (r' := 9) CF0 fl_X5_105 (LO_F isF1) (by decide) rfl dX5_taken_30 ?_
      refine V_iload_n (pc := 33) C dX5_taken_33 rfl rfl ?_
      obtain ⟨hi3, h⟩ := chk_ok h
      refine V_iald (pc := 34) C (LA_F0 isF1) hi3 dX5_taken_34 (v := (mh.1 9 (jn v1))) rfl ?_
      refine V_iload_n (pc := 35) C dX5_taken_35 rfl rfl ?_
      obtain ⟨q4, hq5, h⟩ := bnd_ok h
      refine V_callSi (pc := 36) (rest := []) C cs_X5_261 (c_X5_isUnder (d + 0) (mh.1 9 (jn v1)) v2 mh hq5) (by omega) (by decide) rfl rfl (Nat.le_of_ble_eq_true rfl) dX5_taken_36 ?_
      refine V_ifeq (pc := 39) (tgt := 54) C dX5_taken_39 (by decide) (fun hc6 => ?_) (fun hc6 => ?_)
      · have h := it_t h hc6
        refine V_bipush (pc := 54) C (v := (-13)) dX5_taken_54 (by decide) ?_
        exact V_iret (pc := 56) C (gdo h hG) dX5_taken_56
      · have h := it_f h hc6
        refine V_aload_n (pc := 42) C dX5_taken_42 rfl rfl ?_
        refine V_getR (pc := 43) C (r' := 1) CF5 fl_X5_12 LO5 (by decide) rfl dX5_taken_43 ?_
        refine V_getR (pc := 46) C (r' := 12) CF0 fl_X5_89 (LO_F isF1) (by decide) rfl dX5_taken_46 ?_
        refine V_iload_n (pc := 49) C dX5_taken_49 rfl rfl ?_
        refine V_iald (pc := 50) C (LA_F3 isF1) hi3 dX5_taken_50 (v := (mh.1 12 (jn v1))) rfl ?_
        refine V_goto (pc := 51) (tgt := 56) C dX5_taken_51 (by decide) ?_
        exact V_iret (pc := 56) C (gdo h hG) dX5_taken_56
    · have h := it_t h hc2
      refine V_bipush (pc := 23) C (v := (-11)) dX5_taken_23 (by decide) ?_
      exact V_iret (pc := 25) C (gdo h hG) dX5_taken_25
  · have h := it_t h hc1
    refine V_bipush (pc := 9) C (v := (-2)) dX5_taken_9 (by decide) ?_
    exact V_iret (pc := 11) C (gdo h hG) dX5_taken_11
