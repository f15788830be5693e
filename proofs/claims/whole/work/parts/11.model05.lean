def X6_over (v0 : Int32) : Int32 := (if v0 = 0 then (-1) else (if v0 = 3 then 1 else (if v0 = 5 then 1 else 0)))
set_option maxRecDepth 100000 in
set_option maxHeartbeats 8000000 in
theorem c_X6_over (d : Nat) (v0 : Int32) (mh : vMH) : MC LM (d + 0) yX6_over cX6_over 1 (some .int) [.int v0] mh (some (.int (X6_over v0))) mh := by
  refine MC_of 0 (by decide) rfl (fun X C hG => ?_)
  replace C : Cx X (d + 0) 1 cX6_over RX6 (some .int) := C
  show Vw LM X (d + 0) 1 0 [some (.int v0)] [] mh
  obtain ⟨res, h⟩ : ∃ res, X6_over v0 = res := ⟨_, rfl⟩
  rw [h] at hG
  unfold X6_over at h
  refine V_iload_n (pc := 0) C dX6_over_0 rfl rfl ?_
  refine V_ifne (pc := 1) (tgt := 8) C dX6_over_1 (by decide) (fun hc1 => ?_) (fun hc1 => ?_)
  · have h := it_f h hc1
    refine V_iload_n (pc := 8) C dX6_over_8 rfl rfl ?_
    refine V_iconst (pc := 9) C (v := 3) dX6_over_9 (by decide) ?_
    refine V_icmpeq (pc := 10) (tgt := 18) C dX6_over_10 (by decide) (fun hc2 => ?_) (fun hc2 => ?_)
    · have h := it_t h hc2
      refine V_iconst (pc := 18) C (v := 1) dX6_over_18 (by decide) ?_
      refine V_goto (pc := 19) (tgt := 23) C dX6_over_19 (by decide) ?_
      exact V_iret (pc := 23) C (gdt h hG) dX6_over_23
    · have h := it_f h hc2
      refine V_iload_n (pc := 13) C dX6_over_13 rfl rfl ?_
      refine V_iconst (pc := 14) C (v := 5) dX6_over_14 (by decide) ?_
      refine V_icmpne (pc := 15) (tgt := 22) C dX6_over_15 (by decide) (fun hc3 => ?_) (fun hc3 => ?_)
      · have h := it_f h hc3
        refine V_iconst (pc := 22) C (v := 0) dX6_over_22 (by decide) ?_
        exact V_iret (pc := 23) C (gdt h hG) dX6_over_23
      · have h := it_t h hc3
        refine V_iconst (pc := 18) C (v := 1) dX6_over_18 (by decide) ?_
        refine V_goto (pc := 19) (tgt := 23) C dX6_over_19 (by decide) ?_
        exact V_iret (pc := 23) C (gdt h hG) dX6_over_23
  · have h := it_t h hc1
    refine V_iconst (pc := 4) C (v := (-1)) dX6_over_4 (by decide) ?_
    refine V_goto (pc := 5) (tgt := 23) C dX6_over_5 (by decide) ?_
    exact V_iret (pc := 23) C (gdt h hG) dX6_over_23
def X6_taken_L33 (v2 : Int32) (J5 : Int32 → Option (Int32)) (rec8 : Int32 → Option (Int32)) (v3_7 : Int32) : Option (Int32) := (if v3_7 = (-1) then (J5 v3_7) else (if v3_7 = v2 then (J5 v3_7) else (rec8 (X6_over v3_7))))
def X6_taken (v1 : Int32) (v2 : Int32) (mh : vMH) : Option (Int32) := (if (X6_in (Int32.toInt64 v2) 0 5) = 0 then (some (-2)) else (if (X6_isFind v1 mh) = 0 then (some (-11)) else (chk (inb v1 12) (wj1 (fun (v3_4 : Int32) => (if v3_4 = v2 then (some (mh.1 7 (jn v1))) else (some (-13)))) fun J5 => (lq1 4096 (X6_taken_L33 v2 J5) (mh.1 4 (jn v1)))))))
set_option maxRecDepth 100000 in
set_option maxHeartbeats 8000000 in
theorem c_X6_taken (d : Nat) (v1 : Int32) (v2 : Int32) (mh : vMH) {res : Int32} (h : X6_taken v1 v2 mh = some res) : MC LM (d + 2) yX6_taken cX6_taken 4 (some .int) [.ref 0, .int v1, .int v2] mh (some (.int res)) mh := by
  refine MC_of 1 (by decide) rfl (fun X C hG => ?_)
  replace C : Cx X (d + 2) 4 cX6_taken RX6 (some .int) := C
  show Vw LM X (d + 2) 4 0 [some (.ref 0), some (.int v1), some (.int v2), none] [] mh
  unfold X6_taken at h
  refine V_iload_n (pc := 0) C dX6_taken_0 rfl rfl ?_
  refine V_i2l (pc := 1) C dX6_taken_1 ?_
  refine V_lconst (pc := 2) C (v := 0) dX6_taken_2 (by decide) ?_
  refine V_ldc2 (pc := 3) C dX6_taken_3 kc_X6_85 ?_
  refine V_callSi (pc := 6) (rest := []) C cs_X6_76 (c_X6_in (d + 1) (Int32.toInt64 v2) 0 5 mh) (by omega) (by decide) rfl rfl (Nat.le_of_ble_eq_true rfl) dX6_taken_6 ?_
  refine V_ifne (pc := 9) (tgt := 15) C dX6_taken_9 (by decide) (fun hc1 => ?_) (fun hc1 => ?_)
  · have h := it_f h hc1
    refine V_aload_n (pc := 15) C dX6_taken_15 rfl rfl ?_
    refine V_iload_n (pc := 16) C dX6_taken_16 rfl rfl ?_
    refine V_callVi (pc := 17) (rest := []) C cs_X6_95 (c_X6_isFind (d + 0) v1 mh) CF6.1 LO6 (by omega) (by decide) rfl rfl (Nat.le_of_ble_eq_true rfl) dX6_taken_17 ?_
    refine V_ifne (pc := 20) (tgt := 26) C dX6_taken_20 (by decide) (fun hc2 => ?_) (fun hc2 => ?_)
    · have h := it_f h hc2
      refine V_aload_n (pc := 26) C dX6_taken_26 rfl rfl ?_
      refine V_getR (pc := 27) C (r' := 4) CF6 fl_X6_23 LO6 (by decide) rfl dX6_taken_27 ?_
      refine V_iload_n (pc := 30) C dX6_taken_30 rfl rfl ?_
      obtain ⟨hi3, h⟩ := chk_ok h
      refine V_iald (pc := 31) C LAM4 hi3 dX6_taken_31 (v := (mh.1 4 (jn v1))) rfl ?_
      refine V_istore_n (pc := 32) C (lv' := [some (.ref 0), some (.int v1), some (.int v2), some (.int (mh.1 4 (jn v1)))]) dX6_taken_32 rfl (by decide) (Nat.le_of_ble_eq_true rfl) rfl rfl ?_
      refine wj1_ok (fun (v3_4 : Int32) => Vw LM X (d + 2) 4 51 [some (.ref 0), some (.int v1), some (.int v2), some (.int v3_4)] [] mh) h (fun v3_4 h => ?_) (fun J5 hJ5 h => ?_)
      · refine V_iload_n (pc := 51) C dX6_taken_51 rfl rfl ?_
        refine V_iload_n (pc := 52) C dX6_taken_52 rfl rfl ?_
        refine V_icmpne (pc := 53) (tgt := 65) C dX6_taken_53 (by decide) (fun hc6 => ?_) (fun hc6 => ?_)
        · have h := it_f h hc6
          refine V_bipush (pc := 65) C (v := (-13)) dX6_taken_65 (by decide) ?_
          exact V_iret (pc := 67) C (gdo h hG) dX6_taken_67
        · have h := it_t h hc6
          refine V_aload_n (pc := 56) C dX6_taken_56 rfl rfl ?_
          refine V_getR (pc := 57) C (r' := 7) CF6 fl_X6_32 LO6 (by decide) rfl dX6_taken_57 ?_
          refine V_iload_n (pc := 60) C dX6_taken_60 rfl rfl ?_
          refine V_iald (pc := 61) C LAM7 hi3 dX6_taken_61 (v := (mh.1 7 (jn v1))) rfl ?_
          refine V_goto (pc := 62) (tgt := 67) C dX6_taken_62 (by decide) ?_
          exact V_iret (pc := 67) C (gdo h hG) dX6_taken_67
      · refine lq1_ok (fun (v3_7 : Int32) => Vw LM X (d + 2) 4 33 [some (.ref 0), some (.int v1), some (.int v2), some (.int v3_7)] [] mh) h (fun rec8 hrec8 v3_7 h => ?_)
        unfold X6_taken_L33 at h
        refine V_iload_n (pc := 33) C dX6_taken_33 rfl rfl ?_
        refine V_iconst (pc := 34) C (v := (-1)) dX6_taken_34 (by decide) ?_
        refine V_icmpeq (pc := 35) (tgt := 51) C dX6_taken_35 (by decide) (fun hc9 => ?_) (fun hc9 => ?_)
        · have h := it_t h hc9
          exact hJ5 v3_7 h
        · have h := it_f h hc9
          refine V_iload_n (pc := 38) C dX6_taken_38 rfl rfl ?_
          refine V_iload_n (pc := 39) C dX6_taken_39 rfl rfl ?_
          refine V_icmpeq (pc := 40) (tgt := 51) C dX6_taken_40 (by decide) (fun hc10 => ?_) (fun hc10 => ?_)
          · have h := it_t h hc10
            exact hJ5 v3_7 h
          · have h := it_f h hc10
            refine V_iload_n (pc := 43) C dX6_taken_43 rfl rfl ?_
            refine V_callSi (pc := 44) (rest := []) C cs_X6_353 (c_X6_over (d + 1) v3_7 mh) (by omega) (by decide) rfl rfl (Nat.le_of_ble_eq_true rfl) dX6_taken_44 ?_
            refine V_istore_n (pc := 47) C (lv' := [some (.ref 0), some (.int v1), some (.int v2), some (.int (X6_over v3_7))]) dX6_taken_47 rfl (by decide) (Nat.le_of_ble_eq_true rfl) rfl rfl ?_
            refine V_goto (pc := 48) (tgt := 33) C dX6_taken_48 (by decide) ?_
            exact hrec8 (X6_over v3_7) h
    · have h := it_t h hc2
      refine V_bipush (pc := 23) C (v := (-11)) dX6_taken_23 (by decide) ?_
      exact V_iret (pc := 25) C (gdo h hG) dX6_taken_25
  · have h := it_t h hc1
    refine V_bipush (pc := 12) C (v := (-2)) dX6_taken_12 (by decide) ?_
    exact V_iret (pc := 14) C (gdo h hG) dX6_taken_14
