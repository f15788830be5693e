def X5_isCell (v0 : Int32) : Int32 := (if v0 < 0 then 0 else (if 48 ≤ v0 then 0 else 1))
set_option maxRecDepth 100000 in
set_option maxHeartbeats 8000000 in
theorem c_X5_isCell (d : Nat) (v0 : Int32) (mh : vMH) : MC LC (d + 0) yX5_isCell cX5_isCell 1 (some .boolean) [.int v0] mh (some (.int (X5_isCell v0))) mh := by
  refine MC_of 0 (by decide) rfl (fun X C hG => ?_)
  replace C : Cx X (d + 0) 1 cX5_isCell RX5 (some .boolean) := C
  show Vw LC X (d + 0) 1 0 [some (.int v0)] [] mh
  obtain ⟨res, h⟩ : ∃ res, X5_isCell v0 = res := ⟨_, rfl⟩
  rw [h] at hG
  unfold X5_isCell at h
  refine V_iload_n (pc := 0) C dX5_isCell_0 rfl rfl ?_
  refine V_iflt (pc := 1) (tgt := 14) C dX5_isCell_1 (by decide) (fun hc1 => ?_) (fun hc1 => ?_)
  · have h := it_t h hc1
    refine V_iconst (pc := 14) C (v := 0) dX5_isCell_14 (by decide) ?_
    exact V_zret (pc := 15) C rfl (gdt h hG) dX5_isCell_15
  · have h := it_f h hc1
    refine V_iload_n (pc := 4) C dX5_isCell_4 rfl rfl ?_
    refine V_bipush (pc := 5) C (v := 48) dX5_isCell_5 (by decide) ?_
    refine V_icmpge (pc := 7) (tgt := 14) C dX5_isCell_7 (by decide) (fun hc2 => ?_) (fun hc2 => ?_)
    · have h := it_t h hc2
      refine V_iconst (pc := 14) C (v := 0) dX5_isCell_14 (by decide) ?_
      exact V_zret (pc := 15) C rfl (gdt h hG) dX5_isCell_15
    · have h := it_f h hc2
      refine V_iconst (pc := 10) C (v := 1) dX5_isCell_10 (by decide) ?_
      refine V_goto (pc := 11) (tgt := 15) C dX5_isCell_11 (by decide) ?_
      exact V_zret (pc := 15) C rfl (gdt h hG) dX5_isCell_15
theorem z_X5_isCell (v0 : Int32) : narrow .boolean (.int (X5_isCell v0)) = .int (X5_isCell v0) := by
  unfold X5_isCell
  (repeat' split) <;> rfl
def X5_find (v1 : Int32) (v2 : Int32) (v3 : Int32) (mh : vMH) : Option (Int32 × vMH) := (if (X5_isWithin v1 0 5) = 0 then (some ((-2), mh)) else (if (X5_isCell v2) = 0 then (some ((-2), mh)) else (if 0 ≤ v3 then (if 20 < (v3 / 10) then (some ((-2), mh)) else (if (jr v3 10) = 0 then (some ((-2), mh)) else ((X0_lay 1 v1 v2 (v3 / 10) (jr v3 10) mh).bind fun q6 => (some (q6.1, q6.2))))) else (some ((-2), mh)))))
set_option maxRecDepth 100000 in
set_option maxHeartbeats 8000000 in
theorem c_X5_find (d : Nat) (v1 : Int32) (v2 : Int32) (v3 : Int32) (mh : vMH) {res : Int32 × vMH} (h : X5_find v1 v2 v3 mh = some res) : MC LC (d + 1) yX5_find cX5_find 6 (some .int) [.ref 0, .int v1, .int v2, .int v3] mh (some (.int res.1)) res.2 := by
  refine MC_of 2 (by decide) rfl (fun X C hG => ?_)
  replace C : Cx X (d + 1) 6 cX5_find RX5 (some .int) := C
  show Vw LC X (d + 1) 6 0 [some (.ref 0), some (.int v1), some (.int v2), some (.int v3), none, none] [] mh
  unfold X5_find at h
  refine V_iload_n (pc := 0) C dX5_find_0 rfl rfl ?_
  refine V_iconst (pc := 1) C (v := 0) dX5_find_1 (by decide) ?_
  refine V_iconst (pc := 2) C (v := 5) dX5_find_2 (by decide) ?_
  refine V_callSi (pc := 3) (rest := []) C cs_X5_59 (c_X5_isWithin (d + 0) v1 0 5 mh) (by omega) (by decide) rfl rfl (Nat.le_of_ble_eq_true rfl) dX5_find_3 ?_
  refine V_ifeq (pc := 6) (tgt := 20) C dX5_find_6 (by decide) (fun hc1 => ?_) (fun hc1 => ?_)
  · have h := it_t h hc1
    refine V_bipush (pc := 20) C (v := (-2)) dX5_find_20 (by decide) ?_
    exact V_iret (pc := 22) C (gdow h hG) dX5_find_22
  · have h := it_f h hc1
    refine V_iload_n (pc := 9) C dX5_find_9 rfl rfl ?_
    refine V_callSi (pc := 10) (rest := []) C cs_X5_63 (c_X5_isCell (d + 0) v2 mh) (by omega) (by decide) rfl rfl (Nat.le_of_ble_eq_true rfl) dX5_find_10 ?_
    refine V_ifeq (pc := 13) (tgt := 20) C dX5_find_13 (by decide) (fun hc2 => ?_) (fun hc2 => ?_)
    · have h := it_t h hc2
      refine V_bipush (pc := 20) C (v := (-2)) dX5_find_20 (by decide) ?_
      exact V_iret (pc := 22) C (gdow h hG) dX5_find_22
    · have h := it_f h hc2
      refine V_iload_n (pc := 16) C dX5_find_16 rfl rfl ?_
      refine V_ifge (pc := 17) (tgt := 23) C dX5_find_17 (by decide) (fun hc3 => ?_) (fun hc3 => ?_)
      · have h := it_t h hc3
        refine V_iload_n (pc := 23) C dX5_find_23 rfl rfl ?_
        refine V_bipush (pc := 24) C (v := 10) dX5_find_24 (by decide) ?_
        refine V_idiv (pc := 26) C dX5_find_26 (by decide) ?_
        refine V_istore (pc := 27) C (lv' := [some (.ref 0), some (.int v1), some (.int v2), some (.int v3), some (.int (v3 / 10)), none]) dX5_find_27 (by decide) (Nat.le_of_ble_eq_true rfl) rfl rfl ?_
        refine V_iload_n (pc := 29) C dX5_find_29 rfl rfl ?_
        refine V_bipush (pc := 30) C (v := 10) dX5_find_30 (by decide) ?_
        refine V_irem (pc := 32) C dX5_find_32 (by decide) ?_
        refine V_istore (pc := 33) C (lv' := [some (.ref 0), some (.int v1), some (.int v2), some (.int v3), some (.int (v3 / 10)), some (.int (jr v3 10))]) dX5_find_33 (by decide) (Nat.le_of_ble_eq_true rfl) rfl rfl ?_
        refine V_iload (pc := 35) C dX5_find_35 rfl ?_
        refine V_bipush (pc := 37) C (v := 20) dX5_find_37 (by decide) ?_
        refine V_icmpgt (pc := 39) (tgt := 47) C dX5_find_39 (by decide) (fun hc4 => ?_) (fun hc4 => ?_)
        · have h := it_t h hc4
          refine V_bipush (pc := 47) C (v := (-2)) dX5_find_47 (by decide) ?_
          exact V_iret (pc := 49) C (gdow h hG) dX5_find_49
        · have h := it_f h hc4
          refine V_iload (pc := 42) C dX5_find_42 rfl ?_
          refine V_ifne (pc := 44) (tgt := 50) C dX5_find_44 (by decide) (fun hc5 => ?_) (fun hc5 => ?_)
          · have h := it_f h hc5
            refine V_aload_n (pc := 50) C dX5_find_50 rfl rfl ?_
            refine V_getR (pc := 51) C (r' := 1) CF5 fl_X5_12 LO5 (by decide) rfl dX5_find_51 ?_
            refine V_iload_n (pc := 54) C dX5_find_54 rfl rfl ?_
            refine V_iload_n (pc := 55) C dX5_find_55 rfl rfl ?_
            refine V_iload (pc := 56) C dX5_find_56 rfl ?_
            refine V_iload (pc := 58) C dX5_find_58 rfl ?_
            obtain ⟨q6, hq7, h⟩ := bnd_ok h
            refine V_callVi (pc := 60) (rest := []) C cs_X5_67 (c_X0_lay (d + 0) isF1 v1 v2 (v3 / 10) (jr v3 10) mh hq7) CF0.1 (LO_F isF1) (by omega) (by decide) rfl rfl (Nat.le_of_ble_eq_true rfl) dX5_find_60 ?_
            exact V_iret (pc := 63) C (gdow h hG) dX5_find_63
          · have h := it_t h hc5
            refine V_bipush (pc := 47) C (v := (-2)) dX5_find_47 (by decide) ?_
            exact V_iret (pc := 49) C (gdow h hG) dX5_find_49
      · have h := it_f h hc3
        refine V_bipush (pc := 20) C (v := (-2)) dX5_find_20 (by decide) ?_
        exact V_iret (pc := 22) C (gdow h hG) dX5_find_22
def X5_changeWet (v1 : Int32) (mh : vMH) : Int32 × vMH := (if (X5_isWithin v1 0 9) = 0 then ((-2), mh) else ((mh.1 1 6), (v_up mh 1 6 v1)))
set_option maxRecDepth 100000 in
set_option maxHeartbeats 8000000 in
theorem c_X5_changeWet (d : Nat) (v1 : Int32) (mh : vMH) : MC LC (d + 1) yX5_changeWet cX5_changeWet 3 (some .int) [.ref 0, .int v1] mh (some (.int (X5_changeWet v1 mh).1)) (X5_changeWet v1 mh).2 := by
  refine MC_of 1 (by decide) rfl (fun X C hG => ?_)
  replace C : Cx X (d + 1) 3 cX5_changeWet RX5 (some .int) := C
  show Vw LC X (d + 1) 3 0 [some (.ref 0), some (.int v1), none] [] mh
  obtain ⟨res, h⟩ : ∃ res, X5_changeWet v1 mh = res := ⟨_, rfl⟩
  rw [h] at hG
  unfold X5_changeWet at h
  refine V_iload_n (pc := 0) C dX5_changeWet_0 rfl rfl ?_
  refine V_iconst (pc := 1) C (v := 0) dX5_changeWet_1 (by decide) ?_
  refine V_bipush (pc := 2) C (v := 9) dX5_changeWet_2 (by decide) ?_
  refine V_callSi (pc := 4) (rest := []) C cs_X5_59 (c_X5_isWithin (d + 0) v1 0 9 mh) (by omega) (by decide) rfl rfl (Nat.le_of_ble_eq_true rfl) dX5_changeWet_4 ?_
  refine V_ifne (pc := 7) (tgt := 13) C dX5_changeWet_7 (by decide) (fun hc1 => ?_) (fun hc1 => ?_)
  · have h := it_f h hc1
    refine V_aload_n (pc := 13) C dX5_changeWet_13 rfl rfl ?_
    refine V_getR (pc := 14) C (r' := 1) CF5 fl_X5_12 LO5 (by decide) rfl dX5_changeWet_14 ?_
    refine V_getI (pc := 17) C CF0 fl_X5_92 (LO_F isF1) (by decide) rfl dX5_changeWet_17 (v := (mh.1 1 6)) rfl ?_
    refine V_istore_n (pc := 20) C (lv' := [some (.ref 0), some (.int v1), some (.int (mh.1 1 6))]) dX5_changeWet_20 rfl (by decide) (Nat.le_of_ble_eq_true rfl) rfl rfl ?_
    refine V_aload_n (pc := 21) C dX5_changeWet_21 rfl rfl ?_
    refine V_getR (pc := 22) C (r' := 1) CF5 fl_X5_12 LO5 (by decide) rfl dX5_changeWet_22 ?_
    refine V_iload_n (pc := 25) C dX5_changeWet_25 rfl rfl ?_
    refine V_putI (pc := 26) C CF0 fl_X5_92 (LO_F isF1) (by decide) rfl rfl rfl dX5_changeWet_26 ?_
    refine V_iload_n (pc := 29) C dX5_changeWet_29 rfl rfl ?_
    exact V_iret (pc := 30) C (gdtw h hG) dX5_changeWet_30
  · have h := it_t h hc1
    refine V_bipush (pc := 10) C (v := (-2)) dX5_changeWet_10 (by decide) ?_
    exact V_iret (pc := 12) C (gdtw h hG) dX5_changeWet_12
def X5_changePlate (v1 : Int32) (mh : vMH) : Int32 × vMH := (if (X5_isWithin v1 1 9) = 0 then ((-2), mh) else ((mh.1 1 7), (v_up mh 1 7 v1)))
set_option maxRecDepth 100000 in
set_option maxHeartbeats 8000000 in
theorem c_X5_changePlate (d : Nat) (v1 : Int32) (mh : vMH) : MC LC (d + 1) yX5_changePlate cX5_changePlate 3 (some .int) [.ref 0, .int v1] mh (some (.int (X5_changePlate v1 mh).1)) (X5_changePlate v1 mh).2 := by
  refine MC_of 1 (by decide) rfl (fun X C hG => ?_)
  replace C : Cx X (d + 1) 3 cX5_changePlate RX5 (some .int) := C
  show Vw LC X (d + 1) 3 0 [some (.ref 0), some (.int v1), none] [] mh
  obtain ⟨res, h⟩ : ∃ res, X5_changePlate v1 mh = res := ⟨_, rfl⟩
  rw [h] at hG
  unfold X5_changePlate at h
  refine V_iload_n (pc := 0) C dX5_changePlate_0 rfl rfl ?_
  refine V_iconst (pc := 1) C (v := 1) dX5_changePlate_1 (by decide) ?_
  refine V_bipush (pc := 2) C (v := 9) dX5_changePlate_2 (by decide) ?_
  refine V_callSi (pc := 4) (rest := []) C cs_X5_59 (c_X5_isWithin (d + 0) v1 1 9 mh) (by omega) (by decide) rfl rfl (Nat.le_of_ble_eq_true rfl) dX5_changePlate_4 ?_
  refine V_ifne (pc := 7) (tgt := 13) C dX5_changePlate_7 (by decide) (fun hc1 => ?_) (fun hc1 => ?_)
  · have h := it_f h hc1
    refine V_aload_n (pc := 13) C dX5_changePlate_13 rfl rfl ?_
    refine V_getR (pc := 14) C (r' := 1) CF5 fl_X5_12 LO5 (by decide) rfl dX5_changePlate_14 ?_
    refine V_getI (pc := 17) C CF0 fl_X5_96 (LO_F isF1) (by decide) rfl dX5_changePlate_17 (v := (mh.1 1 7)) rfl ?_
    refine V_istore_n (pc := 20) C (lv' := [some (.ref 0), some (.int v1), some (.int (mh.1 1 7))]) dX5_changePlate_20 rfl (by decide) (Nat.le_of_ble_eq_true rfl) rfl rfl ?_
    refine V_aload_n (pc := 21) C dX5_changePlate_21 rfl rfl ?_
    refine V_getR (pc := 22) C (r' := 1) CF5 fl_X5_12 LO5 (by decide) rfl dX5_changePlate_22 ?_
    refine V_iload_n (pc := 25) C dX5_changePlate_25 rfl rfl ?_
    refine V_putI (pc := 26) C CF0 fl_X5_96 (LO_F isF1) (by decide) rfl rfl rfl dX5_changePlate_26 ?_
    refine V_iload_n (pc := 29) C dX5_changePlate_29 rfl rfl ?_
    exact V_iret (pc := 30) C (gdtw h hG) dX5_changePlate_30
  · have h := it_t h hc1
    refine V_bipush (pc := 10) C (v := (-2)) dX5_changePlate_10 (by decide) ?_
    exact V_iret (pc := 12) C (gdtw h hG) dX5_changePlate_12
def X5_changeFind (a1 : Nat) (v2 : Int32) (v3 : Int32) (v4 : Int32) (mh : vMH) : Option (Int32 × vMH) := (if v4 = 0 then (some ((-2), mh)) else (if (X0_has 1 v2 mh) = 0 then (some ((-2), mh)) else (if v2 < 12 then (if (X0_lies 1 v2 mh) = 0 then (some ((-3), mh)) else (chk (inb v2 12) (some ((mh.1 a1 (jn v2)), (v_up mh a1 (jn v2) v3))))) else (some ((-2), mh)))))
set_option maxRecDepth 100000 in
set_option maxHeartbeats 8000000 in
theorem c_X5_changeFind (d : Nat) {a1 : Nat} (ha1 : LA LC a1 true 12) (v2 : Int32) (v3 : Int32) (v4 : Int32) (mh : vMH) {res : Int32 × vMH} (h : X5_changeFind a1 v2 v3 v4 mh = some res) : MC LC (d + 2) yX5_changeFind cX5_changeFind 6 (some .int) [.ref 0, .ref a1, .int v2, .int v3, .int v4] mh (some (.int res.1)) res.2 := by
  refine MC_of 1 (by decide) rfl (fun X C hG => ?_)
  replace C : Cx X (d + 2) 6 cX5_changeFind RX5 (some .int) := C
  show Vw LC X (d + 2) 6 0 [some (.ref 0), some (.ref a1), some (.int v2), some (.int v3), some (.int v4), none] [] mh
  unfold X5_changeFind at h
  refine V_iload (pc := 0) C dX5_changeFind_0 rfl ?_
  refine V_ifeq (pc := 2) (tgt := 22) C dX5_changeFind_2 (by decide) (fun hc1 => ?_) (fun hc1 => ?_)
  · have h := it_t h hc1
    refine V_bipush (pc := 22) C (v := (-2)) dX5_changeFind_22 (by decide) ?_
    exact V_iret (pc := 24) C (gdow h hG) dX5_changeFind_24
  · have h := it_f h hc1
    refine V_aload_n (pc := 5) C dX5_changeFind_5 rfl rfl ?_
    refine V_getR (pc := 6) C (r' := 1) CF5 fl_X5_12 LO5 (by decide) rfl dX5_changeFind_6 ?_
    refine V_iload_n (pc := 9) C dX5_changeFind_9 rfl rfl ?_
    refine V_callVi (pc := 10) (rest := []) C cs_X5_99 (c_X0_has (d + 1) isF1 v2 mh) CF0.1 (LO_F isF1) (by omega) (by decide) rfl rfl (Nat.le_of_ble_eq_true rfl) dX5_changeFind_10 ?_
    refine V_ifeq (pc := 13) (tgt := 22) C dX5_changeFind_13 (by decide) (fun hc2 => ?_) (fun hc2 => ?_)
    · have h := it_t h hc2
      refine V_bipush (pc := 22) C (v := (-2)) dX5_changeFind_22 (by decide) ?_
      exact V_iret (pc := 24) C (gdow h hG) dX5_changeFind_24
    · have h := it_f h hc2
      refine V_iload_n (pc := 16) C dX5_changeFind_16 rfl rfl ?_
      refine V_aload_n (pc := 17) C dX5_changeFind_17 rfl rfl ?_
      refine V_alen (pc := 18) C ha1 (v := 12) (by decide) dX5_changeFind_18 ?_
      refine V_icmplt (pc := 19) (tgt := 25) C dX5_changeFind_19 (by decide) (fun hc3 => ?_) (fun hc3 => ?_)
      · have h := it_t h hc3
        refine V_aload_n (pc := 25) C dX5_changeFind_25 rfl rfl ?_
        refine V_getR (pc := 26) C (r' := 1) CF5 fl_X5_12 LO5 (by decide) rfl dX5_changeFind_26 ?_
        refine V_iload_n (pc := 29) C dX5_changeFind_29 rfl rfl ?_
        refine V_callVi (pc := 30) (rest := []) C cs_X5_102 (c_X0_lies (d + 0) isF1 v2 mh) CF0.1 (LO_F isF1) (by omega) (by decide) rfl rfl (Nat.le_of_ble_eq_true rfl) dX5_changeFind_30 ?_
        refine V_ifne (pc := 33) (tgt := 39) C dX5_changeFind_33 (by decide) (fun hc4 => ?_) (fun hc4 => ?_)
        · have h := it_f h hc4
          refine V_aload_n (pc := 39) C dX5_changeFind_39 rfl rfl ?_
          refine V_iload_n (pc := 40) C dX5_changeFind_40 rfl rfl ?_
          obtain ⟨hi5, h⟩ := chk_ok h
          refine V_iald (pc := 41) C ha1 hi5 dX5_changeFind_41 (v := (mh.1 a1 (jn v2))) rfl ?_
          refine V_istore (pc := 42) C (lv' := [some (.ref 0), some (.ref a1), some (.int v2), some (.int v3), some (.int v4), some (.int (mh.1 a1 (jn v2)))]) dX5_changeFind_42 (by decide) (Nat.le_of_ble_eq_true rfl) rfl rfl ?_
          refine V_aload_n (pc := 44) C dX5_changeFind_44 rfl rfl ?_
          refine V_iload_n (pc := 45) C dX5_changeFind_45 rfl rfl ?_
          refine V_iload_n (pc := 46) C dX5_changeFind_46 rfl rfl ?_
          refine V_iast (pc := 47) C ha1 hi5 dX5_changeFind_47 ?_
          refine V_iload (pc := 48) C dX5_changeFind_48 rfl ?_
          exact V_iret (pc := 50) C (gdow h hG) dX5_changeFind_50
        · have h := it_t h hc4
          refine V_bipush (pc := 36) C (v := (-3)) dX5_changeFind_36 (by decide) ?_
          exact V_iret (pc := 38) C (gdow h hG) dX5_changeFind_38
      · have h := it_f h hc3
        refine V_bipush (pc := 22) C (v := (-2)) dX5_changeFind_22 (by decide) ?_
        exact V_iret (pc := 24) C (gdow h hG) dX5_changeFind_24
def X5_set (v1 : Int32) (v2 : Int32) (v3 : Int32) (mh : vMH) : Option (Int32 × vMH) := (if v1 = 0 then (some ((X5_changeWet v3 mh).1, (X5_changeWet v3 mh).2)) else (if v1 = 1 then (some ((X5_changePlate v3 mh).1, (X5_changePlate v3 mh).2)) else (if v1 = 2 then ((X5_changeFind 10 v2 v3 (X5_isCell v3) mh).bind fun q4 => (some (q4.1, q4.2))) else (if v1 = 3 then ((X5_changeFind 11 v2 v3 (X5_isWithin v3 0 20) mh).bind fun q7 => (some (q7.1, q7.2))) else (if v1 = 4 then ((X5_changeFind 12 v2 v3 (X5_isWithin v3 1 9) mh).bind fun q10 => (some (q10.1, q10.2))) else (some ((-2), mh)))))))
set_option maxRecDepth 100000 in
set_option maxHeartbeats 8000000 in
theorem c_X5_set (d : Nat) (v1 : Int32) (v2 : Int32) (v3 : Int32) (mh : vMH) {res : Int32 × vMH} (h : X5_set v1 v2 v3 mh = some res) : MC LC (d + 3) yX5_set cX5_set 4 (some .int) [.ref 0, .int v1, .int v2, .int v3] mh (some (.int res.1)) res.2 := by
  refine MC_of 0 (by decide) rfl (fun X C hG => ?_)
  replace C : Cx X (d + 3) 4 cX5_set RX5 (some .int) := C
  show Vw LC X (d + 3) 4 0 [some (.ref 0), some (.int v1), some (.int v2), some (.int v3)] [] mh
  unfold X5_set at h
  refine V_iload_n (pc := 0) C dX5_set_0 rfl rfl ?_
  by_cases hc1 : v1 = 0
  · have h := it_t h hc1
    refine V_tab (pc := 1) (tgt := 36) C dX5_set_1 (by decide) (v_tgt_k hc1 (by decide)) ?_
    refine V_aload_n (pc := 36) C dX5_set_36 rfl rfl ?_
    refine V_iload_n (pc := 37) C dX5_set_37 rfl rfl ?_
    refine V_callVi (pc := 38) (rest := []) C cs_X5_71 (c_X5_changeWet (d + 1) v3 mh) CF5.1 LO5 (by omega) (by decide) rfl rfl (Nat.le_of_ble_eq_true rfl) dX5_set_38 ?_
    exact V_iret (pc := 41) C (gdow h hG) dX5_set_41
  · have h := it_f h hc1
    by_cases hc2 : v1 = 1
    · have h := it_t h hc2
      refine V_tab (pc := 1) (tgt := 42) C dX5_set_1 (by decide) (v_tgt_k hc2 (by decide)) ?_
      refine V_aload_n (pc := 42) C dX5_set_42 rfl rfl ?_
      refine V_iload_n (pc := 43) C dX5_set_43 rfl rfl ?_
      refine V_callVi (pc := 44) (rest := []) C cs_X5_75 (c_X5_changePlate (d + 1) v3 mh) CF5.1 LO5 (by omega) (by decide) rfl rfl (Nat.le_of_ble_eq_true rfl) dX5_set_44 ?_
      exact V_iret (pc := 47) C (gdow h hG) dX5_set_47
    · have h := it_f h hc2
      by_cases hc3 : v1 = 2
      · have h := it_t h hc3
        refine V_tab (pc := 1) (tgt := 48) C dX5_set_1 (by decide) (v_tgt_k hc3 (by decide)) ?_
        refine V_aload_n (pc := 48) C dX5_set_48 rfl rfl ?_
        refine V_aload_n (pc := 49) C dX5_set_49 rfl rfl ?_
        refine V_getR (pc := 50) C (r' := 1) CF5 fl_X5_12 LO5 (by decide) rfl dX5_set_50 ?_
        refine V_getR (pc := 53) C (r' := 10) CF0 fl_X5_78 (LO_F isF1) (by decide) rfl dX5_set_53 ?_
        refine V_iload_n (pc := 56) C dX5_set_56 rfl rfl ?_
        refine V_iload_n (pc := 57) C dX5_set_57 rfl rfl ?_
        refine V_iload_n (pc := 58) C dX5_set_58 rfl rfl ?_
        refine V_callSi (pc := 59) (rest := [.int v3, .int v2, .ref 10, .ref 0]) C cs_X5_63 (c_X5_isCell (d + 2) v3 mh) (by omega) (by decide) rfl rfl (Nat.le_of_ble_eq_true rfl) dX5_set_59 ?_
        obtain ⟨q4, hq5, h⟩ := bnd_ok h
        refine V_callVi (pc := 62) (rest := []) C cs_X5_82 (c_X5_changeFind (d + 0) (LA_F1 isF1) v2 v3 (X5_isCell v3) mh hq5) CF5.1 LO5 (by omega) (by decide) rfl rfl (Nat.le_of_ble_eq_true rfl) dX5_set_62 ?_
        exact V_iret (pc := 65) C (gdow h hG) dX5_set_65
      · have h := it_f h hc3
        by_cases hc6 : v1 = 3
        · have h := it_t h hc6
          refine V_tab (pc := 1) (tgt := 66) C dX5_set_1 (by decide) (v_tgt_k hc6 (by decide)) ?_
          refine V_aload_n (pc := 66) C dX5_set_66 rfl rfl ?_
          refine V_aload_n (pc := 67) C dX5_set_67 rfl rfl ?_
          refine V_getR (pc := 68) C (r' := 1) CF5 fl_X5_12 LO5 (by decide) rfl dX5_set_68 ?_
          refine V_getR (pc := 71) C (r' := 11) CF0 fl_X5_86 (LO_F isF1) (by decide) rfl dX5_set_71 ?_
          refine V_iload_n (pc := 74) C dX5_set_74 rfl rfl ?_
          refine V_iload_n (pc := 75) C dX5_set_75 rfl rfl ?_
          refine V_iload_n (pc := 76) C dX5_set_76 rfl rfl ?_
          refine V_iconst (pc := 77) C (v := 0) dX5_set_77 (by decide) ?_
          refine V_bipush (pc := 78) C (v := 20) dX5_set_78 (by decide) ?_
          refine V_callSi (pc := 80) (rest := [.int v3, .int v2, .ref 11, .ref 0]) C cs_X5_59 (c_X5_isWithin (d + 2) v3 0 20 mh) (by omega) (by decide) rfl rfl (Nat.le_of_ble_eq_true rfl) dX5_set_80 ?_
          obtain ⟨q7, hq8, h⟩ := bnd_ok h
          refine V_callVi (pc := 83) (rest := []) C cs_X5_82 (c_X5_changeFind (d + 0) (LA_F2 isF1) v2 v3 (X5_isWithin v3 0 20) mh hq8) CF5.1 LO5 (by omega) (by decide) rfl rfl (Nat.le_of_ble_eq_true rfl) dX5_set_83 ?_
          exact V_iret (pc := 86) C (gdow h hG) dX5_set_86
        · have h := it_f h hc6
          by_cases hc9 : v1 = 4
          · have h := it_t h hc9
            refine V_tab (pc := 1) (tgt := 87) C dX5_set_1 (by decide) (v_tgt_k hc9 (by decide)) ?_
            refine V_aload_n (pc := 87) C dX5_set_87 rfl rfl ?_
            refine V_aload_n (pc := 88) C dX5_set_88 rfl rfl ?_
            refine V_getR (pc := 89) C (r' := 1) CF5 fl_X5_12 LO5 (by decide) rfl dX5_set_89 ?_
            refine V_getR (pc := 92) C (r' := 12) CF0 fl_X5_89 (LO_F isF1) (by decide) rfl dX5_set_92 ?_
            refine V_iload_n (pc := 95) C dX5_set_95 rfl rfl ?_
            refine V_iload_n (pc := 96) C dX5_set_96 rfl rfl ?_
            refine V_iload_n (pc := 97) C dX5_set_97 rfl rfl ?_
            refine V_iconst (pc := 98) C (v := 1) dX5_set_98 (by decide) ?_
            refine V_bipush (pc := 99) C (v := 9) dX5_set_99 (by decide) ?_
            refine V_callSi (pc := 101) (rest := [.int v3, .int v2, .ref 12, .ref 0]) C cs_X5_59 (c_X5_isWithin (d + 2) v3 1 9 mh) (by omega) (by decide) rfl rfl (Nat.le_of_ble_eq_true rfl) dX5_set_101 ?_
            obtain ⟨q10, hq11, h⟩ := bnd_ok h
            refine V_callVi (pc := 104) (rest := []) C cs_X5_82 (c_X5_changeFind (d + 0) (LA_F3 isF1) v2 v3 (X5_isWithin v3 1 9) mh hq11) CF5.1 LO5 (by omega) (by decide) rfl rfl (Nat.le_of_ble_eq_true rfl) dX5_set_104 ?_
            exact V_iret (pc := 107) C (gdow h hG) dX5_set_107
          · have h := it_f h hc9
            refine V_tab (pc := 1) (tgt := 108) C dX5_set_1 (by decide) (v_tgt_d ⟨.inr (fun e => hc1 (e.trans (by decide))), .inr (fun e => hc2 (e.trans (by decide))), .inr (fun e => hc3 (e.trans (by decide))), .inr (fun e => hc6 (e.trans (by decide))), .inr (fun e => hc9 (e.trans (by decide))), trivial⟩ (by decide)) ?_
            refine V_bipush (pc := 108) C (v := (-2)) dX5_set_108 (by decide) ?_
            exact V_iret (pc := 110) C (gdow h hG) dX5_set_110
def X5_told (v1 : Int32) (v2 : Int32) (mh : vMH) : Option (Int32 × vMH) := (if (X0_has 1 v1 mh) = 0 then (some ((-2), mh)) else (if v2 = 0 then (chk (inb v1 12) (some ((mh.1 9 (jn v1)), mh))) else (if v2 = 1 then (chk (inb v1 12) (some ((mh.1 10 (jn v1)), mh))) else (if v2 = 2 then (chk (inb v1 12) (some ((mh.1 11 (jn v1)), mh))) else (if v2 = 3 then (chk (inb v1 12) (some ((mh.1 12 (jn v1)), mh))) else (if v2 = 4 then (if (X0_lies 1 v1 mh) = 0 then (some (1, mh)) else (some (0, mh))) else (if v2 = 5 then (chk (inb v1 12) (some ((X5_toneOf (mh.1 9 (jn v1)) (mh.1 12 (jn v1))), mh))) else (if v2 = 6 then ((X0_loud 1 v1 mh).bind fun q15 => (some (q15, mh))) else (if v2 = 7 then ((X0_heard 1 v1 mh).bind fun q18 => (some (q18, mh))) else (if v2 = 8 then (chk (inb v1 12) (some ((X5_dragsOf (mh.1 9 (jn v1)) (mh.1 12 (jn v1)) (mh.1 11 (jn v1))), mh))) else (if v2 = 9 then ((X0_loud 1 v1 mh).bind fun q23 => ((X3_reckon 1 2 v1 q23 mh).bind fun q25 => (some (q25.1, q25.2)))) else (some ((-2), mh)))))))))))))
set_option maxRecDepth 100000 in
set_option maxHeartbeats 8000000 in
theorem c_X5_told (d : Nat) (v1 : Int32) (v2 : Int32) (mh : vMH) {res : Int32 × vMH} (h : X5_told v1 v2 mh = some res) : MC LC (d + 3) yX5_told cX5_told 3 (some .int) [.ref 0, .int v1, .int v2] mh (some (.int res.1)) res.2 := by
  refine MC_of 0 (by decide) rfl (fun X C hG => ?_)
  replace C : Cx X (d + 3) 3 cX5_told RX5 (some .int) := C
  show Vw LC X (d + 3) 3 0 [some (.ref 0), some (.int v1), some (.int v2)] [] mh
  unfold X5_told at h
  refine V_aload_n (pc := 0) C dX5_told_0 rfl rfl ?_
  refine V_getR (pc := 1) C (r' := 1) CF5 fl_X5_12 LO5 (by decide) rfl dX5_told_1 ?_
  refine V_iload_n (pc := 4) C dX5_told_4 rfl rfl ?_
  refine V_callVi (pc := 5) (rest := []) C cs_X5_99 (c_X0_has (d + 2) isF1 v1 mh) CF0.1 (LO_F isF1) (by omega) (by decide) rfl rfl (Nat.le_of_ble_eq_true rfl) dX5_told_5 ?_
  refine V_ifne (pc := 8) (tgt := 14) C dX5_told_8 (by decide) (fun hc1 => ?_) (fun hc1 => ?_)
  · have h := it_f h hc1
    refine V_iload_n (pc := 14) C dX5_told_14 rfl rfl ?_
    by_cases hc2 : v2 = 0
    · have h := it_t h hc2
      refine V_tab (pc := 15) (tgt := 68) C dX5_told_15 (by decide) (v_tgt_k hc2 (by decide)) ?_
      refine V_aload_n (pc := 68) C dX5_told_68 rfl rfl ?_
      refine V_getR (pc := 69) C (r' := 1) CF5 fl_X5_12 LO5 (by decide) rfl dX5_told_69 ?_
      refine V_getR (pc := 72) C (r' := 9) CF0 fl_X5_105 (LO_F isF1) (by decide) rfl dX5_told_72 ?_
      refine V_iload_n (pc := 75) C dX5_told_75 rfl rfl ?_
      obtain ⟨hi3, h⟩ := chk_ok h
      refine V_iald (pc := 76) C (LA_F0 isF1) hi3 dX5_told_76 (v := (mh.1 9 (jn v1))) rfl ?_
      exact V_iret (pc := 77) C (gdow h hG) dX5_told_77
    · have h := it_f h hc2
      by_cases hc4 : v2 = 1
      · have h := it_t h hc4
        refine V_tab (pc := 15) (tgt := 78) C dX5_told_15 (by decide) (v_tgt_k hc4 (by decide)) ?_
        refine V_aload_n (pc := 78) C dX5_told_78 rfl rfl ?_
        refine V_getR (pc := 79) C (r' := 1) CF5 fl_X5_12 LO5 (by decide) rfl dX5_told_79 ?_
        refine V_getR (pc := 82) C (r' := 10) CF0 fl_X5_78 (LO_F isF1) (by decide) rfl dX5_told_82 ?_
        refine V_iload_n (pc := 85) C dX5_told_85 rfl rfl ?_
        obtain ⟨hi5, h⟩ := chk_ok h
        refine V_iald (pc := 86) C (LA_F1 isF1) hi5 dX5_told_86 (v := (mh.1 10 (jn v1))) rfl ?_
        exact V_iret (pc := 87) C (gdow h hG) dX5_told_87
      · have h := it_f h hc4
        by_cases hc6 : v2 = 2
        · have h := it_t h hc6
          refine V_tab (pc := 15) (tgt := 88) C dX5_told_15 (by decide) (v_tgt_k hc6 (by decide)) ?_
          refine V_aload_n (pc := 88) C dX5_told_88 rfl rfl ?_
          refine V_getR (pc := 89) C (r' := 1) CF5 fl_X5_12 LO5 (by decide) rfl dX5_told_89 ?_
          refine V_getR (pc := 92) C (r' := 11) CF0 fl_X5_86 (LO_F isF1) (by decide) rfl dX5_told_92 ?_
          refine V_iload_n (pc := 95) C dX5_told_95 rfl rfl ?_
          obtain ⟨hi7, h⟩ := chk_ok h
          refine V_iald (pc := 96) C (LA_F2 isF1) hi7 dX5_told_96 (v := (mh.1 11 (jn v1))) rfl ?_
          exact V_iret (pc := 97) C (gdow h hG) dX5_told_97
        · have h := it_f h hc6
          by_cases hc8 : v2 = 3
          · have h := it_t h hc8
            refine V_tab (pc := 15) (tgt := 98) C dX5_told_15 (by decide) (v_tgt_k hc8 (by decide)) ?_
            refine V_aload_n (pc := 98) C dX5_told_98 rfl rfl ?_
            refine V_getR (pc := 99) C (r' := 1) CF5 fl_X5_12 LO5 (by decide) rfl dX5_told_99 ?_
            refine V_getR (pc := 102) C (r' := 12) CF0 fl_X5_89 (LO_F isF1) (by decide) rfl dX5_told_102 ?_
            refine V_iload_n (pc := 105) C dX5_told_105 rfl rfl ?_
            obtain ⟨hi9, h⟩ := chk_ok h
            refine V_iald (pc := 106) C (LA_F3 isF1) hi9 dX5_told_106 (v := (mh.1 12 (jn v1))) rfl ?_
            exact V_iret (pc := 107) C (gdow h hG) dX5_told_107
          · have h := it_f h hc8
            by_cases hc10 : v2 = 4
            · have h := it_t h hc10
              refine V_tab (pc := 15) (tgt := 108) C dX5_told_15 (by decide) (v_tgt_k hc10 (by decide)) ?_
              refine V_aload_n (pc := 108) C dX5_told_108 rfl rfl ?_
              refine V_getR (pc := 109) C (r' := 1) CF5 fl_X5_12 LO5 (by decide) rfl dX5_told_109 ?_
              refine V_iload_n (pc := 112) C dX5_told_112 rfl rfl ?_
              refine V_callVi (pc := 113) (rest := []) C cs_X5_102 (c_X0_lies (d + 1) isF1 v1 mh) CF0.1 (LO_F isF1) (by omega) (by decide) rfl rfl (Nat.le_of_ble_eq_true rfl) dX5_told_113 ?_
              refine V_ifeq (pc := 116) (tgt := 123) C dX5_told_116 (by decide) (fun hc11 => ?_) (fun hc11 => ?_)
              · have h := it_t h hc11
                refine V_iconst (pc := 123) C (v := 1) dX5_told_123 (by decide) ?_
                exact V_iret (pc := 124) C (gdow h hG) dX5_told_124
              · have h := it_f h hc11
                refine V_iconst (pc := 119) C (v := 0) dX5_told_119 (by decide) ?_
                refine V_goto (pc := 120) (tgt := 124) C dX5_told_120 (by decide) ?_
                exact V_iret (pc := 124) C (gdow h hG) dX5_told_124
            · have h := it_f h hc10
              by_cases hc12 : v2 = 5
              · have h := it_t h hc12
                refine V_tab (pc := 15) (tgt := 125) C dX5_told_15 (by decide) (v_tgt_k hc12 (by decide)) ?_
                refine V_aload_n (pc := 125) C dX5_told_125 rfl rfl ?_
                refine V_getR (pc := 126) C (r' := 1) CF5 fl_X5_12 LO5 (by decide) rfl dX5_told_126 ?_
                refine V_getR (pc := 129) C (r' := 9) CF0 fl_X5_105 (LO_F isF1) (by decide) rfl dX5_told_129 ?_
                refine V_iload_n (pc := 132) C dX5_told_132 rfl rfl ?_
                obtain ⟨hi13, h⟩ := chk_ok h
                refine V_iald (pc := 133) C (LA_F0 isF1) hi13 dX5_told_133 (v := (mh.1 9 (jn v1))) rfl ?_
                refine V_aload_n (pc := 134) C dX5_told_134 rfl rfl ?_
                refine V_getR (pc := 135) C (r' := 1) CF5 fl_X5_12 LO5 (by decide) rfl dX5_told_135 ?_
                refine V_getR (pc := 138) C (r' := 12) CF0 fl_X5_89 (LO_F isF1) (by decide) rfl dX5_told_138 ?_
                refine V_iload_n (pc := 141) C dX5_told_141 rfl rfl ?_
                refine V_iald (pc := 142) C (LA_F3 isF1) hi13 dX5_told_142 (v := (mh.1 12 (jn v1))) rfl ?_
                refine V_callSi (pc := 143) (rest := []) C cs_X5_108 (c_X5_toneOf (d + 2) (mh.1 9 (jn v1)) (mh.1 12 (jn v1)) mh) (by omega) (by decide) rfl rfl (Nat.le_of_ble_eq_true rfl) dX5_told_143 ?_
                exact V_iret (pc := 146) C (gdow h hG) dX5_told_146
              · have h := it_f h hc12
                by_cases hc14 : v2 = 6
                · have h := it_t h hc14
                  refine V_tab (pc := 15) (tgt := 147) C dX5_told_15 (by decide) (v_tgt_k hc14 (by decide)) ?_
                  refine V_aload_n (pc := 147) C dX5_told_147 rfl rfl ?_
                  refine V_getR (pc := 148) C (r' := 1) CF5 fl_X5_12 LO5 (by decide) rfl dX5_told_148 ?_
                  refine V_iload_n (pc := 151) C dX5_told_151 rfl rfl ?_
                  obtain ⟨q15, hq16, h⟩ := bnd_ok h
                  refine V_callVi (pc := 152) (rest := []) C cs_X5_112 (c_X0_loud (d + 1) isF1 v1 mh hq16) CF0.1 (LO_F isF1) (by omega) (by decide) rfl rfl (Nat.le_of_ble_eq_true rfl) dX5_told_152 ?_
                  exact V_iret (pc := 155) C (gdow h hG) dX5_told_155
                · have h := it_f h hc14
                  by_cases hc17 : v2 = 7
                  · have h := it_t h hc17
                    refine V_tab (pc := 15) (tgt := 156) C dX5_told_15 (by decide) (v_tgt_k hc17 (by decide)) ?_
                    refine V_aload_n (pc := 156) C dX5_told_156 rfl rfl ?_
                    refine V_getR (pc := 157) C (r' := 1) CF5 fl_X5_12 LO5 (by decide) rfl dX5_told_157 ?_
                    refine V_iload_n (pc := 160) C dX5_told_160 rfl rfl ?_
                    obtain ⟨q18, hq19, h⟩ := bnd_ok h
                    refine V_callVi (pc := 161) (rest := []) C cs_X5_115 (c_X0_heard (d + 0) isF1 v1 mh hq19) CF0.1 (LO_F isF1) (by omega) (by decide) rfl rfl (Nat.le_of_ble_eq_true rfl) dX5_told_161 ?_
                    exact V_iret (pc := 164) C (gdow h hG) dX5_told_164
                  · have h := it_f h hc17
                    by_cases hc20 : v2 = 8
                    · have h := it_t h hc20
                      refine V_tab (pc := 15) (tgt := 165) C dX5_told_15 (by decide) (v_tgt_k hc20 (by decide)) ?_
                      refine V_aload_n (pc := 165) C dX5_told_165 rfl rfl ?_
                      refine V_getR (pc := 166) C (r' := 1) CF5 fl_X5_12 LO5 (by decide) rfl dX5_told_166 ?_
                      refine V_getR (pc := 169) C (r' := 9) CF0 fl_X5_105 (LO_F isF1) (by decide) rfl dX5_told_169 ?_
                      refine V_iload_n (pc := 172) C dX5_told_172 rfl rfl ?_
                      obtain ⟨hi21, h⟩ := chk_ok h
                      refine V_iald (pc := 173) C (LA_F0 isF1) hi21 dX5_told_173 (v := (mh.1 9 (jn v1))) rfl ?_
                      refine V_aload_n (pc := 174) C dX5_told_174 rfl rfl ?_
                      refine V_getR (pc := 175) C (r' := 1) CF5 fl_X5_12 LO5 (by decide) rfl dX5_told_175 ?_
                      refine V_getR (pc := 178) C (r' := 12) CF0 fl_X5_89 (LO_F isF1) (by decide) rfl dX5_told_178 ?_
                      refine V_iload_n (pc := 181) C dX5_told_181 rfl rfl ?_
                      refine V_iald (pc := 182) C (LA_F3 isF1) hi21 dX5_told_182 (v := (mh.1 12 (jn v1))) rfl ?_
                      refine V_aload_n (pc := 183) C dX5_told_183 rfl rfl ?_
                      refine V_getR (pc := 184) C (r' := 1) CF5 fl_X5_12 LO5 (by decide) rfl dX5_told_184 ?_
                      refine V_getR (pc := 187) C (r' := 11) CF0 fl_X5_86 (LO_F isF1) (by decide) rfl dX5_told_187 ?_
                      refine V_iload_n (pc := 190) C dX5_told_190 rfl rfl ?_
                      refine V_iald (pc := 191) C (LA_F2 isF1) hi21 dX5_told_191 (v := (mh.1 11 (jn v1))) rfl ?_
                      refine V_callSi (pc := 192) (rest := []) C cs_X5_118 (c_X5_dragsOf (d + 2) (mh.1 9 (jn v1)) (mh.1 12 (jn v1)) (mh.1 11 (jn v1)) mh) (by omega) (by decide) rfl rfl (Nat.le_of_ble_eq_true rfl) dX5_told_192 ?_
                      exact V_iret (pc := 195) C (gdow h hG) dX5_told_195
                    · have h := it_f h hc20
                      by_cases hc22 : v2 = 9
                      · have h := it_t h hc22
                        refine V_tab (pc := 15) (tgt := 196) C dX5_told_15 (by decide) (v_tgt_k hc22 (by decide)) ?_
                        refine V_aload_n (pc := 196) C dX5_told_196 rfl rfl ?_
                        refine V_getR (pc := 197) C (r' := 5) CF5 fl_X5_28 LO5 (by decide) rfl dX5_told_197 ?_
                        refine V_iconst (pc := 200) C (v := 2) dX5_told_200 (by decide) ?_
                        refine V_aload_n (pc := 201) C dX5_told_201 rfl rfl ?_
                        refine V_getR (pc := 202) C (r' := 1) CF5 fl_X5_12 LO5 (by decide) rfl dX5_told_202 ?_
                        refine V_iload_n (pc := 205) C dX5_told_205 rfl rfl ?_
                        refine V_aload_n (pc := 206) C dX5_told_206 rfl rfl ?_
                        refine V_getR (pc := 207) C (r' := 1) CF5 fl_X5_12 LO5 (by decide) rfl dX5_told_207 ?_
                        refine V_iload_n (pc := 210) C dX5_told_210 rfl rfl ?_
                        obtain ⟨q23, hq24, h⟩ := bnd_ok h
                        refine V_callVi (pc := 211) (rest := [.int v1, .ref 1, .int 2, .ref 5]) C cs_X5_112 (c_X0_loud (d + 1) isF1 v1 mh hq24) CF0.1 (LO_F isF1) (by omega) (by decide) rfl rfl (Nat.le_of_ble_eq_true rfl) dX5_told_211 ?_
                        obtain ⟨q25, hq26, h⟩ := bnd_ok h
                        refine V_callVi (pc := 214) (rest := []) C cs_X5_122 (c_X3_reckon (d + 0) isF1 2 v1 q23 mh hq26) CF3.1 LO3 (by omega) (by decide) rfl rfl (Nat.le_of_ble_eq_true rfl) dX5_told_214 ?_
                        exact V_iret (pc := 217) C (gdow h hG) dX5_told_217
                      · have h := it_f h hc22
                        refine V_tab (pc := 15) (tgt := 218) C dX5_told_15 (by decide) (v_tgt_d ⟨.inr (fun e => hc2 (e.trans (by decide))), .inr (fun e => hc4 (e.trans (by decide))), .inr (fun e => hc6 (e.trans (by decide))), .inr (fun e => hc8 (e.trans (by decide))), .inr (fun e => hc10 (e.trans (by decide))), .inr (fun e => hc12 (e.trans (by decide))), .inr (fun e => hc14 (e.trans (by decide))), .inr (fun e => hc17 (e.trans (by decide))), .inr (fun e => hc20 (e.trans (by decide))), .inr (fun e => hc22 (e.trans (by decide))), trivial⟩ (by decide)) ?_
                        refine V_bipush (pc := 218) C (v := (-2)) dX5_told_218 (by decide) ?_
                        exact V_iret (pc := 220) C (gdow h hG) dX5_told_220
  · have h := it_t h hc1
    refine V_bipush (pc := 11) C (v := (-2)) dX5_told_11 (by decide) ?_
    exact V_iret (pc := 13) C (gdow h hG) dX5_told_13
def X5_feed (v1 : Int32) (mh : vMH) : Option (Int32 × vMH) := (if (X5_isWithin v1 0 255) = 0 then (some ((-2), mh)) else ((X1_append v1 mh).bind fun q2 => (some (q2.1, q2.2))))
set_option maxRecDepth 100000 in
set_option maxHeartbeats 8000000 in
theorem c_X5_feed (d : Nat) (v1 : Int32) (mh : vMH) {res : Int32 × vMH} (h : X5_feed v1 mh = some res) : MC LC (d + 1) yX5_feed cX5_feed 2 (some .int) [.ref 0, .int v1] mh (some (.int res.1)) res.2 := by
  refine MC_of 0 (by decide) rfl (fun X C hG => ?_)
  replace C : Cx X (d + 1) 2 cX5_feed RX5 (some .int) := C
  show Vw LC X (d + 1) 2 0 [some (.ref 0), some (.int v1)] [] mh
  unfold X5_feed at h
  refine V_iload_n (pc := 0) C dX5_feed_0 rfl rfl ?_
  refine V_iconst (pc := 1) C (v := 0) dX5_feed_1 (by decide) ?_
  refine V_sipush (pc := 2) C (v := 255) dX5_feed_2 (by decide) ?_
  refine V_callSi (pc := 5) (rest := []) C cs_X5_59 (c_X5_isWithin (d + 0) v1 0 255 mh) (by omega) (by decide) rfl rfl (Nat.le_of_ble_eq_true rfl) dX5_feed_5 ?_
  refine V_ifne (pc := 8) (tgt := 14) C dX5_feed_8 (by decide) (fun hc1 => ?_) (fun hc1 => ?_)
  · have h := it_f h hc1
    refine V_aload_n (pc := 14) C dX5_feed_14 rfl rfl ?_
    refine V_getR (pc := 15) C (r' := 6) CF5 fl_X5_37 LO5 (by decide) rfl dX5_feed_15 ?_
    refine V_iload_n (pc := 18) C dX5_feed_18 rfl rfl ?_
    obtain ⟨q2, hq3, h⟩ := bnd_ok h
    refine V_callVi (pc := 19) (rest := []) C cs_X5_126 (c_X1_append (d + 0) v1 mh hq3) CF1.1 LO1 (by omega) (by decide) rfl rfl (Nat.le_of_ble_eq_true rfl) dX5_feed_19 ?_
    exact V_iret (pc := 22) C (gdow h hG) dX5_feed_22
  · have h := it_t h hc1
    refine V_bipush (pc := 11) C (v := (-2)) dX5_feed_11 (by decide) ?_
    exact V_iret (pc := 13) C (gdow h hG) dX5_feed_13
def X5_text (mh : vMH) : Option (Int32 × vMH) := (if (X3_isFull mh) = 0 then ((X1_readTape mh).bind fun q2 => (if q2.1 = (-1) then (some ((X3_keep q2.2).1, (X3_keep q2.2).2)) else (some (((-100) - q2.1), q2.2)))) else (some ((-4), mh)))
set_option maxRecDepth 100000 in
set_option maxHeartbeats 8000000 in
theorem c_X5_text (d : Nat)  (mh : vMH) {res : Int32 × vMH} (h : X5_text mh = some res) : MC LC (d + 74) yX5_text cX5_text 2 (some .int) [.ref 0] mh (some (.int res.1)) res.2 := by
  refine MC_of 1 (by decide) rfl (fun X C hG => ?_)
  replace C : Cx X (d + 74) 2 cX5_text RX5 (some .int) := C
  show Vw LC X (d + 74) 2 0 [some (.ref 0), none] [] mh
  unfold X5_text at h
  refine V_aload_n (pc := 0) C dX5_text_0 rfl rfl ?_
  refine V_getR (pc := 1) C (r' := 5) CF5 fl_X5_28 LO5 (by decide) rfl dX5_text_1 ?_
  refine V_callVi (pc := 4) (rest := []) C cs_X5_129 (c_X3_isFull (d + 73) mh) CF3.1 LO3 (by omega) (by decide) rfl rfl (Nat.le_of_ble_eq_true rfl) dX5_text_4 ?_
  refine V_ifeq (pc := 7) (tgt := 13) C dX5_text_7 (by decide) (fun hc1 => ?_) (fun hc1 => ?_)
  · have h := it_t h hc1
    refine V_aload_n (pc := 13) C dX5_text_13 rfl rfl ?_
    refine V_getR (pc := 14) C (r' := 6) CF5 fl_X5_37 LO5 (by decide) rfl dX5_text_14 ?_
    obtain ⟨q2, hq3, h⟩ := bnd_ok h
    refine V_callVi (pc := 17) (rest := []) C cs_X5_133 (c_X1_readTape (d + 0) mh hq3) CF1.1 LO1 (by omega) (by decide) rfl rfl (Nat.le_of_ble_eq_true rfl) dX5_text_17 ?_
    refine V_istore_n (pc := 20) C (lv' := [some (.ref 0), some (.int q2.1)]) dX5_text_20 rfl (by decide) (Nat.le_of_ble_eq_true rfl) rfl rfl ?_
    refine V_iload_n (pc := 21) C dX5_text_21 rfl rfl ?_
    refine V_iconst (pc := 22) C (v := (-1)) dX5_text_22 (by decide) ?_
    refine V_icmpeq (pc := 23) (tgt := 31) C dX5_text_23 (by decide) (fun hc4 => ?_) (fun hc4 => ?_)
    · have h := it_t h hc4
      refine V_aload_n (pc := 31) C dX5_text_31 rfl rfl ?_
      refine V_getR (pc := 32) C (r' := 5) CF5 fl_X5_28 LO5 (by decide) rfl dX5_text_32 ?_
      refine V_callVi (pc := 35) (rest := []) C cs_X5_137 (c_X3_keep (d + 73) q2.2) CF3.1 LO3 (by omega) (by decide) rfl rfl (Nat.le_of_ble_eq_true rfl) dX5_text_35 ?_
      exact V_iret (pc := 38) C (gdow h hG) dX5_text_38
    · have h := it_f h hc4
      refine V_bipush (pc := 26) C (v := (-100)) dX5_text_26 (by decide) ?_
      refine V_iload_n (pc := 28) C dX5_text_28 rfl rfl ?_
      refine V_isub (pc := 29) C dX5_text_29 ?_
      exact V_iret (pc := 30) C (gdow h hG) dX5_text_30
  · have h := it_f h hc1
    refine V_bipush (pc := 10) C (v := (-4)) dX5_text_10 (by decide) ?_
    exact V_iret (pc := 12) C (gdow h hG) dX5_text_12
def X5_force (v1 : Int32) (mh : vMH) : Int32 × vMH := (if (X3_has v1 mh) = 0 then ((-2), mh) else ((mh.1 1 10), (v_up mh 1 10 v1)))
set_option maxRecDepth 100000 in
set_option maxHeartbeats 8000000 in
theorem c_X5_force (d : Nat) (v1 : Int32) (mh : vMH) : MC LC (d + 1) yX5_force cX5_force 3 (some .int) [.ref 0, .int v1] mh (some (.int (X5_force v1 mh).1)) (X5_force v1 mh).2 := by
  refine MC_of 1 (by decide) rfl (fun X C hG => ?_)
  replace C : Cx X (d + 1) 3 cX5_force RX5 (some .int) := C
  show Vw LC X (d + 1) 3 0 [some (.ref 0), some (.int v1), none] [] mh
  obtain ⟨res, h⟩ : ∃ res, X5_force v1 mh = res := ⟨_, rfl⟩
  rw [h] at hG
  unfold X5_force at h
  refine V_aload_n (pc := 0) C dX5_force_0 rfl rfl ?_
  refine V_getR (pc := 1) C (r' := 5) CF5 fl_X5_28 LO5 (by decide) rfl dX5_force_1 ?_
  refine V_iload_n (pc := 4) C dX5_force_4 rfl rfl ?_
  refine V_callVi (pc := 5) (rest := []) C cs_X5_140 (c_X3_has (d + 0) v1 mh) CF3.1 LO3 (by omega) (by decide) rfl rfl (Nat.le_of_ble_eq_true rfl) dX5_force_5 ?_
  refine V_ifne (pc := 8) (tgt := 14) C dX5_force_8 (by decide) (fun hc1 => ?_) (fun hc1 => ?_)
  · have h := it_f h hc1
    refine V_aload_n (pc := 14) C dX5_force_14 rfl rfl ?_
    refine V_getR (pc := 15) C (r' := 1) CF5 fl_X5_12 LO5 (by decide) rfl dX5_force_15 ?_
    refine V_getI (pc := 18) C CF0 fl_X5_141 (LO_F isF1) (by decide) rfl dX5_force_18 (v := (mh.1 1 10)) rfl ?_
    refine V_istore_n (pc := 21) C (lv' := [some (.ref 0), some (.int v1), some (.int (mh.1 1 10))]) dX5_force_21 rfl (by decide) (Nat.le_of_ble_eq_true rfl) rfl rfl ?_
    refine V_aload_n (pc := 22) C dX5_force_22 rfl rfl ?_
    refine V_getR (pc := 23) C (r' := 1) CF5 fl_X5_12 LO5 (by decide) rfl dX5_force_23 ?_
    refine V_iload_n (pc := 26) C dX5_force_26 rfl rfl ?_
    refine V_putI (pc := 27) C CF0 fl_X5_141 (LO_F isF1) (by decide) rfl rfl rfl dX5_force_27 ?_
    refine V_iload_n (pc := 30) C dX5_force_30 rfl rfl ?_
    exact V_iret (pc := 31) C (gdtw h hG) dX5_force_31
  · have h := it_t h hc1
    refine V_bipush (pc := 11) C (v := (-2)) dX5_force_11 (by decide) ?_
    exact V_iret (pc := 13) C (gdtw h hG) dX5_force_13
def X5_beep (v1 : Int32) (mh : vMH) : Option (Int32 × vMH) := (if (X5_isCell v1) = 0 then (some ((-2), mh)) else ((X4_beepIn 1 v1 mh).bind fun q2 => (some (q2.1, q2.2))))
set_option maxRecDepth 100000 in
set_option maxHeartbeats 8000000 in
theorem c_X5_beep (d : Nat) (v1 : Int32) (mh : vMH) {res : Int32 × vMH} (h : X5_beep v1 mh = some res) : MC LC (d + 4) yX5_beep cX5_beep 2 (some .int) [.ref 0, .int v1] mh (some (.int res.1)) res.2 := by
  refine MC_of 0 (by decide) rfl (fun X C hG => ?_)
  replace C : Cx X (d + 4) 2 cX5_beep RX5 (some .int) := C
  show Vw LC X (d + 4) 2 0 [some (.ref 0), some (.int v1)] [] mh
  unfold X5_beep at h
  refine V_iload_n (pc := 0) C dX5_beep_0 rfl rfl ?_
  refine V_callSi (pc := 1) (rest := []) C cs_X5_63 (c_X5_isCell (d + 3) v1 mh) (by omega) (by decide) rfl rfl (Nat.le_of_ble_eq_true rfl) dX5_beep_1 ?_
  refine V_ifne (pc := 4) (tgt := 10) C dX5_beep_4 (by decide) (fun hc1 => ?_) (fun hc1 => ?_)
  · have h := it_f h hc1
    refine V_aload_n (pc := 10) C dX5_beep_10 rfl rfl ?_
    refine V_getR (pc := 11) C (r' := 7) CF5 fl_X5_44 LO5 (by decide) rfl dX5_beep_11 ?_
    refine V_aload_n (pc := 14) C dX5_beep_14 rfl rfl ?_
    refine V_getR (pc := 15) C (r' := 1) CF5 fl_X5_12 LO5 (by decide) rfl dX5_beep_15 ?_
    refine V_iload_n (pc := 18) C dX5_beep_18 rfl rfl ?_
    obtain ⟨q2, hq3, h⟩ := bnd_ok h
    refine V_callVi (pc := 19) (rest := []) C cs_X5_144 (c_X4_beepIn (d + 0) isF1 v1 mh hq3) CF4.1 LO4 (by omega) (by decide) rfl rfl (Nat.le_of_ble_eq_true rfl) dX5_beep_19 ?_
    exact V_iret (pc := 22) C (gdow h hG) dX5_beep_22
  · have h := it_t h hc1
    refine V_bipush (pc := 7) C (v := (-2)) dX5_beep_7 (by decide) ?_
    exact V_iret (pc := 9) C (gdow h hG) dX5_beep_9
def X5_walk (v1 : Int32) (mh : vMH) : Option (Int32 × vMH) := (if (X5_isWithin v1 0 5) = 0 then (some ((-2), mh)) else ((X4_walkStrips 1 (jl 1 v1) (v_up mh 1 9 ((mh.1 1 9) ||| (jl 1 v1)))).bind fun q2 => (some (q2.1, q2.2))))
set_option maxRecDepth 100000 in
set_option maxHeartbeats 8000000 in
theorem c_X5_walk (d : Nat) (v1 : Int32) (mh : vMH) {res : Int32 × vMH} (h : X5_walk v1 mh = some res) : MC LC (d + 6) yX5_walk cX5_walk 2 (some .int) [.ref 0, .int v1] mh (some (.int res.1)) res.2 := by
  refine MC_of 0 (by decide) rfl (fun X C hG => ?_)
  replace C : Cx X (d + 6) 2 cX5_walk RX5 (some .int) := C
  show Vw LC X (d + 6) 2 0 [some (.ref 0), some (.int v1)] [] mh
  unfold X5_walk at h
  refine V_iload_n (pc := 0) C dX5_walk_0 rfl rfl ?_
  refine V_iconst (pc := 1) C (v := 0) dX5_walk_1 (by decide) ?_
  refine V_iconst (pc := 2) C (v := 5) dX5_walk_2 (by decide) ?_
  refine V_callSi (pc := 3) (rest := []) C cs_X5_59 (c_X5_isWithin (d + 5) v1 0 5 mh) (by omega) (by decide) rfl rfl (Nat.le_of_ble_eq_true rfl) dX5_walk_3 ?_
  refine V_ifne (pc := 6) (tgt := 12) C dX5_walk_6 (by decide) (fun hc1 => ?_) (fun hc1 => ?_)
  · have h := it_f h hc1
    refine V_aload_n (pc := 12) C dX5_walk_12 rfl rfl ?_
    refine V_getR (pc := 13) C (r' := 1) CF5 fl_X5_12 LO5 (by decide) rfl dX5_walk_13 ?_
    refine V_dup (pc := 16) C dX5_walk_16 rfl ?_
    refine V_getI (pc := 17) C CF0 fl_X5_148 (LO_F isF1) (by decide) rfl dX5_walk_17 (v := (mh.1 1 9)) rfl ?_
    refine V_iconst (pc := 20) C (v := 1) dX5_walk_20 (by decide) ?_
    refine V_iload_n (pc := 21) C dX5_walk_21 rfl rfl ?_
    refine V_ishl (pc := 22) C dX5_walk_22 ?_
    refine V_ior (pc := 23) C dX5_walk_23 ?_
    refine V_putI (pc := 24) C CF0 fl_X5_148 (LO_F isF1) (by decide) rfl rfl rfl dX5_walk_24 ?_
    refine V_aload_n (pc := 27) C dX5_walk_27 rfl rfl ?_
    refine V_getR (pc := 28) C (r' := 7) CF5 fl_X5_44 LO5 (by decide) rfl dX5_walk_28 ?_
    refine V_aload_n (pc := 31) C dX5_walk_31 rfl rfl ?_
    refine V_getR (pc := 32) C (r' := 1) CF5 fl_X5_12 LO5 (by decide) rfl dX5_walk_32 ?_
    refine V_iconst (pc := 35) C (v := 1) dX5_walk_35 (by decide) ?_
    refine V_iload_n (pc := 36) C dX5_walk_36 rfl rfl ?_
    refine V_ishl (pc := 37) C dX5_walk_37 ?_
    obtain ⟨q2, hq3, h⟩ := bnd_ok h
    refine V_callVi (pc := 38) (rest := []) C cs_X5_151 (c_X4_walkStrips (d + 0) isF1 (jl 1 v1) (v_up mh 1 9 ((mh.1 1 9) ||| (jl 1 v1))) hq3) CF4.1 LO4 (by omega) (by decide) rfl rfl (Nat.le_of_ble_eq_true rfl) dX5_walk_38 ?_
    exact V_iret (pc := 41) C (gdow h hG) dX5_walk_41
  · have h := it_t h hc1
    refine V_bipush (pc := 9) C (v := (-2)) dX5_walk_9 (by decide) ?_
    exact V_iret (pc := 11) C (gdow h hG) dX5_walk_11
def X5_plough (mh : vMH) : Option (Int32 × vMH) := ((X0_turnOver 1 mh).bind fun q1 => (some ((q1.1 1 8), q1)))
set_option maxRecDepth 100000 in
set_option maxHeartbeats 8000000 in
theorem c_X5_plough (d : Nat)  (mh : vMH) {res : Int32 × vMH} (h : X5_plough mh = some res) : MC LC (d + 3) yX5_plough cX5_plough 1 (some .int) [.ref 0] mh (some (.int res.1)) res.2 := by
  refine MC_of 0 (by decide) rfl (fun X C hG => ?_)
  replace C : Cx X (d + 3) 1 cX5_plough RX5 (some .int) := C
  show Vw LC X (d + 3) 1 0 [some (.ref 0)] [] mh
  unfold X5_plough at h
  refine V_aload_n (pc := 0) C dX5_plough_0 rfl rfl ?_
  refine V_getR (pc := 1) C (r' := 1) CF5 fl_X5_12 LO5 (by decide) rfl dX5_plough_1 ?_
  obtain ⟨q1, hq2, h⟩ := bnd_ok h
  refine V_callVv (pc := 4) (rest := []) C cs_X5_154 (c_X0_turnOver (d + 0) isF1 mh hq2) CF0.1 (LO_F isF1) (by omega) (by decide) rfl rfl (Nat.le_of_ble_eq_true rfl) dX5_plough_4 ?_
  refine V_aload_n (pc := 7) C dX5_plough_7 rfl rfl ?_
  refine V_getR (pc := 8) C (r' := 1) CF5 fl_X5_12 LO5 (by decide) rfl dX5_plough_8 ?_
  refine V_getI (pc := 11) C CF0 fl_X5_157 (LO_F isF1) (by decide) rfl dX5_plough_11 (v := (q1.1 1 8)) rfl ?_
  exact V_iret (pc := 14) C (gdow h hG) dX5_plough_14
def X5_foundIn (r1 : Nat) (v2 : Int32) (mh : vMH) : Option (Int32 × vMH) := ((X4_walkStrips 4 v2 (X0_become 4 r1 mh)).bind fun q1 => (some (q1.1, q1.2)))
set_option maxRecDepth 100000 in
set_option maxHeartbeats 8000000 in
theorem c_X5_foundIn (d : Nat) {r1 : Nat} (hr1 : isF r1) (v2 : Int32) (mh : vMH) {res : Int32 × vMH} (h : X5_foundIn r1 v2 mh = some res) : MC LC (d + 6) yX5_foundIn cX5_foundIn 3 (some .int) [.ref 0, .ref r1, .int v2] mh (some (.int res.1)) res.2 := by
  refine MC_of 0 (by decide) rfl (fun X C hG => ?_)
  replace C : Cx X (d + 6) 3 cX5_foundIn RX5 (some .int) := C
  show Vw LC X (d + 6) 3 0 [some (.ref 0), some (.ref r1), some (.int v2)] [] mh
  unfold X5_foundIn at h
  refine V_aload_n (pc := 0) C dX5_foundIn_0 rfl rfl ?_
  refine V_getR (pc := 1) C (r' := 4) CF5 fl_X5_22 LO5 (by decide) rfl dX5_foundIn_1 ?_
  refine V_aload_n (pc := 4) C dX5_foundIn_4 rfl rfl ?_
  refine V_callVv (pc := 5) (rest := []) C cs_X5_166 (c_X0_become (d + 3) isF4 hr1 mh) CF0.1 (LO_F isF4) (by omega) (by decide) rfl rfl (Nat.le_of_ble_eq_true rfl) dX5_foundIn_5 ?_
  refine V_aload_n (pc := 8) C dX5_foundIn_8 rfl rfl ?_
  refine V_getR (pc := 9) C (r' := 7) CF5 fl_X5_44 LO5 (by decide) rfl dX5_foundIn_9 ?_
  refine V_aload_n (pc := 12) C dX5_foundIn_12 rfl rfl ?_
  refine V_getR (pc := 13) C (r' := 4) CF5 fl_X5_22 LO5 (by decide) rfl dX5_foundIn_13 ?_
  refine V_iload_n (pc := 16) C dX5_foundIn_16 rfl rfl ?_
  obtain ⟨q1, hq2, h⟩ := bnd_ok h
  refine V_callVi (pc := 17) (rest := []) C cs_X5_151 (c_X4_walkStrips (d + 0) isF4 v2 (X0_become 4 r1 mh) hq2) CF4.1 LO4 (by omega) (by decide) rfl rfl (Nat.le_of_ble_eq_true rfl) dX5_foundIn_17 ?_
  exact V_iret (pc := 20) C (gdow h hG) dX5_foundIn_20
def X5_found (v1 : Int32) (v2 : Int32) (mh : vMH) : Option (Int32 × vMH) := (if (X5_isWithin v1 0 63) = 0 then (some ((-2), mh)) else (if (X5_isWithin v2 0 1) = 0 then (some ((-2), mh)) else ((X5_foundIn 1 v1 mh).bind fun q3 => (if v2 = 0 then (some (q3.1, q3.2)) else (some ((q3.2.1 7 1), q3.2))))))
set_option maxRecDepth 100000 in
set_option maxHeartbeats 8000000 in
theorem c_X5_found (d : Nat) (v1 : Int32) (v2 : Int32) (mh : vMH) {res : Int32 × vMH} (h : X5_found v1 v2 mh = some res) : MC LC (d + 7) yX5_found cX5_found 4 (some .int) [.ref 0, .int v1, .int v2] mh (some (.int res.1)) res.2 := by
  refine MC_of 1 (by decide) rfl (fun X C hG => ?_)
  replace C : Cx X (d + 7) 4 cX5_found RX5 (some .int) := C
  show Vw LC X (d + 7) 4 0 [some (.ref 0), some (.int v1), some (.int v2), none] [] mh
  unfold X5_found at h
  refine V_iload_n (pc := 0) C dX5_found_0 rfl rfl ?_
  refine V_iconst (pc := 1) C (v := 0) dX5_found_1 (by decide) ?_
  refine V_bipush (pc := 2) C (v := 63) dX5_found_2 (by decide) ?_
  refine V_callSi (pc := 4) (rest := []) C cs_X5_59 (c_X5_isWithin (d + 6) v1 0 63 mh) (by omega) (by decide) rfl rfl (Nat.le_of_ble_eq_true rfl) dX5_found_4 ?_
  refine V_ifeq (pc := 7) (tgt := 19) C dX5_found_7 (by decide) (fun hc1 => ?_) (fun hc1 => ?_)
  · have h := it_t h hc1
    refine V_bipush (pc := 19) C (v := (-2)) dX5_found_19 (by decide) ?_
    exact V_iret (pc := 21) C (gdow h hG) dX5_found_21
  · have h := it_f h hc1
    refine V_iload_n (pc := 10) C dX5_found_10 rfl rfl ?_
    refine V_iconst (pc := 11) C (v := 0) dX5_found_11 (by decide) ?_
    refine V_iconst (pc := 12) C (v := 1) dX5_found_12 (by decide) ?_
    refine V_callSi (pc := 13) (rest := []) C cs_X5_59 (c_X5_isWithin (d + 6) v2 0 1 mh) (by omega) (by decide) rfl rfl (Nat.le_of_ble_eq_true rfl) dX5_found_13 ?_
    refine V_ifne (pc := 16) (tgt := 22) C dX5_found_16 (by decide) (fun hc2 => ?_) (fun hc2 => ?_)
    · have h := it_f h hc2
      refine V_aload_n (pc := 22) C dX5_found_22 rfl rfl ?_
      refine V_aload_n (pc := 23) C dX5_found_23 rfl rfl ?_
      refine V_getR (pc := 24) C (r' := 1) CF5 fl_X5_12 LO5 (by decide) rfl dX5_found_24 ?_
      refine V_iload_n (pc := 27) C dX5_found_27 rfl rfl ?_
      obtain ⟨q3, hq4, h⟩ := bnd_ok h
      refine V_callVi (pc := 28) (rest := []) C cs_X5_160 (c_X5_foundIn (d + 0) isF1 v1 mh hq4) CF5.1 LO5 (by omega) (by decide) rfl rfl (Nat.le_of_ble_eq_true rfl) dX5_found_28 ?_
      refine V_istore_n (pc := 31) C (lv' := [some (.ref 0), some (.int v1), some (.int v2), some (.int q3.1)]) dX5_found_31 rfl (by decide) (Nat.le_of_ble_eq_true rfl) rfl rfl ?_
      refine V_iload_n (pc := 32) C dX5_found_32 rfl rfl ?_
      refine V_ifne (pc := 33) (tgt := 40) C dX5_found_33 (by decide) (fun hc5 => ?_) (fun hc5 => ?_)
      · have h := it_f h hc5
        refine V_aload_n (pc := 40) C dX5_found_40 rfl rfl ?_
        refine V_getR (pc := 41) C (r' := 7) CF5 fl_X5_44 LO5 (by decide) rfl dX5_found_41 ?_
        refine V_getI (pc := 44) C CF4 fl_X5_163 LO4 (by decide) rfl dX5_found_44 (v := (q3.2.1 7 1)) rfl ?_
        exact V_iret (pc := 47) C (gdow h hG) dX5_found_47
      · have h := it_t h hc5
        refine V_iload_n (pc := 36) C dX5_found_36 rfl rfl ?_
        refine V_goto (pc := 37) (tgt := 47) C dX5_found_37 (by decide) ?_
        exact V_iret (pc := 47) C (gdow h hG) dX5_found_47
    · have h := it_t h hc2
      refine V_bipush (pc := 19) C (v := (-2)) dX5_found_19 (by decide) ?_
      exact V_iret (pc := 21) C (gdow h hG) dX5_found_21
def X5_years_L28 (v1 : Int32) (rec5 : Int32 → Int32 → vMH → Option (Int32 × vMH)) (v2_2 : Int32) (v3_3 : Int32) (mh4 : vMH) : Option (Int32 × vMH) := (if v1 ≤ v3_3 then (some (v2_2, mh4)) else ((X4_walkStrips 4 63 mh4).bind fun q7 => ((X0_turnOver 4 q7.2).bind fun q9 => (rec5 (v2_2 + q7.1) (v3_3 + 1) q9))))
def X5_years (v1 : Int32) (mh : vMH) : Option (Int32 × vMH) := (if (X5_isWithin v1 0 20) = 0 then (some ((-2), mh)) else (lq3 4096 (X5_years_L28 v1) 0 0 (X0_become 4 1 mh)))
set_option maxRecDepth 100000 in
set_option maxHeartbeats 8000000 in
theorem c_X5_years (d : Nat) (v1 : Int32) (mh : vMH) {res : Int32 × vMH} (h : X5_years v1 mh = some res) : MC LC (d + 6) yX5_years cX5_years 4 (some .int) [.ref 0, .int v1] mh (some (.int res.1)) res.2 := by
  refine MC_of 2 (by decide) rfl (fun X C hG => ?_)
  replace C : Cx X (d + 6) 4 cX5_years RX5 (some .int) := C
  show Vw LC X (d + 6) 4 0 [some (.ref 0), some (.int v1), none, none] [] mh
  unfold X5_years at h
  refine V_iload_n (pc := 0) C dX5_years_0 rfl rfl ?_
  refine V_iconst (pc := 1) C (v := 0) dX5_years_1 (by decide) ?_
  refine V_bipush (pc := 2) C (v := 20) dX5_years_2 (by decide) ?_
  refine V_callSi (pc := 4) (rest := []) C cs_X5_59 (c_X5_isWithin (d + 5) v1 0 20 mh) (by omega) (by decide) rfl rfl (Nat.le_of_ble_eq_true rfl) dX5_years_4 ?_
  refine V_ifne (pc := 7) (tgt := 13) C dX5_years_7 (by decide) (fun hc1 => ?_) (fun hc1 => ?_)
  · have h := it_f h hc1
    refine V_aload_n (pc := 13) C dX5_years_13 rfl rfl ?_
    refine V_getR (pc := 14) C (r' := 4) CF5 fl_X5_22 LO5 (by decide) rfl dX5_years_14 ?_
    refine V_aload_n (pc := 17) C dX5_years_17 rfl rfl ?_
    refine V_getR (pc := 18) C (r' := 1) CF5 fl_X5_12 LO5 (by decide) rfl dX5_years_18 ?_
    refine V_callVv (pc := 21) (rest := []) C cs_X5_166 (c_X0_become (d + 3) isF4 isF1 mh) CF0.1 (LO_F isF4) (by omega) (by decide) rfl rfl (Nat.le_of_ble_eq_true rfl) dX5_years_21 ?_
    refine V_iconst (pc := 24) C (v := 0) dX5_years_24 (by decide) ?_
    refine V_istore_n (pc := 25) C (lv' := [some (.ref 0), some (.int v1), some (.int 0), none]) dX5_years_25 rfl (by decide) (Nat.le_of_ble_eq_true rfl) rfl rfl ?_
    refine V_iconst (pc := 26) C (v := 0) dX5_years_26 (by decide) ?_
    refine V_istore_n (pc := 27) C (lv' := [some (.ref 0), some (.int v1), some (.int 0), some (.int 0)]) dX5_years_27 rfl (by decide) (Nat.le_of_ble_eq_true rfl) rfl rfl ?_
    refine lq3_ok (fun (v2_2 : Int32) (v3_3 : Int32) (mh4 : vMH) => Vw LC X (d + 6) 4 28 [some (.ref 0), some (.int v1), some (.int v2_2), some (.int v3_3)] [] mh4) h (fun rec5 hrec5 v2_2 v3_3 mh4 h => ?_)
    unfold X5_years_L28 at h
    refine V_iload_n (pc := 28) C dX5_years_28 rfl rfl ?_
    refine V_iload_n (pc := 29) C dX5_years_29 rfl rfl ?_
    refine V_icmpge (pc := 30) (tgt := 62) C dX5_years_30 (by decide) (fun hc6 => ?_) (fun hc6 => ?_)
    · have h := it_t h hc6
      refine V_iload_n (pc := 62) C dX5_years_62 rfl rfl ?_
      exact V_iret (pc := 63) C (gdow h hG) dX5_years_63
    · have h := it_f h hc6
      refine V_iload_n (pc := 33) C dX5_years_33 rfl rfl ?_
      refine V_aload_n (pc := 34) C dX5_years_34 rfl rfl ?_
      refine V_getR (pc := 35) C (r' := 7) CF5 fl_X5_44 LO5 (by decide) rfl dX5_years_35 ?_
      refine V_aload_n (pc := 38) C dX5_years_38 rfl rfl ?_
      refine V_getR (pc := 39) C (r' := 4) CF5 fl_X5_22 LO5 (by decide) rfl dX5_years_39 ?_
      refine V_bipush (pc := 42) C (v := 63) dX5_years_42 (by decide) ?_
      obtain ⟨q7, hq8, h⟩ := bnd_ok h
      refine V_callVi (pc := 44) (rest := [.int v2_2]) C cs_X5_151 (c_X4_walkStrips (d + 0) isF4 63 mh4 hq8) CF4.1 LO4 (by omega) (by decide) rfl rfl (Nat.le_of_ble_eq_true rfl) dX5_years_44 ?_
      refine V_iadd (pc := 47) C dX5_years_47 ?_
      refine V_istore_n (pc := 48) C (lv' := [some (.ref 0), some (.int v1), some (.int (v2_2 + q7.1)), some (.int v3_3)]) dX5_years_48 rfl (by decide) (Nat.le_of_ble_eq_true rfl) rfl rfl ?_
      refine V_aload_n (pc := 49) C dX5_years_49 rfl rfl ?_
      refine V_getR (pc := 50) C (r' := 4) CF5 fl_X5_22 LO5 (by decide) rfl dX5_years_50 ?_
      obtain ⟨q9, hq10, h⟩ := bnd_ok h
      refine V_callVv (pc := 53) (rest := []) C cs_X5_154 (c_X0_turnOver (d + 3) isF4 q7.2 hq10) CF0.1 (LO_F isF4) (by omega) (by decide) rfl rfl (Nat.le_of_ble_eq_true rfl) dX5_years_53 ?_
      refine V_iinc (pc := 56) C (v := (v3_3 + 1)) (lv' := [some (.ref 0), some (.int v1), some (.int (v2_2 + q7.1)), some (.int (v3_3 + 1))]) dX5_years_56 rfl rfl (by decide) (Nat.le_of_ble_eq_true rfl) rfl rfl ?_
      refine V_goto (pc := 59) (tgt := 28) C dX5_years_59 (by decide) ?_
      exact hrec5 (v2_2 + q7.1) (v3_3 + 1) q9 h
  · have h := it_t h hc1
    refine V_bipush (pc := 10) C (v := (-2)) dX5_years_10 (by decide) ?_
    exact V_iret (pc := 12) C (gdow h hG) dX5_years_12
def X5_soonest_L30 (J5 : Int32 → Int32 → vMH → Option (Int32 × vMH)) (rec11 : Int32 → Int32 → Int32 → vMH → Option (Int32 × vMH)) (v2_7 : Int32) (v3_8 : Int32) (v4_9 : Int32) (mh10 : vMH) : Option (Int32 × vMH) := (if 20 < v4_9 then (J5 v2_7 v3_8 mh10) else ((X5_foundIn 3 63 mh10).bind fun q13 => (wj2 (fun (v2_15 : Int32) (v3_16 : Int32) => ((X0_turnOver 3 q13.2).bind fun q18 => (rec11 v2_15 v3_16 (v4_9 + 1) q18))) fun J17 => (if q13.1 ≤ v3_8 then (J17 v2_7 v3_8) else (J17 v4_9 q13.1)))))
def X5_soonest (v1 : Int32) (mh : vMH) : Option (Int32 × vMH) := (if (X5_isWithin v1 0 1) = 0 then (some ((-2), mh)) else (wj3 (fun (v2_2 : Int32) (v3_3 : Int32) (mh4 : vMH) => (if v1 = 0 then (some (v2_2, mh4)) else (some (v3_3, mh4)))) fun J5 => (lq4 4096 (X5_soonest_L30 J5) 0 (-1) 0 (X0_become 3 1 mh))))
set_option maxRecDepth 100000 in
set_option maxHeartbeats 8000000 in
theorem c_X5_soonest (d : Nat) (v1 : Int32) (mh : vMH) {res : Int32 × vMH} (h : X5_soonest v1 mh = some res) : MC LC (d + 7) yX5_soonest cX5_soonest 6 (some .int) [.ref 0, .int v1] mh (some (.int res.1)) res.2 := by
  refine MC_of 4 (by decide) rfl (fun X C hG => ?_)
  replace C : Cx X (d + 7) 6 cX5_soonest RX5 (some .int) := C
  show Vw LC X (d + 7) 6 0 [some (.ref 0), some (.int v1), none, none, none, none] [] mh
  unfold X5_soonest at h
  refine V_iload_n (pc := 0) C dX5_soonest_0 rfl rfl ?_
  refine V_iconst (pc := 1) C (v := 0) dX5_soonest_1 (by decide) ?_
  refine V_iconst (pc := 2) C (v := 1) dX5_soonest_2 (by decide) ?_
  refine V_callSi (pc := 3) (rest := []) C cs_X5_59 (c_X5_isWithin (d + 6) v1 0 1 mh) (by omega) (by decide) rfl rfl (Nat.le_of_ble_eq_true rfl) dX5_soonest_3 ?_
  refine V_ifne (pc := 6) (tgt := 12) C dX5_soonest_6 (by decide) (fun hc1 => ?_) (fun hc1 => ?_)
  · have h := it_f h hc1
    refine V_iconst (pc := 12) C (v := 0) dX5_soonest_12 (by decide) ?_
    refine V_istore_n (pc := 13) C (lv' := [some (.ref 0), some (.int v1), some (.int 0), none, none, none]) dX5_soonest_13 rfl (by decide) (Nat.le_of_ble_eq_true rfl) rfl rfl ?_
    refine V_iconst (pc := 14) C (v := (-1)) dX5_soonest_14 (by decide) ?_
    refine V_istore_n (pc := 15) C (lv' := [some (.ref 0), some (.int v1), some (.int 0), some (.int (-1)), none, none]) dX5_soonest_15 rfl (by decide) (Nat.le_of_ble_eq_true rfl) rfl rfl ?_
    refine V_aload_n (pc := 16) C dX5_soonest_16 rfl rfl ?_
    refine V_getR (pc := 17) C (r' := 3) CF5 fl_X5_19 LO5 (by decide) rfl dX5_soonest_17 ?_
    refine V_aload_n (pc := 20) C dX5_soonest_20 rfl rfl ?_
    refine V_getR (pc := 21) C (r' := 1) CF5 fl_X5_12 LO5 (by decide) rfl dX5_soonest_21 ?_
    refine V_callVv (pc := 24) (rest := []) C cs_X5_166 (c_X0_become (d + 4) isF3 isF1 mh) CF0.1 (LO_F isF3) (by omega) (by decide) rfl rfl (Nat.le_of_ble_eq_true rfl) dX5_soonest_24 ?_
    refine V_iconst (pc := 27) C (v := 0) dX5_soonest_27 (by decide) ?_
    refine V_istore (pc := 28) C (lv' := [some (.ref 0), some (.int v1), some (.int 0), some (.int (-1)), some (.int 0), none]) dX5_soonest_28 (by decide) (Nat.le_of_ble_eq_true rfl) rfl rfl ?_
    refine wj3_ok (fun (v2_2 : Int32) (v3_3 : Int32) (mh4 : vMH) => Vw LC X (d + 7) 6 74 [some (.ref 0), some (.int v1), some (.int v2_2), some (.int v3_3), none, none] [] mh4) h (fun v2_2 v3_3 mh4 h => ?_) (fun J5 hJ5 h => ?_)
    · refine V_iload_n (pc := 74) C dX5_soonest_74 rfl rfl ?_
      refine V_ifne (pc := 75) (tgt := 82) C dX5_soonest_75 (by decide) (fun hc6 => ?_) (fun hc6 => ?_)
      · have h := it_f h hc6
        refine V_iload_n (pc := 82) C dX5_soonest_82 rfl rfl ?_
        exact V_iret (pc := 83) C (gdow h hG) dX5_soonest_83
      · have h := it_t h hc6
        refine V_iload_n (pc := 78) C dX5_soonest_78 rfl rfl ?_
        refine V_goto (pc := 79) (tgt := 83) C dX5_soonest_79 (by decide) ?_
        exact V_iret (pc := 83) C (gdow h hG) dX5_soonest_83
    · refine lq4_ok (fun (v2_7 : Int32) (v3_8 : Int32) (v4_9 : Int32) (mh10 : vMH) => Vw LC X (d + 7) 6 30 [some (.ref 0), some (.int v1), some (.int v2_7), some (.int v3_8), some (.int v4_9), none] [] mh10) h (fun rec11 hrec11 v2_7 v3_8 v4_9 mh10 h => ?_)
      unfold X5_soonest_L30 at h
      refine V_iload (pc := 30) C dX5_soonest_30 rfl ?_
      refine V_bipush (pc := 32) C (v := 20) dX5_soonest_32 (by decide) ?_
      refine V_icmpgt (pc := 34) (tgt := 74) C dX5_soonest_34 (by decide) (fun hc12 => ?_) (fun hc12 => ?_)
      · have h := it_t h hc12
        refine V_mask [true, true, true, true, false, true] (lv' := [some (.ref 0), some (.int v1), some (.int v2_7), some (.int v3_8), none, none]) rfl ?_
        exact hJ5 v2_7 v3_8 mh10 h
      · have h := it_f h hc12
        refine V_aload_n (pc := 37) C dX5_soonest_37 rfl rfl ?_
        refine V_aload_n (pc := 38) C dX5_soonest_38 rfl rfl ?_
        refine V_getR (pc := 39) C (r' := 3) CF5 fl_X5_19 LO5 (by decide) rfl dX5_soonest_39 ?_
        refine V_bipush (pc := 42) C (v := 63) dX5_soonest_42 (by decide) ?_
        obtain ⟨q13, hq14, h⟩ := bnd_ok h
        refine V_callVi (pc := 44) (rest := []) C cs_X5_160 (c_X5_foundIn (d + 0) isF3 63 mh10 hq14) CF5.1 LO5 (by omega) (by decide) rfl rfl (Nat.le_of_ble_eq_true rfl) dX5_soonest_44 ?_
        refine V_istore (pc := 47) C (lv' := [some (.ref 0), some (.int v1), some (.int v2_7), some (.int v3_8), some (.int v4_9), some (.int q13.1)]) dX5_soonest_47 (by decide) (Nat.le_of_ble_eq_true rfl) rfl rfl ?_
        refine V_iload (pc := 49) C dX5_soonest_49 rfl ?_
        refine V_iload_n (pc := 51) C dX5_soonest_51 rfl rfl ?_
        refine wj2_ok (fun (v2_15 : Int32) (v3_16 : Int32) => Vw LC X (d + 7) 6 61 [some (.ref 0), some (.int v1), some (.int v2_15), some (.int v3_16), some (.int v4_9), some (.int q13.1)] [] q13.2) h (fun v2_15 v3_16 h => ?_) (fun J17 hJ17 h => ?_)
        · refine V_aload_n (pc := 61) C dX5_soonest_61 rfl rfl ?_
          refine V_getR (pc := 62) C (r' := 3) CF5 fl_X5_19 LO5 (by decide) rfl dX5_soonest_62 ?_
          obtain ⟨q18, hq19, h⟩ := bnd_ok h
          refine V_callVv (pc := 65) (rest := []) C cs_X5_154 (c_X0_turnOver (d + 4) isF3 q13.2 hq19) CF0.1 (LO_F isF3) (by omega) (by decide) rfl rfl (Nat.le_of_ble_eq_true rfl) dX5_soonest_65 ?_
          refine V_iinc (pc := 68) C (v := (v4_9 + 1)) (lv' := [some (.ref 0), some (.int v1), some (.int v2_15), some (.int v3_16), some (.int (v4_9 + 1)), some (.int q13.1)]) dX5_soonest_68 rfl rfl (by decide) (Nat.le_of_ble_eq_true rfl) rfl rfl ?_
          refine V_goto (pc := 71) (tgt := 30) C dX5_soonest_71 (by decide) ?_
          refine V_mask [true, true, true, true, true, false] (lv' := [some (.ref 0), some (.int v1), some (.int v2_15), some (.int v3_16), some (.int (v4_9 + 1)), none]) rfl ?_
          exact hrec11 v2_15 v3_16 (v4_9 + 1) q18 h
        · refine V_icmple (pc := 52) (tgt := 61) C dX5_soonest_52 (by decide) (fun hc20 => ?_) (fun hc20 => ?_)
          · have h := it_t h hc20
            exact hJ17 v2_7 v3_8 h
          · have h := it_f h hc20
            refine V_iload (pc := 55) C dX5_soonest_55 rfl ?_
            refine V_istore_n (pc := 57) C (lv' := [some (.ref 0), some (.int v1), some (.int v2_7), some (.int q13.1), some (.int v4_9), some (.int q13.1)]) dX5_soonest_57 rfl (by decide) (Nat.le_of_ble_eq_true rfl) rfl rfl ?_
            refine V_iload (pc := 58) C dX5_soonest_58 rfl ?_
            refine V_istore_n (pc := 60) C (lv' := [some (.ref 0), some (.int v1), some (.int v4_9), some (.int q13.1), some (.int v4_9), some (.int q13.1)]) dX5_soonest_60 rfl (by decide) (Nat.le_of_ble_eq_true rfl) rfl rfl ?_
            exact hJ17 v4_9 q13.1 h
  · have h := it_t h hc1
    refine V_bipush (pc := 9) C (v := (-2)) dX5_soonest_9 (by decide) ?_
    exact V_iret (pc := 11) C (gdow h hG) dX5_soonest_11
def X5_strips_L30 (v1 : Int32) (J6 : Int32 → Int32 → vMH → Option (Int32 × vMH)) (rec12 : Int32 → Int32 → Int32 → vMH → Option (Int32 × vMH)) (v3_8 : Int32) (v4_9 : Int32) (v5_10 : Int32) (mh11 : vMH) : Option (Int32 × vMH) := (if 63 < v5_10 then (J6 v3_8 v4_9 mh11) else (if (J6_bitCount_0f7a4 v5_10) = v1 then ((X5_foundIn 1 v5_10 mh11).bind fun q15 => (if (q15.2.1 7 1) ≤ v4_9 then (rec12 v3_8 v4_9 (v5_10 + 1) q15.2) else (rec12 v5_10 (q15.2.1 7 1) (v5_10 + 1) q15.2))) else (rec12 v3_8 v4_9 (v5_10 + 1) mh11)))
def X5_strips (v1 : Int32) (v2 : Int32) (mh : vMH) : Option (Int32 × vMH) := (if (X5_isWithin v1 0 6) = 0 then (some ((-2), mh)) else (if (X5_isWithin v2 0 1) = 0 then (some ((-2), mh)) else (wj3 (fun (v3_3 : Int32) (v4_4 : Int32) (mh5 : vMH) => (if v2 = 0 then (some (v3_3, mh5)) else (some (v4_4, mh5)))) fun J6 => (lq4 4096 (X5_strips_L30 v1 J6) 0 (-1) 0 mh))))
set_option maxRecDepth 100000 in
set_option maxHeartbeats 8000000 in
theorem c_X5_strips (d : Nat) (v1 : Int32) (v2 : Int32) (mh : vMH) {res : Int32 × vMH} (h : X5_strips v1 v2 mh = some res) : MC LC (d + 7) yX5_strips cX5_strips 6 (some .int) [.ref 0, .int v1, .int v2] mh (some (.int res.1)) res.2 := by
  refine MC_of 3 (by decide) rfl (fun X C hG => ?_)
  replace C : Cx X (d + 7) 6 cX5_strips RX5 (some .int) := C
  show Vw LC X (d + 7) 6 0 [some (.ref 0), some (.int v1), some (.int v2), none, none, none] [] mh
  unfold X5_strips at h
  refine V_iload_n (pc := 0) C dX5_strips_0 rfl rfl ?_
  refine V_iconst (pc := 1) C (v := 0) dX5_strips_1 (by decide) ?_
  refine V_bipush (pc := 2) C (v := 6) dX5_strips_2 (by decide) ?_
  refine V_callSi (pc := 4) (rest := []) C cs_X5_59 (c_X5_isWithin (d + 6) v1 0 6 mh) (by omega) (by decide) rfl rfl (Nat.le_of_ble_eq_true rfl) dX5_strips_4 ?_
  refine V_ifeq (pc := 7) (tgt := 19) C dX5_strips_7 (by decide) (fun hc1 => ?_) (fun hc1 => ?_)
  · have h := it_t h hc1
    refine V_bipush (pc := 19) C (v := (-2)) dX5_strips_19 (by decide) ?_
    exact V_iret (pc := 21) C (gdow h hG) dX5_strips_21
  · have h := it_f h hc1
    refine V_iload_n (pc := 10) C dX5_strips_10 rfl rfl ?_
    refine V_iconst (pc := 11) C (v := 0) dX5_strips_11 (by decide) ?_
    refine V_iconst (pc := 12) C (v := 1) dX5_strips_12 (by decide) ?_
    refine V_callSi (pc := 13) (rest := []) C cs_X5_59 (c_X5_isWithin (d + 6) v2 0 1 mh) (by omega) (by decide) rfl rfl (Nat.le_of_ble_eq_true rfl) dX5_strips_13 ?_
    refine V_ifne (pc := 16) (tgt := 22) C dX5_strips_16 (by decide) (fun hc2 => ?_) (fun hc2 => ?_)
    · have h := it_f h hc2
      refine V_iconst (pc := 22) C (v := 0) dX5_strips_22 (by decide) ?_
      refine V_istore_n (pc := 23) C (lv' := [some (.ref 0), some (.int v1), some (.int v2), some (.int 0), none, none]) dX5_strips_23 rfl (by decide) (Nat.le_of_ble_eq_true rfl) rfl rfl ?_
      refine V_iconst (pc := 24) C (v := (-1)) dX5_strips_24 (by decide) ?_
      refine V_istore (pc := 25) C (lv' := [some (.ref 0), some (.int v1), some (.int v2), some (.int 0), some (.int (-1)), none]) dX5_strips_25 (by decide) (Nat.le_of_ble_eq_true rfl) rfl rfl ?_
      refine V_iconst (pc := 27) C (v := 0) dX5_strips_27 (by decide) ?_
      refine V_istore (pc := 28) C (lv' := [some (.ref 0), some (.int v1), some (.int v2), some (.int 0), some (.int (-1)), some (.int 0)]) dX5_strips_28 (by decide) (Nat.le_of_ble_eq_true rfl) rfl rfl ?_
      refine wj3_ok (fun (v3_3 : Int32) (v4_4 : Int32) (mh5 : vMH) => Vw LC X (d + 7) 6 90 [some (.ref 0), some (.int v1), some (.int v2), some (.int v3_3), some (.int v4_4), none] [] mh5) h (fun v3_3 v4_4 mh5 h => ?_) (fun J6 hJ6 h => ?_)
      · refine V_iload_n (pc := 90) C dX5_strips_90 rfl rfl ?_
        refine V_ifne (pc := 91) (tgt := 98) C dX5_strips_91 (by decide) (fun hc7 => ?_) (fun hc7 => ?_)
        · have h := it_f h hc7
          refine V_iload (pc := 98) C dX5_strips_98 rfl ?_
          exact V_iret (pc := 100) C (gdow h hG) dX5_strips_100
        · have h := it_t h hc7
          refine V_iload_n (pc := 94) C dX5_strips_94 rfl rfl ?_
          refine V_goto (pc := 95) (tgt := 100) C dX5_strips_95 (by decide) ?_
          exact V_iret (pc := 100) C (gdow h hG) dX5_strips_100
      · refine lq4_ok (fun (v3_8 : Int32) (v4_9 : Int32) (v5_10 : Int32) (mh11 : vMH) => Vw LC X (d + 7) 6 30 [some (.ref 0), some (.int v1), some (.int v2), some (.int v3_8), some (.int v4_9), some (.int v5_10)] [] mh11) h (fun rec12 hrec12 v3_8 v4_9 v5_10 mh11 h => ?_)
        unfold X5_strips_L30 at h
        refine V_iload (pc := 30) C dX5_strips_30 rfl ?_
        refine V_bipush (pc := 32) C (v := 63) dX5_strips_32 (by decide) ?_
        refine V_icmpgt (pc := 34) (tgt := 90) C dX5_strips_34 (by decide) (fun hc13 => ?_) (fun hc13 => ?_)
        · have h := it_t h hc13
          refine V_mask [true, true, true, true, true, false] (lv' := [some (.ref 0), some (.int v1), some (.int v2), some (.int v3_8), some (.int v4_9), none]) rfl ?_
          exact hJ6 v3_8 v4_9 mh11 h
        · have h := it_f h hc13
          refine V_iload (pc := 37) C dX5_strips_37 rfl ?_
          refine V_callSi (pc := 39) (rest := []) C cs_X5_170 (c_J6_bitCount_0f7a4 (d + 6) v5_10 mh11 (L := LC)) (by omega) (by decide) rfl rfl (Nat.le_of_ble_eq_true rfl) dX5_strips_39 ?_
          refine V_iload_n (pc := 42) C dX5_strips_42 rfl rfl ?_
          refine V_icmpeq (pc := 43) (tgt := 49) C dX5_strips_43 (by decide) (fun hc14 => ?_) (fun hc14 => ?_)
          · have h := it_t h hc14
            refine V_aload_n (pc := 49) C dX5_strips_49 rfl rfl ?_
            refine V_aload_n (pc := 50) C dX5_strips_50 rfl rfl ?_
            refine V_getR (pc := 51) C (r' := 1) CF5 fl_X5_12 LO5 (by decide) rfl dX5_strips_51 ?_
            refine V_iload (pc := 54) C dX5_strips_54 rfl ?_
            obtain ⟨q15, hq16, h⟩ := bnd_ok h
            refine V_callVi (pc := 56) (rest := []) C cs_X5_160 (c_X5_foundIn (d + 0) isF1 v5_10 mh11 hq16) CF5.1 LO5 (by omega) (by decide) rfl rfl (Nat.le_of_ble_eq_true rfl) dX5_strips_56 ?_
            refine V_pop (pc := 59) C dX5_strips_59 rfl ?_
            refine V_aload_n (pc := 60) C dX5_strips_60 rfl rfl ?_
            refine V_getR (pc := 61) C (r' := 7) CF5 fl_X5_44 LO5 (by decide) rfl dX5_strips_61 ?_
            refine V_getI (pc := 64) C CF4 fl_X5_163 LO4 (by decide) rfl dX5_strips_64 (v := (q15.2.1 7 1)) rfl ?_
            refine V_iload (pc := 67) C dX5_strips_67 rfl ?_
            refine V_icmple (pc := 69) (tgt := 84) C dX5_strips_69 (by decide) (fun hc17 => ?_) (fun hc17 => ?_)
            · have h := it_t h hc17
              refine V_iinc (pc := 84) C (v := (v5_10 + 1)) (lv' := [some (.ref 0), some (.int v1), some (.int v2), some (.int v3_8), some (.int v4_9), some (.int (v5_10 + 1))]) dX5_strips_84 rfl rfl (by decide) (Nat.le_of_ble_eq_true rfl) rfl rfl ?_
              refine V_goto (pc := 87) (tgt := 30) C dX5_strips_87 (by decide) ?_
              exact hrec12 v3_8 v4_9 (v5_10 + 1) q15.2 h
            · have h := it_f h hc17
              refine V_aload_n (pc := 72) C dX5_strips_72 rfl rfl ?_
              refine V_getR (pc := 73) C (r' := 7) CF5 fl_X5_44 LO5 (by decide) rfl dX5_strips_73 ?_
              refine V_getI (pc := 76) C CF4 fl_X5_163 LO4 (by decide) rfl dX5_strips_76 (v := (q15.2.1 7 1)) rfl ?_
              refine V_istore (pc := 79) C (lv' := [some (.ref 0), some (.int v1), some (.int v2), some (.int v3_8), some (.int (q15.2.1 7 1)), some (.int v5_10)]) dX5_strips_79 (by decide) (Nat.le_of_ble_eq_true rfl) rfl rfl ?_
              refine V_iload (pc := 81) C dX5_strips_81 rfl ?_
              refine V_istore_n (pc := 83) C (lv' := [some (.ref 0), some (.int v1), some (.int v2), some (.int v5_10), some (.int (q15.2.1 7 1)), some (.int v5_10)]) dX5_strips_83 rfl (by decide) (Nat.le_of_ble_eq_true rfl) rfl rfl ?_
              refine V_iinc (pc := 84) C (v := (v5_10 + 1)) (lv' := [some (.ref 0), some (.int v1), some (.int v2), some (.int v5_10), some (.int (q15.2.1 7 1)), some (.int (v5_10 + 1))]) dX5_strips_84 rfl rfl (by decide) (Nat.le_of_ble_eq_true rfl) rfl rfl ?_
              refine V_goto (pc := 87) (tgt := 30) C dX5_strips_87 (by decide) ?_
              exact hrec12 v5_10 (q15.2.1 7 1) (v5_10 + 1) q15.2 h
          · have h := it_f h hc14
            refine V_goto (pc := 46) (tgt := 84) C dX5_strips_46 (by decide) ?_
            refine V_iinc (pc := 84) C (v := (v5_10 + 1)) (lv' := [some (.ref 0), some (.int v1), some (.int v2), some (.int v3_8), some (.int v4_9), some (.int (v5_10 + 1))]) dX5_strips_84 rfl rfl (by decide) (Nat.le_of_ble_eq_true rfl) rfl rfl ?_
            refine V_goto (pc := 87) (tgt := 30) C dX5_strips_87 (by decide) ?_
            exact hrec12 v3_8 v4_9 (v5_10 + 1) mh11 h
    · have h := it_t h hc2
      refine V_bipush (pc := 19) C (v := (-2)) dX5_strips_19 (by decide) ?_
      exact V_iret (pc := 21) C (gdow h hG) dX5_strips_21
def X5_better (mh : vMH) : Option (Int32 × vMH) := ((X5_foundIn 1 63 mh).bind fun q1 => ((X5_foundIn 3 63 (v_up (X0_become 3 1 q1.2) 3 7 (jmin 9 (((X0_become 3 1 q1.2).1 1 7) + 1)))).bind fun q3 => (some ((q3.1 - q1.1), q3.2))))
set_option maxRecDepth 100000 in
set_option maxHeartbeats 8000000 in
theorem c_X5_better (d : Nat)  (mh : vMH) {res : Int32 × vMH} (h : X5_better mh = some res) : MC LC (d + 7) yX5_better cX5_better 2 (some .int) [.ref 0] mh (some (.int res.1)) res.2 := by
  refine MC_of 1 (by decide) rfl (fun X C hG => ?_)
  replace C : Cx X (d + 7) 2 cX5_better RX5 (some .int) := C
  show Vw LC X (d + 7) 2 0 [some (.ref 0), none] [] mh
  unfold X5_better at h
  refine V_aload_n (pc := 0) C dX5_better_0 rfl rfl ?_
  refine V_aload_n (pc := 1) C dX5_better_1 rfl rfl ?_
  refine V_getR (pc := 2) C (r' := 1) CF5 fl_X5_12 LO5 (by decide) rfl dX5_better_2 ?_
  refine V_bipush (pc := 5) C (v := 63) dX5_better_5 (by decide) ?_
  obtain ⟨q1, hq2, h⟩ := bnd_ok h
  refine V_callVi (pc := 7) (rest := []) C cs_X5_160 (c_X5_foundIn (d + 0) isF1 63 mh hq2) CF5.1 LO5 (by omega) (by decide) rfl rfl (Nat.le_of_ble_eq_true rfl) dX5_better_7 ?_
  refine V_istore_n (pc := 10) C (lv' := [some (.ref 0), some (.int q1.1)]) dX5_better_10 rfl (by decide) (Nat.le_of_ble_eq_true rfl) rfl rfl ?_
  refine V_aload_n (pc := 11) C dX5_better_11 rfl rfl ?_
  refine V_getR (pc := 12) C (r' := 3) CF5 fl_X5_19 LO5 (by decide) rfl dX5_better_12 ?_
  refine V_aload_n (pc := 15) C dX5_better_15 rfl rfl ?_
  refine V_getR (pc := 16) C (r' := 1) CF5 fl_X5_12 LO5 (by decide) rfl dX5_better_16 ?_
  refine V_callVv (pc := 19) (rest := []) C cs_X5_166 (c_X0_become (d + 4) isF3 isF1 q1.2) CF0.1 (LO_F isF3) (by omega) (by decide) rfl rfl (Nat.le_of_ble_eq_true rfl) dX5_better_19 ?_
  refine V_aload_n (pc := 22) C dX5_better_22 rfl rfl ?_
  refine V_getR (pc := 23) C (r' := 3) CF5 fl_X5_19 LO5 (by decide) rfl dX5_better_23 ?_
  refine V_bipush (pc := 26) C (v := 9) dX5_better_26 (by decide) ?_
  refine V_aload_n (pc := 28) C dX5_better_28 rfl rfl ?_
  refine V_getR (pc := 29) C (r' := 1) CF5 fl_X5_12 LO5 (by decide) rfl dX5_better_29 ?_
  refine V_getI (pc := 32) C CF0 fl_X5_96 (LO_F isF1) (by decide) rfl dX5_better_32 (v := ((X0_become 3 1 q1.2).1 1 7)) rfl ?_
  refine V_iconst (pc := 35) C (v := 1) dX5_better_35 (by decide) ?_
  refine V_iadd (pc := 36) C dX5_better_36 ?_
  refine V_min (pc := 37) C ml_X5_175 (Nat.le_of_ble_eq_true rfl) dX5_better_37 ?_
  refine V_putI (pc := 40) C CF0 fl_X5_96 (LO_F isF3) (by decide) rfl rfl rfl dX5_better_40 ?_
  refine V_aload_n (pc := 43) C dX5_better_43 rfl rfl ?_
  refine V_aload_n (pc := 44) C dX5_better_44 rfl rfl ?_
  refine V_getR (pc := 45) C (r' := 3) CF5 fl_X5_19 LO5 (by decide) rfl dX5_better_45 ?_
  refine V_bipush (pc := 48) C (v := 63) dX5_better_48 (by decide) ?_
  obtain ⟨q3, hq4, h⟩ := bnd_ok h
  refine V_callVi (pc := 50) (rest := []) C cs_X5_160 (c_X5_foundIn (d + 0) isF3 63 (v_up (X0_become 3 1 q1.2) 3 7 (jmin 9 (((X0_become 3 1 q1.2).1 1 7) + 1))) hq4) CF5.1 LO5 (by omega) (by decide) rfl rfl (Nat.le_of_ble_eq_true rfl) dX5_better_50 ?_
  refine V_iload_n (pc := 53) C dX5_better_53 rfl rfl ?_
  refine V_isub (pc := 54) C dX5_better_54 ?_
  exact V_iret (pc := 55) C (gdow h hG) dX5_better_55
def X5_order (v1 : Int32) (v2 : Int32) (mh : vMH) : Option (Int32 × vMH) := (if (X5_isWithin v1 1 9) = 0 then (some ((-2), mh)) else (if (X5_isWithin v2 1 9) = 0 then (some ((-2), mh)) else ((X4_walkStrips 4 63 (v_up (X0_become 4 1 mh) 4 7 v1)).bind fun q3 => ((X4_walkStrips 4 63 (v_up q3.2 4 7 v2)).bind fun q5 => (some (q5.1, q5.2))))))
set_option maxRecDepth 100000 in
set_option maxHeartbeats 8000000 in
theorem c_X5_order (d : Nat) (v1 : Int32) (v2 : Int32) (mh : vMH) {res : Int32 × vMH} (h : X5_order v1 v2 mh = some res) : MC LC (d + 6) yX5_order cX5_order 3 (some .int) [.ref 0, .int v1, .int v2] mh (some (.int res.1)) res.2 := by
  refine MC_of 0 (by decide) rfl (fun X C hG => ?_)
  replace C : Cx X (d + 6) 3 cX5_order RX5 (some .int) := C
  show Vw LC X (d + 6) 3 0 [some (.ref 0), some (.int v1), some (.int v2)] [] mh
  unfold X5_order at h
  refine V_iload_n (pc := 0) C dX5_order_0 rfl rfl ?_
  refine V_iconst (pc := 1) C (v := 1) dX5_order_1 (by decide) ?_
  refine V_bipush (pc := 2) C (v := 9) dX5_order_2 (by decide) ?_
  refine V_callSi (pc := 4) (rest := []) C cs_X5_59 (c_X5_isWithin (d + 5) v1 1 9 mh) (by omega) (by decide) rfl rfl (Nat.le_of_ble_eq_true rfl) dX5_order_4 ?_
  refine V_ifeq (pc := 7) (tgt := 20) C dX5_order_7 (by decide) (fun hc1 => ?_) (fun hc1 => ?_)
  · have h := it_t h hc1
    refine V_bipush (pc := 20) C (v := (-2)) dX5_order_20 (by decide) ?_
    exact V_iret (pc := 22) C (gdow h hG) dX5_order_22
  · have h := it_f h hc1
    refine V_iload_n (pc := 10) C dX5_order_10 rfl rfl ?_
    refine V_iconst (pc := 11) C (v := 1) dX5_order_11 (by decide) ?_
    refine V_bipush (pc := 12) C (v := 9) dX5_order_12 (by decide) ?_
    refine V_callSi (pc := 14) (rest := []) C cs_X5_59 (c_X5_isWithin (d + 5) v2 1 9 mh) (by omega) (by decide) rfl rfl (Nat.le_of_ble_eq_true rfl) dX5_order_14 ?_
    refine V_ifne (pc := 17) (tgt := 23) C dX5_order_17 (by decide) (fun hc2 => ?_) (fun hc2 => ?_)
    · have h := it_f h hc2
      refine V_aload_n (pc := 23) C dX5_order_23 rfl rfl ?_
      refine V_getR (pc := 24) C (r' := 4) CF5 fl_X5_22 LO5 (by decide) rfl dX5_order_24 ?_
      refine V_aload_n (pc := 27) C dX5_order_27 rfl rfl ?_
      refine V_getR (pc := 28) C (r' := 1) CF5 fl_X5_12 LO5 (by decide) rfl dX5_order_28 ?_
      refine V_callVv (pc := 31) (rest := []) C cs_X5_166 (c_X0_become (d + 3) isF4 isF1 mh) CF0.1 (LO_F isF4) (by omega) (by decide) rfl rfl (Nat.le_of_ble_eq_true rfl) dX5_order_31 ?_
      refine V_aload_n (pc := 34) C dX5_order_34 rfl rfl ?_
      refine V_getR (pc := 35) C (r' := 4) CF5 fl_X5_22 LO5 (by decide) rfl dX5_order_35 ?_
      refine V_iload_n (pc := 38) C dX5_order_38 rfl rfl ?_
      refine V_putI (pc := 39) C CF0 fl_X5_96 (LO_F isF4) (by decide) rfl rfl rfl dX5_order_39 ?_
      refine V_aload_n (pc := 42) C dX5_order_42 rfl rfl ?_
      refine V_getR (pc := 43) C (r' := 7) CF5 fl_X5_44 LO5 (by decide) rfl dX5_order_43 ?_
      refine V_aload_n (pc := 46) C dX5_order_46 rfl rfl ?_
      refine V_getR (pc := 47) C (r' := 4) CF5 fl_X5_22 LO5 (by decide) rfl dX5_order_47 ?_
      refine V_bipush (pc := 50) C (v := 63) dX5_order_50 (by decide) ?_
      obtain ⟨q3, hq4, h⟩ := bnd_ok h
      refine V_callVi (pc := 52) (rest := []) C cs_X5_151 (c_X4_walkStrips (d + 0) isF4 63 (v_up (X0_become 4 1 mh) 4 7 v1) hq4) CF4.1 LO4 (by omega) (by decide) rfl rfl (Nat.le_of_ble_eq_true rfl) dX5_order_52 ?_
      refine V_pop (pc := 55) C dX5_order_55 rfl ?_
      refine V_aload_n (pc := 56) C dX5_order_56 rfl rfl ?_
      refine V_getR (pc := 57) C (r' := 4) CF5 fl_X5_22 LO5 (by decide) rfl dX5_order_57 ?_
      refine V_iload_n (pc := 60) C dX5_order_60 rfl rfl ?_
      refine V_putI (pc := 61) C CF0 fl_X5_96 (LO_F isF4) (by decide) rfl rfl rfl dX5_order_61 ?_
      refine V_aload_n (pc := 64) C dX5_order_64 rfl rfl ?_
      refine V_getR (pc := 65) C (r' := 7) CF5 fl_X5_44 LO5 (by decide) rfl dX5_order_65 ?_
      refine V_aload_n (pc := 68) C dX5_order_68 rfl rfl ?_
      refine V_getR (pc := 69) C (r' := 4) CF5 fl_X5_22 LO5 (by decide) rfl dX5_order_69 ?_
      refine V_bipush (pc := 72) C (v := 63) dX5_order_72 (by decide) ?_
      obtain ⟨q5, hq6, h⟩ := bnd_ok h
      refine V_callVi (pc := 74) (rest := []) C cs_X5_151 (c_X4_walkStrips (d + 0) isF4 63 (v_up q3.2 4 7 v2) hq6) CF4.1 LO4 (by omega) (by decide) rfl rfl (Nat.le_of_ble_eq_true rfl) dX5_order_74 ?_
      exact V_iret (pc := 77) C (gdow h hG) dX5_order_77
    · have h := it_t h hc2
      refine V_bipush (pc := 20) C (v := (-2)) dX5_order_20 (by decide) ?_
      exact V_iret (pc := 22) C (gdow h hG) dX5_order_22
def X5_pot_L25 (mh : vMH) (rec7 : Int32 → Int32 → Int32 → Option (Int32)) (v1_4 : Int32) (v2_5 : Int32) (v3_6 : Int32) : Option (Int32) := (if 48 ≤ v3_6 then (some v1_4) else ((X0_farFrom 1 v3_6 mh).bind fun q9 => (if v2_5 ≤ q9 then (rec7 v1_4 v2_5 (v3_6 + 1)) else (rec7 v3_6 q9 (v3_6 + 1)))))
def X5_pot (mh : vMH) : Option (Int32) := (if (mh.1 1 5) = 0 then (some (-1)) else ((X0_farFrom 1 0 mh).bind fun q2 => (lq3 4096 (X5_pot_L25 mh) 0 q2 1)))
set_option maxRecDepth 100000 in
set_option maxHeartbeats 8000000 in
theorem c_X5_pot (d : Nat)  (mh : vMH) {res : Int32} (h : X5_pot mh = some res) : MC LC (d + 3) yX5_pot cX5_pot 5 (some .int) [.ref 0] mh (some (.int res)) mh := by
  refine MC_of 4 (by decide) rfl (fun X C hG => ?_)
  replace C : Cx X (d + 3) 5 cX5_pot RX5 (some .int) := C
  show Vw LC X (d + 3) 5 0 [some (.ref 0), none, none, none, none] [] mh
  unfold X5_pot at h
  refine V_aload_n (pc := 0) C dX5_pot_0 rfl rfl ?_
  refine V_getR (pc := 1) C (r' := 1) CF5 fl_X5_12 LO5 (by decide) rfl dX5_pot_1 ?_
  refine V_getI (pc := 4) C CF0 fl_X5_180 (LO_F isF1) (by decide) rfl dX5_pot_4 (v := (mh.1 1 5)) rfl ?_
  refine V_ifne (pc := 7) (tgt := 12) C dX5_pot_7 (by decide) (fun hc1 => ?_) (fun hc1 => ?_)
  · have h := it_f h hc1
    refine V_iconst (pc := 12) C (v := 0) dX5_pot_12 (by decide) ?_
    refine V_istore_n (pc := 13) C (lv' := [some (.ref 0), some (.int 0), none, none, none]) dX5_pot_13 rfl (by decide) (Nat.le_of_ble_eq_true rfl) rfl rfl ?_
    refine V_aload_n (pc := 14) C dX5_pot_14 rfl rfl ?_
    refine V_getR (pc := 15) C (r' := 1) CF5 fl_X5_12 LO5 (by decide) rfl dX5_pot_15 ?_
    refine V_iconst (pc := 18) C (v := 0) dX5_pot_18 (by decide) ?_
    obtain ⟨q2, hq3, h⟩ := bnd_ok h
    refine V_callVi (pc := 19) (rest := []) C cs_X5_183 (c_X0_farFrom (d + 0) isF1 0 mh hq3) CF0.1 (LO_F isF1) (by omega) (by decide) rfl rfl (Nat.le_of_ble_eq_true rfl) dX5_pot_19 ?_
    refine V_istore_n (pc := 22) C (lv' := [some (.ref 0), some (.int 0), some (.int q2), none, none]) dX5_pot_22 rfl (by decide) (Nat.le_of_ble_eq_true rfl) rfl rfl ?_
    refine V_iconst (pc := 23) C (v := 1) dX5_pot_23 (by decide) ?_
    refine V_istore_n (pc := 24) C (lv' := [some (.ref 0), some (.int 0), some (.int q2), some (.int 1), none]) dX5_pot_24 rfl (by decide) (Nat.le_of_ble_eq_true rfl) rfl rfl ?_
    refine lq3_ok (fun (v1_4 : Int32) (v2_5 : Int32) (v3_6 : Int32) => Vw LC X (d + 3) 5 25 [some (.ref 0), some (.int v1_4), some (.int v2_5), some (.int v3_6), none] [] mh) h (fun rec7 hrec7 v1_4 v2_5 v3_6 h => ?_)
    unfold X5_pot_L25 at h
    refine V_iload_n (pc := 25) C dX5_pot_25 rfl rfl ?_
    refine V_bipush (pc := 26) C (v := 48) dX5_pot_26 (by decide) ?_
    refine V_icmpge (pc := 28) (tgt := 58) C dX5_pot_28 (by decide) (fun hc8 => ?_) (fun hc8 => ?_)
    · have h := it_t h hc8
      refine V_iload_n (pc := 58) C dX5_pot_58 rfl rfl ?_
      exact V_iret (pc := 59) C (gdo h hG) dX5_pot_59
    · have h := it_f h hc8
      refine V_aload_n (pc := 31) C dX5_pot_31 rfl rfl ?_
      refine V_getR (pc := 32) C (r' := 1) CF5 fl_X5_12 LO5 (by decide) rfl dX5_pot_32 ?_
      refine V_iload_n (pc := 35) C dX5_pot_35 rfl rfl ?_
      obtain ⟨q9, hq10, h⟩ := bnd_ok h
      refine V_callVi (pc := 36) (rest := []) C cs_X5_183 (c_X0_farFrom (d + 0) isF1 v3_6 mh hq10) CF0.1 (LO_F isF1) (by omega) (by decide) rfl rfl (Nat.le_of_ble_eq_true rfl) dX5_pot_36 ?_
      refine V_istore (pc := 39) C (lv' := [some (.ref 0), some (.int v1_4), some (.int v2_5), some (.int v3_6), some (.int q9)]) dX5_pot_39 (by decide) (Nat.le_of_ble_eq_true rfl) rfl rfl ?_
      refine V_iload (pc := 41) C dX5_pot_41 rfl ?_
      refine V_iload_n (pc := 43) C dX5_pot_43 rfl rfl ?_
      refine V_icmpge (pc := 44) (tgt := 52) C dX5_pot_44 (by decide) (fun hc11 => ?_) (fun hc11 => ?_)
      · have h := it_t h hc11
        refine V_iinc (pc := 52) C (v := (v3_6 + 1)) (lv' := [some (.ref 0), some (.int v1_4), some (.int v2_5), some (.int (v3_6 + 1)), some (.int q9)]) dX5_pot_52 rfl rfl (by decide) (Nat.le_of_ble_eq_true rfl) rfl rfl ?_
        refine V_goto (pc := 55) (tgt := 25) C dX5_pot_55 (by decide) ?_
        refine V_mask [true, true, true, true, false] (lv' := [some (.ref 0), some (.int v1_4), some (.int v2_5), some (.int (v3_6 + 1)), none]) rfl ?_
        exact hrec7 v1_4 v2_5 (v3_6 + 1) h
      · have h := it_f h hc11
        refine V_iload (pc := 47) C dX5_pot_47 rfl ?_
        refine V_istore_n (pc := 49) C (lv' := [some (.ref 0), some (.int v1_4), some (.int q9), some (.int v3_6), some (.int q9)]) dX5_pot_49 rfl (by decide) (Nat.le_of_ble_eq_true rfl) rfl rfl ?_
        refine V_iload_n (pc := 50) C dX5_pot_50 rfl rfl ?_
        refine V_istore_n (pc := 51) C (lv' := [some (.ref 0), some (.int v3_6), some (.int q9), some (.int v3_6), some (.int q9)]) dX5_pot_51 rfl (by decide) (Nat.le_of_ble_eq_true rfl) rfl rfl ?_
        refine V_iinc (pc := 52) C (v := (v3_6 + 1)) (lv' := [some (.ref 0), some (.int v3_6), some (.int q9), some (.int (v3_6 + 1)), some (.int q9)]) dX5_pot_52 rfl rfl (by decide) (Nat.le_of_ble_eq_true rfl) rfl rfl ?_
        refine V_goto (pc := 55) (tgt := 25) C dX5_pot_55 (by decide) ?_
        refine V_mask [true, true, true, true, false] (lv' := [some (.ref 0), some (.int v3_6), some (.int q9), some (.int (v3_6 + 1)), none]) rfl ?_
        exact hrec7 v3_6 q9 (v3_6 + 1) h
  · have h := it_t h hc1
    refine V_iconst (pc := 10) C (v := (-1)) dX5_pot_10 (by decide) ?_
    exact V_iret (pc := 11) C (gdo h hG) dX5_pot_11
