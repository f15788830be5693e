def X6_in (v0 : Int64) (v2 : Int64) (v4 : Int64) : Int32 := (if (lg_cmp v0 v2) < 0 then 0 else (if 0 < (lg_cmp v0 v4) then 0 else 1))
set_option maxRecDepth 100000 in
set_option maxHeartbeats 8000000 in
theorem c_X6_in (d : Nat) (v0 : Int64) (v2 : Int64) (v4 : Int64) (mh : vMH) : MC LM (d + 0) yX6_in cX6_in 6 (some .boolean) [.long v0, .long v2, .long v4] mh (some (.int (X6_in v0 v2 v4))) mh := by
  refine MC_of 0 (by decide) rfl (fun X C hG => ?_)
  replace C : Cx X (d + 0) 6 cX6_in RX6 (some .boolean) := C
  show Vw LM X (d + 0) 6 0 [some (.long v0), none, some (.long v2), none, some (.long v4), none] [] mh
  obtain ⟨res, h⟩ : ∃ res, X6_in v0 v2 v4 = res := ⟨_, rfl⟩
  rw [h] at hG
  unfold X6_in at h
  refine V_lload_n (pc := 0) C dX6_in_0 rfl rfl ?_
  refine V_lload_n (pc := 1) C dX6_in_1 rfl rfl ?_
  refine V_lcmp (pc := 2) C dX6_in_2 ?_
  refine V_iflt (pc := 3) (tgt := 17) C dX6_in_3 (by decide) (fun hc1 => ?_) (fun hc1 => ?_)
  · have h := it_t h hc1
    refine V_iconst (pc := 17) C (v := 0) dX6_in_17 (by decide) ?_
    exact V_zret (pc := 18) C rfl (gdt h hG) dX6_in_18
  · have h := it_f h hc1
    refine V_lload_n (pc := 6) C dX6_in_6 rfl rfl ?_
    refine V_lload (pc := 7) C dX6_in_7 rfl ?_
    refine V_lcmp (pc := 9) C dX6_in_9 ?_
    refine V_ifgt (pc := 10) (tgt := 17) C dX6_in_10 (by decide) (fun hc2 => ?_) (fun hc2 => ?_)
    · have h := it_t h hc2
      refine V_iconst (pc := 17) C (v := 0) dX6_in_17 (by decide) ?_
      exact V_zret (pc := 18) C rfl (gdt h hG) dX6_in_18
    · have h := it_f h hc2
      refine V_iconst (pc := 13) C (v := 1) dX6_in_13 (by decide) ?_
      refine V_goto (pc := 14) (tgt := 18) C dX6_in_14 (by decide) ?_
      exact V_zret (pc := 18) C rfl (gdt h hG) dX6_in_18
theorem z_X6_in (v0 : Int64) (v2 : Int64) (v4 : Int64) : narrow .boolean (.int (X6_in v0 v2 v4)) = .int (X6_in v0 v2 v4) := by
  unfold X6_in
  (repeat' split) <;> first | rfl | exact z_X6_in _ _ _
def X6_within (v0 : Int32) (v1 : Int32) (v2 : Int32) : Int32 := (if v1 ≤ v0 then (if v0 ≤ v2 then v0 else v2) else v1)
set_option maxRecDepth 100000 in
set_option maxHeartbeats 8000000 in
theorem c_X6_within (d : Nat) (v0 : Int32) (v1 : Int32) (v2 : Int32) (mh : vMH) : MC LM (d + 0) yX6_within cX6_within 3 (some .int) [.int v0, .int v1, .int v2] mh (some (.int (X6_within v0 v1 v2))) mh := by
  refine MC_of 0 (by decide) rfl (fun X C hG => ?_)
  replace C : Cx X (d + 0) 3 cX6_within RX6 (some .int) := C
  show Vw LM X (d + 0) 3 0 [some (.int v0), some (.int v1), some (.int v2)] [] mh
  obtain ⟨res, h⟩ : ∃ res, X6_within v0 v1 v2 = res := ⟨_, rfl⟩
  rw [h] at hG
  unfold X6_within at h
  refine V_iload_n (pc := 0) C dX6_within_0 rfl rfl ?_
  refine V_iload_n (pc := 1) C dX6_within_1 rfl rfl ?_
  refine V_icmpge (pc := 2) (tgt := 9) C dX6_within_2 (by decide) (fun hc1 => ?_) (fun hc1 => ?_)
  · have h := it_t h hc1
    refine V_iload_n (pc := 9) C dX6_within_9 rfl rfl ?_
    refine V_iload_n (pc := 10) C dX6_within_10 rfl rfl ?_
    refine V_icmple (pc := 11) (tgt := 18) C dX6_within_11 (by decide) (fun hc2 => ?_) (fun hc2 => ?_)
    · have h := it_t h hc2
      refine V_iload_n (pc := 18) C dX6_within_18 rfl rfl ?_
      exact V_iret (pc := 19) C (gdt h hG) dX6_within_19
    · have h := it_f h hc2
      refine V_iload_n (pc := 14) C dX6_within_14 rfl rfl ?_
      refine V_goto (pc := 15) (tgt := 19) C dX6_within_15 (by decide) ?_
      exact V_iret (pc := 19) C (gdt h hG) dX6_within_19
  · have h := it_f h hc1
    refine V_iload_n (pc := 5) C dX6_within_5 rfl rfl ?_
    refine V_goto (pc := 6) (tgt := 19) C dX6_within_6 (by decide) ?_
    exact V_iret (pc := 19) C (gdt h hG) dX6_within_19
def X6_bitsOf_L4  (rec3 : Int32 → Int32 → Option (Int32)) (v1_1 : Int32) (v2_2 : Int32) : Option (Int32) := (if v2_2 = 0 then (some v1_1) else (rec3 (v1_1 + 1) (v2_2 &&& (v2_2 - 1))))
def X6_bitsOf (v0 : Int32) : Option (Int32) := (lq2 4096 X6_bitsOf_L4 0 v0)
set_option maxRecDepth 100000 in
set_option maxHeartbeats 8000000 in
theorem c_X6_bitsOf (d : Nat) (v0 : Int32) (mh : vMH) {res : Int32} (h : X6_bitsOf v0 = some res) : MC LM (d + 0) yX6_bitsOf cX6_bitsOf 3 (some .int) [.int v0] mh (some (.int res)) mh := by
  refine MC_of 2 (by decide) rfl (fun X C hG => ?_)
  replace C : Cx X (d + 0) 3 cX6_bitsOf RX6 (some .int) := C
  show Vw LM X (d + 0) 3 0 [some (.int v0), none, none] [] mh
  unfold X6_bitsOf at h
  refine V_iconst (pc := 0) C (v := 0) dX6_bitsOf_0 (by decide) ?_
  refine V_istore_n (pc := 1) C (lv' := [some (.int v0), some (.int 0), none]) dX6_bitsOf_1 rfl (by decide) (Nat.le_of_ble_eq_true rfl) rfl rfl ?_
  refine V_iload_n (pc := 2) C dX6_bitsOf_2 rfl rfl ?_
  refine V_istore_n (pc := 3) C (lv' := [some (.int v0), some (.int 0), some (.int v0)]) dX6_bitsOf_3 rfl (by decide) (Nat.le_of_ble_eq_true rfl) rfl rfl ?_
  refine lq2_ok (fun (v1_1 : Int32) (v2_2 : Int32) => Vw LM X (d + 0) 3 4 [some (.int v0), some (.int v1_1), some (.int v2_2)] [] mh) h (fun rec3 hrec3 v1_1 v2_2 h => ?_)
  unfold X6_bitsOf_L4 at h
  refine V_iload_n (pc := 4) C dX6_bitsOf_4 rfl rfl ?_
  refine V_ifeq (pc := 5) (tgt := 20) C dX6_bitsOf_5 (by decide) (fun hc4 => ?_) (fun hc4 => ?_)
  · have h := it_t h hc4
    refine V_iload_n (pc := 20) C dX6_bitsOf_20 rfl rfl ?_
    exact V_iret (pc := 21) C (gdo h hG) dX6_bitsOf_21
  · have h := it_f h hc4
    refine V_iinc (pc := 8) C (v := (v1_1 + 1)) (lv' := [some (.int v0), some (.int (v1_1 + 1)), some (.int v2_2)]) dX6_bitsOf_8 rfl rfl (by decide) (Nat.le_of_ble_eq_true rfl) rfl rfl ?_
    refine V_iload_n (pc := 11) C dX6_bitsOf_11 rfl rfl ?_
    refine V_iload_n (pc := 12) C dX6_bitsOf_12 rfl rfl ?_
    refine V_iconst (pc := 13) C (v := 1) dX6_bitsOf_13 (by decide) ?_
    refine V_isub (pc := 14) C dX6_bitsOf_14 ?_
    refine V_iand (pc := 15) C dX6_bitsOf_15 ?_
    refine V_istore_n (pc := 16) C (lv' := [some (.int v0), some (.int (v1_1 + 1)), some (.int (v2_2 &&& (v2_2 - 1)))]) dX6_bitsOf_16 rfl (by decide) (Nat.le_of_ble_eq_true rfl) rfl rfl ?_
    refine V_goto (pc := 17) (tgt := 4) C dX6_bitsOf_17 (by decide) ?_
    exact hrec3 (v1_1 + 1) (v2_2 &&& (v2_2 - 1)) h
def X6_spell (v1 : Int32) (v2 : Int32) (v3 : Int32) (v4 : Int32) (v5 : Int32) (v6 : Int32) (v7 : Int32) (v8 : Int32) (v9 : Int32) (mh : vMH) : Option (vMH) := (chk (inb v1 960) (chk (inb (v1 + 1) 960) (chk (inb (v1 + 2) 960) (chk (inb (v1 + 3) 960) (chk (inb (v1 + 4) 960) (chk (inb (v1 + 5) 960) (chk (inb (v1 + 6) 960) (chk (inb (v1 + 7) 960) (some (v_up (v_up (v_up (v_up (v_up (v_up (v_up (v_up mh 1 (jn v1) v2) 1 (jn (v1 + 1)) v3) 1 (jn (v1 + 2)) v4) 1 (jn (v1 + 3)) v5) 1 (jn (v1 + 4)) v6) 1 (jn (v1 + 5)) v7) 1 (jn (v1 + 6)) v8) 1 (jn (v1 + 7)) v9))))))))))
set_option maxRecDepth 100000 in
set_option maxHeartbeats 8000000 in
theorem c_X6_spell (d : Nat) (v1 : Int32) (v2 : Int32) (v3 : Int32) (v4 : Int32) (v5 : Int32) (v6 : Int32) (v7 : Int32) (v8 : Int32) (v9 : Int32) (mh : vMH) {res : vMH} (h : X6_spell v1 v2 v3 v4 v5 v6 v7 v8 v9 mh = some res) : MC LM (d + 0) yX6_spell cX6_spell 10 none [.ref 0, .int v1, .int v2, .int v3, .int v4, .int v5, .int v6, .int v7, .int v8, .int v9] mh none res := by
  refine MC_of 0 (by decide) rfl (fun X C hG => ?_)
  replace C : Cx X (d + 0) 10 cX6_spell RX6 none := C
  show Vw LM X (d + 0) 10 0 [some (.ref 0), some (.int v1), some (.int v2), some (.int v3), some (.int v4), some (.int v5), some (.int v6), some (.int v7), some (.int v8), some (.int v9)] [] mh
  unfold X6_spell at h
  refine V_aload_n (pc := 0) C dX6_spell_0 rfl rfl ?_
  refine V_getR (pc := 1) C (r' := 1) CF6 fl_X6_13 LO6 (by decide) rfl dX6_spell_1 ?_
  refine V_iload_n (pc := 4) C dX6_spell_4 rfl rfl ?_
  refine V_iload_n (pc := 5) C dX6_spell_5 rfl rfl ?_
  obtain ⟨hi1, h⟩ := chk_ok h
  refine V_iast (pc := 6) C LAM1 hi1 dX6_spell_6 ?_
  refine V_aload_n (pc := 7) C dX6_spell_7 rfl rfl ?_
  refine V_getR (pc := 8) C (r' := 1) CF6 fl_X6_13 LO6 (by decide) rfl dX6_spell_8 ?_
  refine V_iload_n (pc := 11) C dX6_spell_11 rfl rfl ?_
  refine V_iconst (pc := 12) C (v := 1) dX6_spell_12 (by decide) ?_
  refine V_iadd (pc := 13) C dX6_spell_13 ?_
  refine V_iload_n (pc := 14) C dX6_spell_14 rfl rfl ?_
  obtain ⟨hi2, h⟩ := chk_ok h
  refine V_iast (pc := 15) C LAM1 hi2 dX6_spell_15 ?_
  refine V_aload_n (pc := 16) C dX6_spell_16 rfl rfl ?_
  refine V_getR (pc := 17) C (r' := 1) CF6 fl_X6_13 LO6 (by decide) rfl dX6_spell_17 ?_
  refine V_iload_n (pc := 20) C dX6_spell_20 rfl rfl ?_
  refine V_iconst (pc := 21) C (v := 2) dX6_spell_21 (by decide) ?_
  refine V_iadd (pc := 22) C dX6_spell_22 ?_
  refine V_iload (pc := 23) C dX6_spell_23 rfl ?_
  obtain ⟨hi3, h⟩ := chk_ok h
  refine V_iast (pc := 25) C LAM1 hi3 dX6_spell_25 ?_
  refine V_aload_n (pc := 26) C dX6_spell_26 rfl rfl ?_
  refine V_getR (pc := 27) C (r' := 1) CF6 fl_X6_13 LO6 (by decide) rfl dX6_spell_27 ?_
  refine V_iload_n (pc := 30) C dX6_spell_30 rfl rfl ?_
  refine V_iconst (pc := 31) C (v := 3) dX6_spell_31 (by decide) ?_
  refine V_iadd (pc := 32) C dX6_spell_32 ?_
  refine V_iload (pc := 33) C dX6_spell_33 rfl ?_
  obtain ⟨hi4, h⟩ := chk_ok h
  refine V_iast (pc := 35) C LAM1 hi4 dX6_spell_35 ?_
  refine V_aload_n (pc := 36) C dX6_spell_36 rfl rfl ?_
  refine V_getR (pc := 37) C (r' := 1) CF6 fl_X6_13 LO6 (by decide) rfl dX6_spell_37 ?_
  refine V_iload_n (pc := 40) C dX6_spell_40 rfl rfl ?_
  refine V_iconst (pc := 41) C (v := 4) dX6_spell_41 (by decide) ?_
  refine V_iadd (pc := 42) C dX6_spell_42 ?_
  refine V_iload (pc := 43) C dX6_spell_43 rfl ?_
  obtain ⟨hi5, h⟩ := chk_ok h
  refine V_iast (pc := 45) C LAM1 hi5 dX6_spell_45 ?_
  refine V_aload_n (pc := 46) C dX6_spell_46 rfl rfl ?_
  refine V_getR (pc := 47) C (r' := 1) CF6 fl_X6_13 LO6 (by decide) rfl dX6_spell_47 ?_
  refine V_iload_n (pc := 50) C dX6_spell_50 rfl rfl ?_
  refine V_iconst (pc := 51) C (v := 5) dX6_spell_51 (by decide) ?_
  refine V_iadd (pc := 52) C dX6_spell_52 ?_
  refine V_iload (pc := 53) C dX6_spell_53 rfl ?_
  obtain ⟨hi6, h⟩ := chk_ok h
  refine V_iast (pc := 55) C LAM1 hi6 dX6_spell_55 ?_
  refine V_aload_n (pc := 56) C dX6_spell_56 rfl rfl ?_
  refine V_getR (pc := 57) C (r' := 1) CF6 fl_X6_13 LO6 (by decide) rfl dX6_spell_57 ?_
  refine V_iload_n (pc := 60) C dX6_spell_60 rfl rfl ?_
  refine V_bipush (pc := 61) C (v := 6) dX6_spell_61 (by decide) ?_
  refine V_iadd (pc := 63) C dX6_spell_63 ?_
  refine V_iload (pc := 64) C dX6_spell_64 rfl ?_
  obtain ⟨hi7, h⟩ := chk_ok h
  refine V_iast (pc := 66) C LAM1 hi7 dX6_spell_66 ?_
  refine V_aload_n (pc := 67) C dX6_spell_67 rfl rfl ?_
  refine V_getR (pc := 68) C (r' := 1) CF6 fl_X6_13 LO6 (by decide) rfl dX6_spell_68 ?_
  refine V_iload_n (pc := 71) C dX6_spell_71 rfl rfl ?_
  refine V_bipush (pc := 72) C (v := 7) dX6_spell_72 (by decide) ?_
  refine V_iadd (pc := 74) C dX6_spell_74 ?_
  refine V_iload (pc := 75) C dX6_spell_75 rfl ?_
  obtain ⟨hi8, h⟩ := chk_ok h
  refine V_iast (pc := 77) C LAM1 hi8 dX6_spell_77 ?_
  exact V_ret0 (pc := 78) C (gdov h hG) dX6_spell_78
def X6_isFind (v1 : Int32) (mh : vMH) : Int32 := (X6_in (Int32.toInt64 v1) 0 (Int32.toInt64 ((mh.1 0 11) - 1)))
set_option maxRecDepth 100000 in
set_option maxHeartbeats 8000000 in
theorem c_X6_isFind (d : Nat) (v1 : Int32) (mh : vMH) : MC LM (d + 1) yX6_isFind cX6_isFind 2 (some .boolean) [.ref 0, .int v1] mh (some (.int (X6_isFind v1 mh))) mh := by
  refine MC_of 0 (by decide) rfl (fun X C hG => ?_)
  replace C : Cx X (d + 1) 2 cX6_isFind RX6 (some .boolean) := C
  show Vw LM X (d + 1) 2 0 [some (.ref 0), some (.int v1)] [] mh
  obtain ⟨res, h⟩ : ∃ res, X6_isFind v1 mh = res := ⟨_, rfl⟩
  rw [h] at hG
  unfold X6_isFind at h
  refine V_iload_n (pc := 0) C dX6_isFind_0 rfl rfl ?_
  refine V_i2l (pc := 1) C dX6_isFind_1 ?_
  refine V_lconst (pc := 2) C (v := 0) dX6_isFind_2 (by decide) ?_
  refine V_aload_n (pc := 3) C dX6_isFind_3 rfl rfl ?_
  refine V_getI (pc := 4) C CF6 fl_X6_73 LO6 (by decide) rfl dX6_isFind_4 (v := (mh.1 0 11)) rfl ?_
  refine V_iconst (pc := 7) C (v := 1) dX6_isFind_7 (by decide) ?_
  refine V_isub (pc := 8) C dX6_isFind_8 ?_
  refine V_i2l (pc := 9) C dX6_isFind_9 ?_
  refine V_callSi (pc := 10) (rest := []) C cs_X6_76 (c_X6_in (d + 0) (Int32.toInt64 v1) 0 (Int32.toInt64 ((mh.1 0 11) - 1)) mh) (by omega) (by decide) rfl rfl (Nat.le_of_ble_eq_true rfl) dX6_isFind_10 ?_
  exact V_zret (pc := 13) C (z_X6_in (Int32.toInt64 v1) 0 (Int32.toInt64 ((mh.1 0 11) - 1))) (gdt h hG) dX6_isFind_13
theorem z_X6_isFind (v1 : Int32) (mh : vMH) : narrow .boolean (.int (X6_isFind v1 mh)) = .int (X6_isFind v1 mh) := by
  unfold X6_isFind
  (repeat' split) <;> first | rfl | exact z_X6_in _ _ _
def X6_lies (v1 : Int32) (mh : vMH) : Int32 := (if ((js (mh.1 0 12) v1) &&& 1) = 0 then 1 else 0)
set_option maxRecDepth 100000 in
set_option maxHeartbeats 8000000 in
theorem c_X6_lies (d : Nat) (v1 : Int32) (mh : vMH) : MC LM (d + 0) yX6_lies cX6_lies 2 (some .boolean) [.ref 0, .int v1] mh (some (.int (X6_lies v1 mh))) mh := by
  refine MC_of 0 (by decide) rfl (fun X C hG => ?_)
  replace C : Cx X (d + 0) 2 cX6_lies RX6 (some .boolean) := C
  show Vw LM X (d + 0) 2 0 [some (.ref 0), some (.int v1)] [] mh
  obtain ⟨res, h⟩ : ∃ res, X6_lies v1 mh = res := ⟨_, rfl⟩
  rw [h] at hG
  unfold X6_lies at h
  refine V_aload_n (pc := 0) C dX6_lies_0 rfl rfl ?_
  refine V_getI (pc := 1) C CF6 fl_X6_80 LO6 (by decide) rfl dX6_lies_1 (v := (mh.1 0 12)) rfl ?_
  refine V_iload_n (pc := 4) C dX6_lies_4 rfl rfl ?_
  refine V_ishr (pc := 5) C dX6_lies_5 ?_
  refine V_iconst (pc := 6) C (v := 1) dX6_lies_6 (by decide) ?_
  refine V_iand (pc := 7) C dX6_lies_7 ?_
  refine V_ifne (pc := 8) (tgt := 15) C dX6_lies_8 (by decide) (fun hc1 => ?_) (fun hc1 => ?_)
  · have h := it_f h hc1
    refine V_iconst (pc := 15) C (v := 0) dX6_lies_15 (by decide) ?_
    exact V_zret (pc := 16) C rfl (gdt h hG) dX6_lies_16
  · have h := it_t h hc1
    refine V_iconst (pc := 11) C (v := 1) dX6_lies_11 (by decide) ?_
    refine V_goto (pc := 12) (tgt := 16) C dX6_lies_12 (by decide) ?_
    exact V_zret (pc := 16) C rfl (gdt h hG) dX6_lies_16
theorem z_X6_lies (v1 : Int32) (mh : vMH) : narrow .boolean (.int (X6_lies v1 mh)) = .int (X6_lies v1 mh) := by
  unfold X6_lies
  (repeat' split) <;> first | rfl | exact z_X6_in _ _ _
def X6_isCell (v0 : Int32) : Int32 := (X6_in (Int32.toInt64 v0) 0 47)
set_option maxRecDepth 100000 in
set_option maxHeartbeats 8000000 in
theorem c_X6_isCell (d : Nat) (v0 : Int32) (mh : vMH) : MC LM (d + 1) yX6_isCell cX6_isCell 1 (some .boolean) [.int v0] mh (some (.int (X6_isCell v0))) mh := by
  refine MC_of 0 (by decide) rfl (fun X C hG => ?_)
  replace C : Cx X (d + 1) 1 cX6_isCell RX6 (some .boolean) := C
  show Vw LM X (d + 1) 1 0 [some (.int v0)] [] mh
  obtain ⟨res, h⟩ : ∃ res, X6_isCell v0 = res := ⟨_, rfl⟩
  rw [h] at hG
  unfold X6_isCell at h
  refine V_iload_n (pc := 0) C dX6_isCell_0 rfl rfl ?_
  refine V_i2l (pc := 1) C dX6_isCell_1 ?_
  refine V_lconst (pc := 2) C (v := 0) dX6_isCell_2 (by decide) ?_
  refine V_ldc2 (pc := 3) C dX6_isCell_3 kc_X6_83 ?_
  refine V_callSi (pc := 6) (rest := []) C cs_X6_76 (c_X6_in (d + 0) (Int32.toInt64 v0) 0 47 mh) (by omega) (by decide) rfl rfl (Nat.le_of_ble_eq_true rfl) dX6_isCell_6 ?_
  exact V_zret (pc := 9) C (z_X6_in (Int32.toInt64 v0) 0 47) (gdt h hG) dX6_isCell_9
theorem z_X6_isCell (v0 : Int32) : narrow .boolean (.int (X6_isCell v0)) = .int (X6_isCell v0) := by
  unfold X6_isCell
  (repeat' split) <;> first | rfl | exact z_X6_in _ _ _
def X6_find (v1 : Int32) (v2 : Int32) (v3 : Int32) (mh : vMH) : Option (Int32 × vMH) := (if (X6_in (Int32.toInt64 v1) 0 5) = 0 then (some ((-2), mh)) else (if (X6_isCell v2) = 0 then (some ((-2), mh)) else (if (X6_in (Int32.toInt64 v3) 1 209) = 0 then (some ((-2), mh)) else (if (jr v3 10) = 0 then (some ((-2), mh)) else (if (mh.1 0 11) = 12 then (some ((-4), mh)) else (chk (inb (mh.1 0 11) 12) (some ((((mh.1 0 11) + 1) - 1), (v_up (v_up (v_up (v_up (v_up (v_up mh 4 (jn (mh.1 0 11)) v1) 5 (jn (mh.1 0 11)) v2) 6 (jn (mh.1 0 11)) (v3 / 10)) 7 (jn (mh.1 0 11)) (jr v3 10)) 0 12 ((mh.1 0 12) &&& ((jl 1 (mh.1 0 11)) ^^^ (-1)))) 0 11 ((mh.1 0 11) + 1))))))))))
set_option maxRecDepth 100000 in
set_option maxHeartbeats 8000000 in
theorem c_X6_find (d : Nat) (v1 : Int32) (v2 : Int32) (v3 : Int32) (mh : vMH) {res : Int32 × vMH} (h : X6_find v1 v2 v3 mh = some res) : MC LM (d + 2) yX6_find cX6_find 4 (some .int) [.ref 0, .int v1, .int v2, .int v3] mh (some (.int res.1)) res.2 := by
  refine MC_of 0 (by decide) rfl (fun X C hG => ?_)
  replace C : Cx X (d + 2) 4 cX6_find RX6 (some .int) := C
  show Vw LM X (d + 2) 4 0 [some (.ref 0), some (.int v1), some (.int v2), some (.int v3)] [] mh
  unfold X6_find at h
  refine V_iload_n (pc := 0) C dX6_find_0 rfl rfl ?_
  refine V_i2l (pc := 1) C dX6_find_1 ?_
  refine V_lconst (pc := 2) C (v := 0) dX6_find_2 (by decide) ?_
  refine V_ldc2 (pc := 3) C dX6_find_3 kc_X6_85 ?_
  refine V_callSi (pc := 6) (rest := []) C cs_X6_76 (c_X6_in (d + 1) (Int32.toInt64 v1) 0 5 mh) (by omega) (by decide) rfl rfl (Nat.le_of_ble_eq_true rfl) dX6_find_6 ?_
  refine V_ifeq (pc := 9) (tgt := 38) C dX6_find_9 (by decide) (fun hc1 => ?_) (fun hc1 => ?_)
  · have h := it_t h hc1
    refine V_bipush (pc := 38) C (v := (-2)) dX6_find_38 (by decide) ?_
    exact V_iret (pc := 40) C (gdow h hG) dX6_find_40
  · have h := it_f h hc1
    refine V_iload_n (pc := 12) C dX6_find_12 rfl rfl ?_
    refine V_callSi (pc := 13) (rest := []) C cs_X6_87 (c_X6_isCell (d + 0) v2 mh) (by omega) (by decide) rfl rfl (Nat.le_of_ble_eq_true rfl) dX6_find_13 ?_
    refine V_ifeq (pc := 16) (tgt := 38) C dX6_find_16 (by decide) (fun hc2 => ?_) (fun hc2 => ?_)
    · have h := it_t h hc2
      refine V_bipush (pc := 38) C (v := (-2)) dX6_find_38 (by decide) ?_
      exact V_iret (pc := 40) C (gdow h hG) dX6_find_40
    · have h := it_f h hc2
      refine V_iload_n (pc := 19) C dX6_find_19 rfl rfl ?_
      refine V_i2l (pc := 20) C dX6_find_20 ?_
      refine V_lconst (pc := 21) C (v := 1) dX6_find_21 (by decide) ?_
      refine V_ldc2 (pc := 22) C dX6_find_22 kc_X6_91 ?_
      refine V_callSi (pc := 25) (rest := []) C cs_X6_76 (c_X6_in (d + 1) (Int32.toInt64 v3) 1 209 mh) (by omega) (by decide) rfl rfl (Nat.le_of_ble_eq_true rfl) dX6_find_25 ?_
      refine V_ifeq (pc := 28) (tgt := 38) C dX6_find_28 (by decide) (fun hc3 => ?_) (fun hc3 => ?_)
      · have h := it_t h hc3
        refine V_bipush (pc := 38) C (v := (-2)) dX6_find_38 (by decide) ?_
        exact V_iret (pc := 40) C (gdow h hG) dX6_find_40
      · have h := it_f h hc3
        refine V_iload_n (pc := 31) C dX6_find_31 rfl rfl ?_
        refine V_bipush (pc := 32) C (v := 10) dX6_find_32 (by decide) ?_
        refine V_irem (pc := 34) C dX6_find_34 (by decide) ?_
        refine V_ifne (pc := 35) (tgt := 41) C dX6_find_35 (by decide) (fun hc4 => ?_) (fun hc4 => ?_)
        · have h := it_f h hc4
          refine V_aload_n (pc := 41) C dX6_find_41 rfl rfl ?_
          refine V_getI (pc := 42) C CF6 fl_X6_73 LO6 (by decide) rfl dX6_find_42 (v := (mh.1 0 11)) rfl ?_
          refine V_bipush (pc := 45) C (v := 12) dX6_find_45 (by decide) ?_
          refine V_icmpne (pc := 47) (tgt := 53) C dX6_find_47 (by decide) (fun hc5 => ?_) (fun hc5 => ?_)
          · have h := it_f h hc5
            refine V_aload_n (pc := 53) C dX6_find_53 rfl rfl ?_
            refine V_getR (pc := 54) C (r' := 4) CF6 fl_X6_23 LO6 (by decide) rfl dX6_find_54 ?_
            refine V_aload_n (pc := 57) C dX6_find_57 rfl rfl ?_
            refine V_getI (pc := 58) C CF6 fl_X6_73 LO6 (by decide) rfl dX6_find_58 (v := (mh.1 0 11)) rfl ?_
            refine V_iload_n (pc := 61) C dX6_find_61 rfl rfl ?_
            obtain ⟨hi6, h⟩ := chk_ok h
            refine V_iast (pc := 62) C LAM4 hi6 dX6_find_62 ?_
            refine V_aload_n (pc := 63) C dX6_find_63 rfl rfl ?_
            refine V_getR (pc := 64) C (r' := 5) CF6 fl_X6_26 LO6 (by decide) rfl dX6_find_64 ?_
            refine V_aload_n (pc := 67) C dX6_find_67 rfl rfl ?_
            refine V_getI (pc := 68) C CF6 fl_X6_73 LO6 (by decide) rfl dX6_find_68 (v := (mh.1 0 11)) (rd_oa LO6 LAM4) ?_
            refine V_iload_n (pc := 71) C dX6_find_71 rfl rfl ?_
            refine V_iast (pc := 72) C LAM5 hi6 dX6_find_72 ?_
            refine V_aload_n (pc := 73) C dX6_find_73 rfl rfl ?_
            refine V_getR (pc := 74) C (r' := 6) CF6 fl_X6_29 LO6 (by decide) rfl dX6_find_74 ?_
            refine V_aload_n (pc := 77) C dX6_find_77 rfl rfl ?_
            refine V_getI (pc := 78) C CF6 fl_X6_73 LO6 (by decide) rfl dX6_find_78 (v := (mh.1 0 11)) ((rd_oa LO6 LAM5).trans (rd_oa LO6 LAM4)) ?_
            refine V_iload_n (pc := 81) C dX6_find_81 rfl rfl ?_
            refine V_bipush (pc := 82) C (v := 10) dX6_find_82 (by decide) ?_
            refine V_idiv (pc := 84) C dX6_find_84 (by decide) ?_
            refine V_iast (pc := 85) C LAM6 hi6 dX6_find_85 ?_
            refine V_aload_n (pc := 86) C dX6_find_86 rfl rfl ?_
            refine V_getR (pc := 87) C (r' := 7) CF6 fl_X6_32 LO6 (by decide) rfl dX6_find_87 ?_
            refine V_aload_n (pc := 90) C dX6_find_90 rfl rfl ?_
            refine V_getI (pc := 91) C CF6 fl_X6_73 LO6 (by decide) rfl dX6_find_91 (v := (mh.1 0 11)) ((rd_oa LO6 LAM6).trans ((rd_oa LO6 LAM5).trans (rd_oa LO6 LAM4))) ?_
            refine V_iload_n (pc := 94) C dX6_find_94 rfl rfl ?_
            refine V_bipush (pc := 95) C (v := 10) dX6_find_95 (by decide) ?_
            refine V_irem (pc := 97) C dX6_find_97 (by decide) ?_
            refine V_iast (pc := 98) C LAM7 hi6 dX6_find_98 ?_
            refine V_aload_n (pc := 99) C dX6_find_99 rfl rfl ?_
            refine V_dup (pc := 100) C dX6_find_100 rfl ?_
            refine V_getI (pc := 101) C CF6 fl_X6_80 LO6 (by decide) rfl dX6_find_101 (v := (mh.1 0 12)) ((rd_oa LO6 LAM7).trans ((rd_oa LO6 LAM6).trans ((rd_oa LO6 LAM5).trans (rd_oa LO6 LAM4)))) ?_
            refine V_iconst (pc := 104) C (v := 1) dX6_find_104 (by decide) ?_
            refine V_aload_n (pc := 105) C dX6_find_105 rfl rfl ?_
            refine V_getI (pc := 106) C CF6 fl_X6_73 LO6 (by decide) rfl dX6_find_106 (v := (mh.1 0 11)) ((rd_oa LO6 LAM7).trans ((rd_oa LO6 LAM6).trans ((rd_oa LO6 LAM5).trans (rd_oa LO6 LAM4)))) ?_
            refine V_ishl (pc := 109) C dX6_find_109 ?_
            refine V_iconst (pc := 110) C (v := (-1)) dX6_find_110 (by decide) ?_
            refine V_ixor (pc := 111) C dX6_find_111 ?_
            refine V_iand (pc := 112) C dX6_find_112 ?_
            refine V_putI (pc := 113) C CF6 fl_X6_80 LO6 (by decide) rfl rfl rfl dX6_find_113 ?_
            refine V_aload_n (pc := 116) C dX6_find_116 rfl rfl ?_
            refine V_dup (pc := 117) C dX6_find_117 rfl ?_
            refine V_getI (pc := 118) C CF6 fl_X6_73 LO6 (by decide) rfl dX6_find_118 (v := (mh.1 0 11)) ((rd_k (by decide)).trans ((rd_oa LO6 LAM7).trans ((rd_oa LO6 LAM6).trans ((rd_oa LO6 LAM5).trans (rd_oa LO6 LAM4))))) ?_
            refine V_iconst (pc := 121) C (v := 1) dX6_find_121 (by decide) ?_
            refine V_iadd (pc := 122) C dX6_find_122 ?_
            refine V_putI (pc := 123) C CF6 fl_X6_73 LO6 (by decide) rfl rfl rfl dX6_find_123 ?_
            refine V_aload_n (pc := 126) C dX6_find_126 rfl rfl ?_
            refine V_getI (pc := 127) C CF6 fl_X6_73 LO6 (by decide) rfl dX6_find_127 (v := ((mh.1 0 11) + 1)) rd_eq ?_
            refine V_iconst (pc := 130) C (v := 1) dX6_find_130 (by decide) ?_
            refine V_isub (pc := 131) C dX6_find_131 ?_
            exact V_iret (pc := 132) C (gdow h hG) dX6_find_132
          · have h := it_t h hc5
            refine V_bipush (pc := 50) C (v := (-4)) dX6_find_50 (by decide) ?_
            exact V_iret (pc := 52) C (gdow h hG) dX6_find_52
        · have h := it_t h hc4
          refine V_bipush (pc := 38) C (v := (-2)) dX6_find_38 (by decide) ?_
          exact V_iret (pc := 40) C (gdow h hG) dX6_find_40
def X6_set (v1 : Int32) (v2 : Int32) (v3 : Int32) (mh : vMH) : Option (Int32 × vMH) := (if (X6_in (Int32.toInt64 v1) 0 4) = 0 then (some ((-2), mh)) else (wj0 (wj1 (fun (s3 : Int64) => (wj1 (fun (s5 : Int64) => (if (X6_in (Int32.toInt64 v3) s3 s5) = 0 then (some ((-2), mh)) else (wj0 (wj1 (fun (s9 : Int32) => (if v1 = 0 then (some (s9, (v_up mh 0 13 v3))) else (if v1 = 1 then (some (s9, (v_up mh 0 14 v3))) else (if v1 = 2 then (chk (inb v2 12) (some (s9, (v_up mh 5 (jn v2) v3)))) else (if v1 = 3 then (chk (inb v2 12) (some (s9, (v_up mh 6 (jn v2) v3)))) else (chk (inb v2 12) (some (s9, (v_up mh 7 (jn v2) v3))))))))) fun J10 => (if v1 = 0 then (J10 (mh.1 0 13)) else (if v1 = 1 then (J10 (mh.1 0 14)) else (if v1 = 2 then (chk (inb v2 12) (J10 (mh.1 5 (jn v2)))) else (if v1 = 3 then (chk (inb v2 12) (J10 (mh.1 6 (jn v2)))) else (chk (inb v2 12) (J10 (mh.1 7 (jn v2))))))))) fun J8 => (if v1 ≤ 1 then J8 else (if (X6_lies v2 mh) = 0 then (some ((-3), mh)) else J8))))) fun J6 => (if v1 = 2 then (J6 47) else (if v1 = 3 then (J6 20) else (J6 9))))) fun J4 => (wj0 (J4 1) fun J29 => (if v1 = 1 then J29 else (if v1 = 4 then J29 else (J4 0))))) fun J2 => (if v1 ≤ 1 then J2 else (if (X6_isFind v2 mh) = 0 then (some ((-2), mh)) else J2))))
set_option maxRecDepth 100000 in
set_option maxHeartbeats 8000000 in
theorem c_X6_set (d : Nat) (v1 : Int32) (v2 : Int32) (v3 : Int32) (mh : vMH) {res : Int32 × vMH} (h : X6_set v1 v2 v3 mh = some res) : MC LM (d + 2) yX6_set cX6_set 5 (some .int) [.ref 0, .int v1, .int v2, .int v3] mh (some (.int res.1)) res.2 := by
  refine MC_of 1 (by decide) rfl (fun X C hG => ?_)
  replace C : Cx X (d + 2) 5 cX6_set RX6 (some .int) := C
  show Vw LM X (d + 2) 5 0 [some (.ref 0), some (.int v1), some (.int v2), some (.int v3), none] [] mh
  unfold X6_set at h
  refine V_iload_n (pc := 0) C dX6_set_0 rfl rfl ?_
  refine V_i2l (pc := 1) C dX6_set_1 ?_
  refine V_lconst (pc := 2) C (v := 0) dX6_set_2 (by decide) ?_
  refine V_ldc2 (pc := 3) C dX6_set_3 kc_X6_93 ?_
  refine V_callSi (pc := 6) (rest := []) C cs_X6_76 (c_X6_in (d + 1) (Int32.toInt64 v1) 0 4 mh) (by omega) (by decide) rfl rfl (Nat.le_of_ble_eq_true rfl) dX6_set_6 ?_
  refine V_ifeq (pc := 9) (tgt := 25) C dX6_set_9 (by decide) (fun hc1 => ?_) (fun hc1 => ?_)
  · have h := it_t h hc1
    refine V_bipush (pc := 25) C (v := (-2)) dX6_set_25 (by decide) ?_
    exact V_iret (pc := 27) C (gdow h hG) dX6_set_27
  · have h := it_f h hc1
    refine V_iload_n (pc := 12) C dX6_set_12 rfl rfl ?_
    refine V_iconst (pc := 13) C (v := 1) dX6_set_13 (by decide) ?_
    refine wj0_ok (Vw LM X (d + 2) 5 28 [some (.ref 0), some (.int v1), some (.int v2), some (.int v3), none] [] mh) h (fun h => ?_) (fun J2 hJ2 h => ?_)
    · refine V_iload_n (pc := 28) C dX6_set_28 rfl rfl ?_
      refine V_i2l (pc := 29) C dX6_set_29 ?_
      refine V_iload_n (pc := 30) C dX6_set_30 rfl rfl ?_
      refine V_iconst (pc := 31) C (v := 1) dX6_set_31 (by decide) ?_
      refine wj1_ok (fun (s3 : Int64) => Vw LM X (d + 2) 5 45 [some (.ref 0), some (.int v1), some (.int v2), some (.int v3), none] [.long s3, .long (Int32.toInt64 v3)] mh) h (fun s3 h => ?_) (fun J4 hJ4 h => ?_)
      · refine V_iload_n (pc := 45) C dX6_set_45 rfl rfl ?_
        refine V_iconst (pc := 46) C (v := 2) dX6_set_46 (by decide) ?_
        refine wj1_ok (fun (s5 : Int64) => Vw LM X (d + 2) 5 70 [some (.ref 0), some (.int v1), some (.int v2), some (.int v3), none] [.long s5, .long s3, .long (Int32.toInt64 v3)] mh) h (fun s5 h => ?_) (fun J6 hJ6 h => ?_)
        · refine V_callSi (pc := 70) (rest := []) C cs_X6_76 (c_X6_in (d + 1) (Int32.toInt64 v3) s3 s5 mh) (by omega) (by decide) rfl rfl (Nat.le_of_ble_eq_true rfl) dX6_set_70 ?_
          refine V_ifne (pc := 73) (tgt := 79) C dX6_set_73 (by decide) (fun hc7 => ?_) (fun hc7 => ?_)
          · have h := it_f h hc7
            refine V_iload_n (pc := 79) C dX6_set_79 rfl rfl ?_
            refine V_iconst (pc := 80) C (v := 1) dX6_set_80 (by decide) ?_
            refine wj0_ok (Vw LM X (d + 2) 5 95 [some (.ref 0), some (.int v1), some (.int v2), some (.int v3), none] [] mh) h (fun h => ?_) (fun J8 hJ8 h => ?_)
            · refine V_iload_n (pc := 95) C dX6_set_95 rfl rfl ?_
              refine wj1_ok (fun (s9 : Int32) => Vw LM X (d + 2) 5 152 [some (.ref 0), some (.int v1), some (.int v2), some (.int v3), none] [.int s9] mh) h (fun s9 h => ?_) (fun J10 hJ10 h => ?_)
              · refine V_istore (pc := 152) C (lv' := [some (.ref 0), some (.int v1), some (.int v2), some (.int v3), some (.int s9)]) dX6_set_152 (by decide) (Nat.le_of_ble_eq_true rfl) rfl rfl ?_
                refine V_iload_n (pc := 154) C dX6_set_154 rfl rfl ?_
                refine V_ifne (pc := 155) (tgt := 166) C dX6_set_155 (by decide) (fun hc11 => ?_) (fun hc11 => ?_)
                · have h := it_f h hc11
                  refine V_iload_n (pc := 166) C dX6_set_166 rfl rfl ?_
                  refine V_iconst (pc := 167) C (v := 1) dX6_set_167 (by decide) ?_
                  refine V_icmpne (pc := 168) (tgt := 179) C dX6_set_168 (by decide) (fun hc12 => ?_) (fun hc12 => ?_)
                  · have h := it_f h hc12
                    refine V_iload_n (pc := 179) C dX6_set_179 rfl rfl ?_
                    refine V_iconst (pc := 180) C (v := 2) dX6_set_180 (by decide) ?_
                    refine V_icmpne (pc := 181) (tgt := 194) C dX6_set_181 (by decide) (fun hc13 => ?_) (fun hc13 => ?_)
                    · have h := it_f h hc13
                      refine V_iload_n (pc := 194) C dX6_set_194 rfl rfl ?_
                      refine V_iconst (pc := 195) C (v := 3) dX6_set_195 (by decide) ?_
                      refine V_icmpne (pc := 196) (tgt := 209) C dX6_set_196 (by decide) (fun hc14 => ?_) (fun hc14 => ?_)
                      · have h := it_f h hc14
                        refine V_aload_n (pc := 209) C dX6_set_209 rfl rfl ?_
                        refine V_getR (pc := 210) C (r' := 7) CF6 fl_X6_32 LO6 (by decide) rfl dX6_set_210 ?_
                        refine V_iload_n (pc := 213) C dX6_set_213 rfl rfl ?_
                        refine V_iload_n (pc := 214) C dX6_set_214 rfl rfl ?_
                        obtain ⟨hi15, h⟩ := chk_ok h
                        refine V_iast (pc := 215) C LAM7 hi15 dX6_set_215 ?_
                        refine V_iload (pc := 216) C dX6_set_216 rfl ?_
                        exact V_iret (pc := 218) C (gdow h hG) dX6_set_218
                      · have h := it_t h hc14
                        refine V_aload_n (pc := 199) C dX6_set_199 rfl rfl ?_
                        refine V_getR (pc := 200) C (r' := 6) CF6 fl_X6_29 LO6 (by decide) rfl dX6_set_200 ?_
                        refine V_iload_n (pc := 203) C dX6_set_203 rfl rfl ?_
                        refine V_iload_n (pc := 204) C dX6_set_204 rfl rfl ?_
                        obtain ⟨hi16, h⟩ := chk_ok h
                        refine V_iast (pc := 205) C LAM6 hi16 dX6_set_205 ?_
                        refine V_goto (pc := 206) (tgt := 216) C dX6_set_206 (by decide) ?_
                        refine V_iload (pc := 216) C dX6_set_216 rfl ?_
                        exact V_iret (pc := 218) C (gdow h hG) dX6_set_218
                    · have h := it_t h hc13
                      refine V_aload_n (pc := 184) C dX6_set_184 rfl rfl ?_
                      refine V_getR (pc := 185) C (r' := 5) CF6 fl_X6_26 LO6 (by decide) rfl dX6_set_185 ?_
                      refine V_iload_n (pc := 188) C dX6_set_188 rfl rfl ?_
                      refine V_iload_n (pc := 189) C dX6_set_189 rfl rfl ?_
                      obtain ⟨hi17, h⟩ := chk_ok h
                      refine V_iast (pc := 190) C LAM5 hi17 dX6_set_190 ?_
                      refine V_goto (pc := 191) (tgt := 216) C dX6_set_191 (by decide) ?_
                      refine V_iload (pc := 216) C dX6_set_216 rfl ?_
                      exact V_iret (pc := 218) C (gdow h hG) dX6_set_218
                  · have h := it_t h hc12
                    refine V_aload_n (pc := 171) C dX6_set_171 rfl rfl ?_
                    refine V_iload_n (pc := 172) C dX6_set_172 rfl rfl ?_
                    refine V_putI (pc := 173) C CF6 fl_X6_35 LO6 (by decide) rfl rfl rfl dX6_set_173 ?_
                    refine V_goto (pc := 176) (tgt := 216) C dX6_set_176 (by decide) ?_
                    refine V_iload (pc := 216) C dX6_set_216 rfl ?_
                    exact V_iret (pc := 218) C (gdow h hG) dX6_set_218
                · have h := it_t h hc11
                  refine V_aload_n (pc := 158) C dX6_set_158 rfl rfl ?_
                  refine V_iload_n (pc := 159) C dX6_set_159 rfl rfl ?_
                  refine V_putI (pc := 160) C CF6 fl_X6_105 LO6 (by decide) rfl rfl rfl dX6_set_160 ?_
                  refine V_goto (pc := 163) (tgt := 216) C dX6_set_163 (by decide) ?_
                  refine V_iload (pc := 216) C dX6_set_216 rfl ?_
                  exact V_iret (pc := 218) C (gdow h hG) dX6_set_218
              · refine V_ifne (pc := 96) (tgt := 106) C dX6_set_96 (by decide) (fun hc18 => ?_) (fun hc18 => ?_)
                · have h := it_f h hc18
                  refine V_iload_n (pc := 106) C dX6_set_106 rfl rfl ?_
                  refine V_iconst (pc := 107) C (v := 1) dX6_set_107 (by decide) ?_
                  refine V_icmpne (pc := 108) (tgt := 118) C dX6_set_108 (by decide) (fun hc19 => ?_) (fun hc19 => ?_)
                  · have h := it_f h hc19
                    refine V_iload_n (pc := 118) C dX6_set_118 rfl rfl ?_
                    refine V_iconst (pc := 119) C (v := 2) dX6_set_119 (by decide) ?_
                    refine V_icmpne (pc := 120) (tgt := 132) C dX6_set_120 (by decide) (fun hc20 => ?_) (fun hc20 => ?_)
                    · have h := it_f h hc20
                      refine V_iload_n (pc := 132) C dX6_set_132 rfl rfl ?_
                      refine V_iconst (pc := 133) C (v := 3) dX6_set_133 (by decide) ?_
                      refine V_icmpne (pc := 134) (tgt := 146) C dX6_set_134 (by decide) (fun hc21 => ?_) (fun hc21 => ?_)
                      · have h := it_f h hc21
                        refine V_aload_n (pc := 146) C dX6_set_146 rfl rfl ?_
                        refine V_getR (pc := 147) C (r' := 7) CF6 fl_X6_32 LO6 (by decide) rfl dX6_set_147 ?_
                        refine V_iload_n (pc := 150) C dX6_set_150 rfl rfl ?_
                        obtain ⟨hi22, h⟩ := chk_ok h
                        refine V_iald (pc := 151) C LAM7 hi22 dX6_set_151 (v := (mh.1 7 (jn v2))) rfl ?_
                        exact hJ10 (mh.1 7 (jn v2)) h
                      · have h := it_t h hc21
                        refine V_aload_n (pc := 137) C dX6_set_137 rfl rfl ?_
                        refine V_getR (pc := 138) C (r' := 6) CF6 fl_X6_29 LO6 (by decide) rfl dX6_set_138 ?_
                        refine V_iload_n (pc := 141) C dX6_set_141 rfl rfl ?_
                        obtain ⟨hi23, h⟩ := chk_ok h
                        refine V_iald (pc := 142) C LAM6 hi23 dX6_set_142 (v := (mh.1 6 (jn v2))) rfl ?_
                        refine V_goto (pc := 143) (tgt := 152) C dX6_set_143 (by decide) ?_
                        exact hJ10 (mh.1 6 (jn v2)) h
                    · have h := it_t h hc20
                      refine V_aload_n (pc := 123) C dX6_set_123 rfl rfl ?_
                      refine V_getR (pc := 124) C (r' := 5) CF6 fl_X6_26 LO6 (by decide) rfl dX6_set_124 ?_
                      refine V_iload_n (pc := 127) C dX6_set_127 rfl rfl ?_
                      obtain ⟨hi24, h⟩ := chk_ok h
                      refine V_iald (pc := 128) C LAM5 hi24 dX6_set_128 (v := (mh.1 5 (jn v2))) rfl ?_
                      refine V_goto (pc := 129) (tgt := 152) C dX6_set_129 (by decide) ?_
                      exact hJ10 (mh.1 5 (jn v2)) h
                  · have h := it_t h hc19
                    refine V_aload_n (pc := 111) C dX6_set_111 rfl rfl ?_
                    refine V_getI (pc := 112) C CF6 fl_X6_35 LO6 (by decide) rfl dX6_set_112 (v := (mh.1 0 14)) rfl ?_
                    refine V_goto (pc := 115) (tgt := 152) C dX6_set_115 (by decide) ?_
                    exact hJ10 (mh.1 0 14) h
                · have h := it_t h hc18
                  refine V_aload_n (pc := 99) C dX6_set_99 rfl rfl ?_
                  refine V_getI (pc := 100) C CF6 fl_X6_105 LO6 (by decide) rfl dX6_set_100 (v := (mh.1 0 13)) rfl ?_
                  refine V_goto (pc := 103) (tgt := 152) C dX6_set_103 (by decide) ?_
                  exact hJ10 (mh.1 0 13) h
            · refine V_icmple (pc := 81) (tgt := 95) C dX6_set_81 (by decide) (fun hc25 => ?_) (fun hc25 => ?_)
              · have h := it_t h hc25
                exact hJ8 h
              · have h := it_f h hc25
                refine V_aload_n (pc := 84) C dX6_set_84 rfl rfl ?_
                refine V_iload_n (pc := 85) C dX6_set_85 rfl rfl ?_
                refine V_callVi (pc := 86) (rest := []) C cs_X6_102 (c_X6_lies (d + 1) v2 mh) CF6.1 LO6 (by omega) (by decide) rfl rfl (Nat.le_of_ble_eq_true rfl) dX6_set_86 ?_
                refine V_ifne (pc := 89) (tgt := 95) C dX6_set_89 (by decide) (fun hc26 => ?_) (fun hc26 => ?_)
                · have h := it_f h hc26
                  exact hJ8 h
                · have h := it_t h hc26
                  refine V_bipush (pc := 92) C (v := (-3)) dX6_set_92 (by decide) ?_
                  exact V_iret (pc := 94) C (gdow h hG) dX6_set_94
          · have h := it_t h hc7
            refine V_bipush (pc := 76) C (v := (-2)) dX6_set_76 (by decide) ?_
            exact V_iret (pc := 78) C (gdow h hG) dX6_set_78
        · refine V_icmpne (pc := 47) (tgt := 56) C dX6_set_47 (by decide) (fun hc27 => ?_) (fun hc27 => ?_)
          · have h := it_f h hc27
            refine V_iload_n (pc := 56) C dX6_set_56 rfl rfl ?_
            refine V_iconst (pc := 57) C (v := 3) dX6_set_57 (by decide) ?_
            refine V_icmpne (pc := 58) (tgt := 67) C dX6_set_58 (by decide) (fun hc28 => ?_) (fun hc28 => ?_)
            · have h := it_f h hc28
              refine V_ldc2 (pc := 67) C dX6_set_67 kc_X6_100 ?_
              exact hJ6 9 h
            · have h := it_t h hc28
              refine V_ldc2 (pc := 61) C dX6_set_61 kc_X6_98 ?_
              refine V_goto (pc := 64) (tgt := 70) C dX6_set_64 (by decide) ?_
              exact hJ6 20 h
          · have h := it_t h hc27
            refine V_ldc2 (pc := 50) C dX6_set_50 kc_X6_83 ?_
            refine V_goto (pc := 53) (tgt := 70) C dX6_set_53 (by decide) ?_
            exact hJ6 47 h
      · refine wj0_ok (Vw LM X (d + 2) 5 40 [some (.ref 0), some (.int v1), some (.int v2), some (.int v3), none] [.long (Int32.toInt64 v3)] mh) h (fun h => ?_) (fun J29 hJ29 h => ?_)
        · refine V_lconst (pc := 40) C (v := 1) dX6_set_40 (by decide) ?_
          refine V_goto (pc := 41) (tgt := 45) C dX6_set_41 (by decide) ?_
          exact hJ4 1 h
        · refine V_icmpeq (pc := 32) (tgt := 40) C dX6_set_32 (by decide) (fun hc30 => ?_) (fun hc30 => ?_)
          · have h := it_t h hc30
            exact hJ29 h
          · have h := it_f h hc30
            refine V_iload_n (pc := 35) C dX6_set_35 rfl rfl ?_
            refine V_iconst (pc := 36) C (v := 4) dX6_set_36 (by decide) ?_
            refine V_icmpne (pc := 37) (tgt := 44) C dX6_set_37 (by decide) (fun hc31 => ?_) (fun hc31 => ?_)
            · have h := it_f h hc31
              refine V_lconst (pc := 44) C (v := 0) dX6_set_44 (by decide) ?_
              exact hJ4 0 h
            · have h := it_t h hc31
              exact hJ29 h
    · refine V_icmple (pc := 14) (tgt := 28) C dX6_set_14 (by decide) (fun hc32 => ?_) (fun hc32 => ?_)
      · have h := it_t h hc32
        exact hJ2 h
      · have h := it_f h hc32
        refine V_aload_n (pc := 17) C dX6_set_17 rfl rfl ?_
        refine V_iload_n (pc := 18) C dX6_set_18 rfl rfl ?_
        refine V_callVi (pc := 19) (rest := []) C cs_X6_95 (c_X6_isFind (d + 0) v2 mh) CF6.1 LO6 (by omega) (by decide) rfl rfl (Nat.le_of_ble_eq_true rfl) dX6_set_19 ?_
        refine V_ifne (pc := 22) (tgt := 28) C dX6_set_22 (by decide) (fun hc33 => ?_) (fun hc33 => ?_)
        · have h := it_f h hc33
          exact hJ2 h
        · have h := it_t h hc33
          refine V_bipush (pc := 25) C (v := (-2)) dX6_set_25 (by decide) ?_
          exact V_iret (pc := 27) C (gdow h hG) dX6_set_27
def X6_tone (v1 : Int32) (mh : vMH) : Option (Int32) := (chk (inb v1 12) (if (mh.1 4 (jn v1)) = 2 then (some ((10 + (mh.1 7 (jn v1))) / 2)) else (if (mh.1 4 (jn v1)) = 4 then (some ((10 + (mh.1 7 (jn v1))) + 30)) else (if (mh.1 4 (jn v1)) = 3 then (some (((10 + (mh.1 7 (jn v1))) + 50) - (mh.1 7 (jn v1)))) else (if (mh.1 4 (jn v1)) = 0 then (some (10 + (mh.1 7 (jn v1)))) else (wj0 (some (((10 + (mh.1 7 (jn v1))) + 50) + 0)) fun J6 => (if (mh.1 4 (jn v1)) = 5 then (if (mh.1 7 (jn v1)) ≤ 4 then J6 else (some (((10 + (mh.1 7 (jn v1))) + 50) + 9))) else J6)))))))
set_option maxRecDepth 100000 in
set_option maxHeartbeats 8000000 in
theorem c_X6_tone (d : Nat) (v1 : Int32) (mh : vMH) {res : Int32} (h : X6_tone v1 mh = some res) : MC LM (d + 0) yX6_tone cX6_tone 4 (some .int) [.ref 0, .int v1] mh (some (.int res)) mh := by
  refine MC_of 2 (by decide) rfl (fun X C hG => ?_)
  replace C : Cx X (d + 0) 4 cX6_tone RX6 (some .int) := C
  show Vw LM X (d + 0) 4 0 [some (.ref 0), some (.int v1), none, none] [] mh
  unfold X6_tone at h
  refine V_aload_n (pc := 0) C dX6_tone_0 rfl rfl ?_
  refine V_getR (pc := 1) C (r' := 4) CF6 fl_X6_23 LO6 (by decide) rfl dX6_tone_1 ?_
  refine V_iload_n (pc := 4) C dX6_tone_4 rfl rfl ?_
  obtain ⟨hi1, h⟩ := chk_ok h
  refine V_iald (pc := 5) C LAM4 hi1 dX6_tone_5 (v := (mh.1 4 (jn v1))) rfl ?_
  refine V_istore_n (pc := 6) C (lv' := [some (.ref 0), some (.int v1), some (.int (mh.1 4 (jn v1))), none]) dX6_tone_6 rfl (by decide) (Nat.le_of_ble_eq_true rfl) rfl rfl ?_
  refine V_bipush (pc := 7) C (v := 10) dX6_tone_7 (by decide) ?_
  refine V_aload_n (pc := 9) C dX6_tone_9 rfl rfl ?_
  refine V_getR (pc := 10) C (r' := 7) CF6 fl_X6_32 LO6 (by decide) rfl dX6_tone_10 ?_
  refine V_iload_n (pc := 13) C dX6_tone_13 rfl rfl ?_
  refine V_iald (pc := 14) C LAM7 hi1 dX6_tone_14 (v := (mh.1 7 (jn v1))) rfl ?_
  refine V_iadd (pc := 15) C dX6_tone_15 ?_
  refine V_istore_n (pc := 16) C (lv' := [some (.ref 0), some (.int v1), some (.int (mh.1 4 (jn v1))), some (.int (10 + (mh.1 7 (jn v1))))]) dX6_tone_16 rfl (by decide) (Nat.le_of_ble_eq_true rfl) rfl rfl ?_
  refine V_iload_n (pc := 17) C dX6_tone_17 rfl rfl ?_
  refine V_iconst (pc := 18) C (v := 2) dX6_tone_18 (by decide) ?_
  refine V_icmpne (pc := 19) (tgt := 26) C dX6_tone_19 (by decide) (fun hc2 => ?_) (fun hc2 => ?_)
  · have h := it_f h hc2
    refine V_iload_n (pc := 26) C dX6_tone_26 rfl rfl ?_
    refine V_iconst (pc := 27) C (v := 4) dX6_tone_27 (by decide) ?_
    refine V_icmpne (pc := 28) (tgt := 36) C dX6_tone_28 (by decide) (fun hc3 => ?_) (fun hc3 => ?_)
    · have h := it_f h hc3
      refine V_iload_n (pc := 36) C dX6_tone_36 rfl rfl ?_
      refine V_iconst (pc := 37) C (v := 3) dX6_tone_37 (by decide) ?_
      refine V_icmpne (pc := 38) (tgt := 53) C dX6_tone_38 (by decide) (fun hc4 => ?_) (fun hc4 => ?_)
      · have h := it_f h hc4
        refine V_iload_n (pc := 53) C dX6_tone_53 rfl rfl ?_
        refine V_ifne (pc := 54) (tgt := 61) C dX6_tone_54 (by decide) (fun hc5 => ?_) (fun hc5 => ?_)
        · have h := it_f h hc5
          refine V_iload_n (pc := 61) C dX6_tone_61 rfl rfl ?_
          refine V_bipush (pc := 62) C (v := 50) dX6_tone_62 (by decide) ?_
          refine V_iadd (pc := 64) C dX6_tone_64 ?_
          refine V_iload_n (pc := 65) C dX6_tone_65 rfl rfl ?_
          refine V_iconst (pc := 66) C (v := 5) dX6_tone_66 (by decide) ?_
          refine wj0_ok (Vw LM X (d + 0) 4 85 [some (.ref 0), some (.int v1), some (.int (mh.1 4 (jn v1))), some (.int (10 + (mh.1 7 (jn v1))))] [.int ((10 + (mh.1 7 (jn v1))) + 50)] mh) h (fun h => ?_) (fun J6 hJ6 h => ?_)
          · refine V_iconst (pc := 85) C (v := 0) dX6_tone_85 (by decide) ?_
            refine V_iadd (pc := 86) C dX6_tone_86 ?_
            exact V_iret (pc := 87) C (gdo h hG) dX6_tone_87
          · refine V_icmpne (pc := 67) (tgt := 85) C dX6_tone_67 (by decide) (fun hc7 => ?_) (fun hc7 => ?_)
            · have h := it_f h hc7
              exact hJ6 h
            · have h := it_t h hc7
              refine V_aload_n (pc := 70) C dX6_tone_70 rfl rfl ?_
              refine V_getR (pc := 71) C (r' := 7) CF6 fl_X6_32 LO6 (by decide) rfl dX6_tone_71 ?_
              refine V_iload_n (pc := 74) C dX6_tone_74 rfl rfl ?_
              refine V_iald (pc := 75) C LAM7 hi1 dX6_tone_75 (v := (mh.1 7 (jn v1))) rfl ?_
              refine V_iconst (pc := 76) C (v := 4) dX6_tone_76 (by decide) ?_
              refine V_icmple (pc := 77) (tgt := 85) C dX6_tone_77 (by decide) (fun hc8 => ?_) (fun hc8 => ?_)
              · have h := it_t h hc8
                exact hJ6 h
              · have h := it_f h hc8
                refine V_bipush (pc := 80) C (v := 9) dX6_tone_80 (by decide) ?_
                refine V_goto (pc := 82) (tgt := 86) C dX6_tone_82 (by decide) ?_
                refine V_iadd (pc := 86) C dX6_tone_86 ?_
                exact V_iret (pc := 87) C (gdo h hG) dX6_tone_87
        · have h := it_t h hc5
          refine V_iload_n (pc := 57) C dX6_tone_57 rfl rfl ?_
          refine V_goto (pc := 58) (tgt := 87) C dX6_tone_58 (by decide) ?_
          exact V_iret (pc := 87) C (gdo h hG) dX6_tone_87
      · have h := it_t h hc4
        refine V_iload_n (pc := 41) C dX6_tone_41 rfl rfl ?_
        refine V_bipush (pc := 42) C (v := 50) dX6_tone_42 (by decide) ?_
        refine V_iadd (pc := 44) C dX6_tone_44 ?_
        refine V_aload_n (pc := 45) C dX6_tone_45 rfl rfl ?_
        refine V_getR (pc := 46) C (r' := 7) CF6 fl_X6_32 LO6 (by decide) rfl dX6_tone_46 ?_
        refine V_iload_n (pc := 49) C dX6_tone_49 rfl rfl ?_
        refine V_iald (pc := 50) C LAM7 hi1 dX6_tone_50 (v := (mh.1 7 (jn v1))) rfl ?_
        refine V_isub (pc := 51) C dX6_tone_51 ?_
        exact V_iret (pc := 52) C (gdo h hG) dX6_tone_52
    · have h := it_t h hc3
      refine V_iload_n (pc := 31) C dX6_tone_31 rfl rfl ?_
      refine V_bipush (pc := 32) C (v := 30) dX6_tone_32 (by decide) ?_
      refine V_iadd (pc := 34) C dX6_tone_34 ?_
      exact V_iret (pc := 35) C (gdo h hG) dX6_tone_35
  · have h := it_t h hc2
    refine V_iload_n (pc := 22) C dX6_tone_22 rfl rfl ?_
    refine V_iconst (pc := 23) C (v := 2) dX6_tone_23 (by decide) ?_
    refine V_idiv (pc := 24) C dX6_tone_24 (by decide) ?_
    exact V_iret (pc := 25) C (gdo h hG) dX6_tone_25
def X6_loud (v1 : Int32) (mh : vMH) : Option (Int32) := (chk (inb v1 12) (wj1 (fun (v3_2 : Int32) => (wj1 (fun (v3_4 : Int32) => (wj1 (fun (v3_6 : Int32) => (wj1 (fun (v3_8 : Int32) => (if 0 ≤ v3_8 then (some v3_8) else (some 0))) fun J9 => (if (mh.1 4 (jn v1)) = 5 then (J9 (2 * (v3_6 + 8))) else (J9 v3_6)))) fun J7 => (if (mh.1 4 (jn v1)) = 3 then (J7 ((v3_4 + 8) / 2)) else (J7 v3_4)))) fun J5 => (if (mh.1 4 (jn v1)) = 1 then (J5 (v3_2 + 8)) else (J5 v3_2)))) fun J3 => (if (mh.1 4 (jn v1)) = 2 then (J3 (((((10 * (mh.1 7 (jn v1))) + (5 * (mh.1 0 14))) + (2 * (mh.1 0 13))) - (6 * (mh.1 6 (jn v1)))) - (5 * (mh.1 0 13)))) else (J3 ((((10 * (mh.1 7 (jn v1))) + (5 * (mh.1 0 14))) + (2 * (mh.1 0 13))) - (6 * (mh.1 6 (jn v1))))))))
set_option maxRecDepth 100000 in
set_option maxHeartbeats 8000000 in
theorem c_X6_loud (d : Nat) (v1 : Int32) (mh : vMH) {res : Int32} (h : X6_loud v1 mh = some res) : MC LM (d + 0) yX6_loud cX6_loud 4 (some .int) [.ref 0, .int v1] mh (some (.int res)) mh := by
  refine MC_of 2 (by decide) rfl (fun X C hG => ?_)
  replace C : Cx X (d + 0) 4 cX6_loud RX6 (some .int) := C
  show Vw LM X (d + 0) 4 0 [some (.ref 0), some (.int v1), none, none] [] mh
  unfold X6_loud at h
  refine V_aload_n (pc := 0) C dX6_loud_0 rfl rfl ?_
  refine V_getR (pc := 1) C (r' := 4) CF6 fl_X6_23 LO6 (by decide) rfl dX6_loud_1 ?_
  refine V_iload_n (pc := 4) C dX6_loud_4 rfl rfl ?_
  obtain ⟨hi1, h⟩ := chk_ok h
  refine V_iald (pc := 5) C LAM4 hi1 dX6_loud_5 (v := (mh.1 4 (jn v1))) rfl ?_
  refine V_istore_n (pc := 6) C (lv' := [some (.ref 0), some (.int v1), some (.int (mh.1 4 (jn v1))), none]) dX6_loud_6 rfl (by decide) (Nat.le_of_ble_eq_true rfl) rfl rfl ?_
  refine V_bipush (pc := 7) C (v := 10) dX6_loud_7 (by decide) ?_
  refine V_aload_n (pc := 9) C dX6_loud_9 rfl rfl ?_
  refine V_getR (pc := 10) C (r' := 7) CF6 fl_X6_32 LO6 (by decide) rfl dX6_loud_10 ?_
  refine V_iload_n (pc := 13) C dX6_loud_13 rfl rfl ?_
  refine V_iald (pc := 14) C LAM7 hi1 dX6_loud_14 (v := (mh.1 7 (jn v1))) rfl ?_
  refine V_imul (pc := 15) C dX6_loud_15 ?_
  refine V_iconst (pc := 16) C (v := 5) dX6_loud_16 (by decide) ?_
  refine V_aload_n (pc := 17) C dX6_loud_17 rfl rfl ?_
  refine V_getI (pc := 18) C CF6 fl_X6_35 LO6 (by decide) rfl dX6_loud_18 (v := (mh.1 0 14)) rfl ?_
  refine V_imul (pc := 21) C dX6_loud_21 ?_
  refine V_iadd (pc := 22) C dX6_loud_22 ?_
  refine V_iconst (pc := 23) C (v := 2) dX6_loud_23 (by decide) ?_
  refine V_aload_n (pc := 24) C dX6_loud_24 rfl rfl ?_
  refine V_getI (pc := 25) C CF6 fl_X6_105 LO6 (by decide) rfl dX6_loud_25 (v := (mh.1 0 13)) rfl ?_
  refine V_imul (pc := 28) C dX6_loud_28 ?_
  refine V_iadd (pc := 29) C dX6_loud_29 ?_
  refine V_bipush (pc := 30) C (v := 6) dX6_loud_30 (by decide) ?_
  refine V_aload_n (pc := 32) C dX6_loud_32 rfl rfl ?_
  refine V_getR (pc := 33) C (r' := 6) CF6 fl_X6_29 LO6 (by decide) rfl dX6_loud_33 ?_
  refine V_iload_n (pc := 36) C dX6_loud_36 rfl rfl ?_
  refine V_iald (pc := 37) C LAM6 hi1 dX6_loud_37 (v := (mh.1 6 (jn v1))) rfl ?_
  refine V_imul (pc := 38) C dX6_loud_38 ?_
  refine V_isub (pc := 39) C dX6_loud_39 ?_
  refine V_istore_n (pc := 40) C (lv' := [some (.ref 0), some (.int v1), some (.int (mh.1 4 (jn v1))), some (.int ((((10 * (mh.1 7 (jn v1))) + (5 * (mh.1 0 14))) + (2 * (mh.1 0 13))) - (6 * (mh.1 6 (jn v1)))))]) dX6_loud_40 rfl (by decide) (Nat.le_of_ble_eq_true rfl) rfl rfl ?_
  refine V_iload_n (pc := 41) C dX6_loud_41 rfl rfl ?_
  refine V_iconst (pc := 42) C (v := 2) dX6_loud_42 (by decide) ?_
  refine wj1_ok (fun (v3_2 : Int32) => Vw LM X (d + 0) 4 55 [some (.ref 0), some (.int v1), some (.int (mh.1 4 (jn v1))), some (.int v3_2)] [] mh) h (fun v3_2 h => ?_) (fun J3 hJ3 h => ?_)
  · refine V_iload_n (pc := 55) C dX6_loud_55 rfl rfl ?_
    refine V_iconst (pc := 56) C (v := 1) dX6_loud_56 (by decide) ?_
    refine wj1_ok (fun (v3_4 : Int32) => Vw LM X (d + 0) 4 63 [some (.ref 0), some (.int v1), some (.int (mh.1 4 (jn v1))), some (.int v3_4)] [] mh) h (fun v3_4 h => ?_) (fun J5 hJ5 h => ?_)
    · refine V_iload_n (pc := 63) C dX6_loud_63 rfl rfl ?_
      refine V_iconst (pc := 64) C (v := 3) dX6_loud_64 (by decide) ?_
      refine wj1_ok (fun (v3_6 : Int32) => Vw LM X (d + 0) 4 75 [some (.ref 0), some (.int v1), some (.int (mh.1 4 (jn v1))), some (.int v3_6)] [] mh) h (fun v3_6 h => ?_) (fun J7 hJ7 h => ?_)
      · refine V_iload_n (pc := 75) C dX6_loud_75 rfl rfl ?_
        refine V_iconst (pc := 76) C (v := 5) dX6_loud_76 (by decide) ?_
        refine wj1_ok (fun (v3_8 : Int32) => Vw LM X (d + 0) 4 87 [some (.ref 0), some (.int v1), some (.int (mh.1 4 (jn v1))), some (.int v3_8)] [] mh) h (fun v3_8 h => ?_) (fun J9 hJ9 h => ?_)
        · refine V_iload_n (pc := 87) C dX6_loud_87 rfl rfl ?_
          refine V_ifge (pc := 88) (tgt := 95) C dX6_loud_88 (by decide) (fun hc10 => ?_) (fun hc10 => ?_)
          · have h := it_t h hc10
            refine V_iload_n (pc := 95) C dX6_loud_95 rfl rfl ?_
            exact V_iret (pc := 96) C (gdo h hG) dX6_loud_96
          · have h := it_f h hc10
            refine V_iconst (pc := 91) C (v := 0) dX6_loud_91 (by decide) ?_
            refine V_goto (pc := 92) (tgt := 96) C dX6_loud_92 (by decide) ?_
            exact V_iret (pc := 96) C (gdo h hG) dX6_loud_96
        · refine V_icmpne (pc := 77) (tgt := 87) C dX6_loud_77 (by decide) (fun hc11 => ?_) (fun hc11 => ?_)
          · have h := it_f h hc11
            exact hJ9 v3_6 h
          · have h := it_t h hc11
            refine V_iconst (pc := 80) C (v := 2) dX6_loud_80 (by decide) ?_
            refine V_iload_n (pc := 81) C dX6_loud_81 rfl rfl ?_
            refine V_bipush (pc := 82) C (v := 8) dX6_loud_82 (by decide) ?_
            refine V_iadd (pc := 84) C dX6_loud_84 ?_
            refine V_imul (pc := 85) C dX6_loud_85 ?_
            refine V_istore_n (pc := 86) C (lv' := [some (.ref 0), some (.int v1), some (.int (mh.1 4 (jn v1))), some (.int (2 * (v3_6 + 8)))]) dX6_loud_86 rfl (by decide) (Nat.le_of_ble_eq_true rfl) rfl rfl ?_
            exact hJ9 (2 * (v3_6 + 8)) h
      · refine V_icmpne (pc := 65) (tgt := 75) C dX6_loud_65 (by decide) (fun hc12 => ?_) (fun hc12 => ?_)
        · have h := it_f h hc12
          exact hJ7 v3_4 h
        · have h := it_t h hc12
          refine V_iload_n (pc := 68) C dX6_loud_68 rfl rfl ?_
          refine V_bipush (pc := 69) C (v := 8) dX6_loud_69 (by decide) ?_
          refine V_iadd (pc := 71) C dX6_loud_71 ?_
          refine V_iconst (pc := 72) C (v := 2) dX6_loud_72 (by decide) ?_
          refine V_idiv (pc := 73) C dX6_loud_73 (by decide) ?_
          refine V_istore_n (pc := 74) C (lv' := [some (.ref 0), some (.int v1), some (.int (mh.1 4 (jn v1))), some (.int ((v3_4 + 8) / 2))]) dX6_loud_74 rfl (by decide) (Nat.le_of_ble_eq_true rfl) rfl rfl ?_
          exact hJ7 ((v3_4 + 8) / 2) h
    · refine V_icmpne (pc := 57) (tgt := 63) C dX6_loud_57 (by decide) (fun hc13 => ?_) (fun hc13 => ?_)
      · have h := it_f h hc13
        exact hJ5 v3_2 h
      · have h := it_t h hc13
        refine V_iinc (pc := 60) C (v := (v3_2 + 8)) (lv' := [some (.ref 0), some (.int v1), some (.int (mh.1 4 (jn v1))), some (.int (v3_2 + 8))]) dX6_loud_60 rfl rfl (by decide) (Nat.le_of_ble_eq_true rfl) rfl rfl ?_
        exact hJ5 (v3_2 + 8) h
  · refine V_icmpne (pc := 43) (tgt := 55) C dX6_loud_43 (by decide) (fun hc14 => ?_) (fun hc14 => ?_)
    · have h := it_f h hc14
      exact hJ3 ((((10 * (mh.1 7 (jn v1))) + (5 * (mh.1 0 14))) + (2 * (mh.1 0 13))) - (6 * (mh.1 6 (jn v1)))) h
    · have h := it_t h hc14
      refine V_iload_n (pc := 46) C dX6_loud_46 rfl rfl ?_
      refine V_iconst (pc := 47) C (v := 5) dX6_loud_47 (by decide) ?_
      refine V_aload_n (pc := 48) C dX6_loud_48 rfl rfl ?_
      refine V_getI (pc := 49) C CF6 fl_X6_105 LO6 (by decide) rfl dX6_loud_49 (v := (mh.1 0 13)) rfl ?_
      refine V_imul (pc := 52) C dX6_loud_52 ?_
      refine V_isub (pc := 53) C dX6_loud_53 ?_
      refine V_istore_n (pc := 54) C (lv' := [some (.ref 0), some (.int v1), some (.int (mh.1 4 (jn v1))), some (.int (((((10 * (mh.1 7 (jn v1))) + (5 * (mh.1 0 14))) + (2 * (mh.1 0 13))) - (6 * (mh.1 6 (jn v1)))) - (5 * (mh.1 0 13))))]) dX6_loud_54 rfl (by decide) (Nat.le_of_ble_eq_true rfl) rfl rfl ?_
      exact hJ3 (((((10 * (mh.1 7 (jn v1))) + (5 * (mh.1 0 14))) + (2 * (mh.1 0 13))) - (6 * (mh.1 6 (jn v1)))) - (5 * (mh.1 0 13))) h
def X6_dragsAt (v0 : Int32) (v1 : Int32) (v2 : Int32) : Int32 := (if v0 = 2 then 0 else (if v0 = 4 then (if 5 ≤ v1 then 0 else 1) else (if v0 = 5 then (if 10 ≤ v2 then 0 else 1) else (if v0 = 3 then 2 else 1))))
set_option maxRecDepth 100000 in
set_option maxHeartbeats 8000000 in
theorem c_X6_dragsAt (d : Nat) (v0 : Int32) (v1 : Int32) (v2 : Int32) (mh : vMH) : MC LM (d + 0) yX6_dragsAt cX6_dragsAt 3 (some .int) [.int v0, .int v1, .int v2] mh (some (.int (X6_dragsAt v0 v1 v2))) mh := by
  refine MC_of 0 (by decide) rfl (fun X C hG => ?_)
  replace C : Cx X (d + 0) 3 cX6_dragsAt RX6 (some .int) := C
  show Vw LM X (d + 0) 3 0 [some (.int v0), some (.int v1), some (.int v2)] [] mh
  obtain ⟨res, h⟩ : ∃ res, X6_dragsAt v0 v1 v2 = res := ⟨_, rfl⟩
  rw [h] at hG
  unfold X6_dragsAt at h
  refine V_iload_n (pc := 0) C dX6_dragsAt_0 rfl rfl ?_
  refine V_iconst (pc := 1) C (v := 2) dX6_dragsAt_1 (by decide) ?_
  refine V_icmpne (pc := 2) (tgt := 7) C dX6_dragsAt_2 (by decide) (fun hc1 => ?_) (fun hc1 => ?_)
  · have h := it_f h hc1
    refine V_iload_n (pc := 7) C dX6_dragsAt_7 rfl rfl ?_
    refine V_iconst (pc := 8) C (v := 4) dX6_dragsAt_8 (by decide) ?_
    refine V_icmpne (pc := 9) (tgt := 23) C dX6_dragsAt_9 (by decide) (fun hc2 => ?_) (fun hc2 => ?_)
    · have h := it_f h hc2
      refine V_iload_n (pc := 23) C dX6_dragsAt_23 rfl rfl ?_
      refine V_iconst (pc := 24) C (v := 5) dX6_dragsAt_24 (by decide) ?_
      refine V_icmpne (pc := 25) (tgt := 40) C dX6_dragsAt_25 (by decide) (fun hc3 => ?_) (fun hc3 => ?_)
      · have h := it_f h hc3
        refine V_iload_n (pc := 40) C dX6_dragsAt_40 rfl rfl ?_
        refine V_iconst (pc := 41) C (v := 3) dX6_dragsAt_41 (by decide) ?_
        refine V_icmpne (pc := 42) (tgt := 49) C dX6_dragsAt_42 (by decide) (fun hc4 => ?_) (fun hc4 => ?_)
        · have h := it_f h hc4
          refine V_iconst (pc := 49) C (v := 1) dX6_dragsAt_49 (by decide) ?_
          exact V_iret (pc := 50) C (gdt h hG) dX6_dragsAt_50
        · have h := it_t h hc4
          refine V_iconst (pc := 45) C (v := 2) dX6_dragsAt_45 (by decide) ?_
          refine V_goto (pc := 46) (tgt := 50) C dX6_dragsAt_46 (by decide) ?_
          exact V_iret (pc := 50) C (gdt h hG) dX6_dragsAt_50
      · have h := it_t h hc3
        refine V_iload_n (pc := 28) C dX6_dragsAt_28 rfl rfl ?_
        refine V_bipush (pc := 29) C (v := 10) dX6_dragsAt_29 (by decide) ?_
        refine V_icmpge (pc := 31) (tgt := 38) C dX6_dragsAt_31 (by decide) (fun hc5 => ?_) (fun hc5 => ?_)
        · have h := it_t h hc5
          refine V_iconst (pc := 38) C (v := 0) dX6_dragsAt_38 (by decide) ?_
          exact V_iret (pc := 39) C (gdt h hG) dX6_dragsAt_39
        · have h := it_f h hc5
          refine V_iconst (pc := 34) C (v := 1) dX6_dragsAt_34 (by decide) ?_
          refine V_goto (pc := 35) (tgt := 39) C dX6_dragsAt_35 (by decide) ?_
          exact V_iret (pc := 39) C (gdt h hG) dX6_dragsAt_39
    · have h := it_t h hc2
      refine V_iload_n (pc := 12) C dX6_dragsAt_12 rfl rfl ?_
      refine V_iconst (pc := 13) C (v := 5) dX6_dragsAt_13 (by decide) ?_
      refine V_icmpge (pc := 14) (tgt := 21) C dX6_dragsAt_14 (by decide) (fun hc6 => ?_) (fun hc6 => ?_)
      · have h := it_t h hc6
        refine V_iconst (pc := 21) C (v := 0) dX6_dragsAt_21 (by decide) ?_
        exact V_iret (pc := 22) C (gdt h hG) dX6_dragsAt_22
      · have h := it_f h hc6
        refine V_iconst (pc := 17) C (v := 1) dX6_dragsAt_17 (by decide) ?_
        refine V_goto (pc := 18) (tgt := 22) C dX6_dragsAt_18 (by decide) ?_
        exact V_iret (pc := 22) C (gdt h hG) dX6_dragsAt_22
  · have h := it_t h hc1
    refine V_iconst (pc := 5) C (v := 0) dX6_dragsAt_5 (by decide) ?_
    exact V_iret (pc := 6) C (gdt h hG) dX6_dragsAt_6
def X6_heard_L8 (v1 : Int32) (mh : vMH) (J4 : Int32 → Option (Int32)) (rec8 : Int32 → Int32 → Option (Int32)) (v2_6 : Int32) (v3_7 : Int32) : Option (Int32) := (if (mh.1 0 11) ≤ v3_7 then (J4 v2_6) else (if v3_7 = v1 then (rec8 v2_6 (v3_7 + 1)) else (chk (inb v3_7 12) (if (mh.1 4 (jn v3_7)) = 2 then (if (X6_lies v3_7 mh) = 0 then (rec8 v2_6 (v3_7 + 1)) else (chk (inb v1 12) (if (mh.1 5 (jn v3_7)) = (mh.1 5 (jn v1)) then (rec8 (v2_6 + (-10)) (v3_7 + 1)) else (rec8 v2_6 (v3_7 + 1))))) else (rec8 v2_6 (v3_7 + 1))))))
def X6_heard (v1 : Int32) (mh : vMH) : Option (Int32) := ((X6_loud v1 mh).bind fun q1 => (wj1 (fun (v2_3 : Int32) => (if 0 ≤ v2_3 then (some v2_3) else (some 0))) fun J4 => (lq2 4096 (X6_heard_L8 v1 mh J4) q1 0)))
set_option maxRecDepth 100000 in
set_option maxHeartbeats 8000000 in
theorem c_X6_heard (d : Nat) (v1 : Int32) (mh : vMH) {res : Int32} (h : X6_heard v1 mh = some res) : MC LM (d + 1) yX6_heard cX6_heard 4 (some .int) [.ref 0, .int v1] mh (some (.int res)) mh := by
  refine MC_of 2 (by decide) rfl (fun X C hG => ?_)
  replace C : Cx X (d + 1) 4 cX6_heard RX6 (some .int) := C
  show Vw LM X (d + 1) 4 0 [some (.ref 0), some (.int v1), none, none] [] mh
  unfold X6_heard at h
  refine V_aload_n (pc := 0) C dX6_heard_0 rfl rfl ?_
  refine V_iload_n (pc := 1) C dX6_heard_1 rfl rfl ?_
  obtain ⟨q1, hq2, h⟩ := bnd_ok h
  refine V_callVi (pc := 2) (rest := []) C cs_X6_108 (c_X6_loud (d + 0) v1 mh hq2) CF6.1 LO6 (by omega) (by decide) rfl rfl (Nat.le_of_ble_eq_true rfl) dX6_heard_2 ?_
  refine V_istore_n (pc := 5) C (lv' := [some (.ref 0), some (.int v1), some (.int q1), none]) dX6_heard_5 rfl (by decide) (Nat.le_of_ble_eq_true rfl) rfl rfl ?_
  refine V_iconst (pc := 6) C (v := 0) dX6_heard_6 (by decide) ?_
  refine V_istore_n (pc := 7) C (lv' := [some (.ref 0), some (.int v1), some (.int q1), some (.int 0)]) dX6_heard_7 rfl (by decide) (Nat.le_of_ble_eq_true rfl) rfl rfl ?_
  refine wj1_ok (fun (v2_3 : Int32) => Vw LM X (d + 1) 4 63 [some (.ref 0), some (.int v1), some (.int v2_3), none] [] mh) h (fun v2_3 h => ?_) (fun J4 hJ4 h => ?_)
  · refine V_iload_n (pc := 63) C dX6_heard_63 rfl rfl ?_
    refine V_ifge (pc := 64) (tgt := 71) C dX6_heard_64 (by decide) (fun hc5 => ?_) (fun hc5 => ?_)
    · have h := it_t h hc5
      refine V_iload_n (pc := 71) C dX6_heard_71 rfl rfl ?_
      exact V_iret (pc := 72) C (gdo h hG) dX6_heard_72
    · have h := it_f h hc5
      refine V_iconst (pc := 67) C (v := 0) dX6_heard_67 (by decide) ?_
      refine V_goto (pc := 68) (tgt := 72) C dX6_heard_68 (by decide) ?_
      exact V_iret (pc := 72) C (gdo h hG) dX6_heard_72
  · refine lq2_ok (fun (v2_6 : Int32) (v3_7 : Int32) => Vw LM X (d + 1) 4 8 [some (.ref 0), some (.int v1), some (.int v2_6), some (.int v3_7)] [] mh) h (fun rec8 hrec8 v2_6 v3_7 h => ?_)
    unfold X6_heard_L8 at h
    refine V_iload_n (pc := 8) C dX6_heard_8 rfl rfl ?_
    refine V_aload_n (pc := 9) C dX6_heard_9 rfl rfl ?_
    refine V_getI (pc := 10) C CF6 fl_X6_73 LO6 (by decide) rfl dX6_heard_10 (v := (mh.1 0 11)) rfl ?_
    refine V_icmpge (pc := 13) (tgt := 63) C dX6_heard_13 (by decide) (fun hc9 => ?_) (fun hc9 => ?_)
    · have h := it_t h hc9
      refine V_mask [true, true, true, false] (lv' := [some (.ref 0), some (.int v1), some (.int v2_6), none]) rfl ?_
      exact hJ4 v2_6 h
    · have h := it_f h hc9
      refine V_iload_n (pc := 16) C dX6_heard_16 rfl rfl ?_
      refine V_iload_n (pc := 17) C dX6_heard_17 rfl rfl ?_
      refine V_icmpeq (pc := 18) (tgt := 57) C dX6_heard_18 (by decide) (fun hc10 => ?_) (fun hc10 => ?_)
      · have h := it_t h hc10
        refine V_iinc (pc := 57) C (v := (v3_7 + 1)) (lv' := [some (.ref 0), some (.int v1), some (.int v2_6), some (.int (v3_7 + 1))]) dX6_heard_57 rfl rfl (by decide) (Nat.le_of_ble_eq_true rfl) rfl rfl ?_
        refine V_goto (pc := 60) (tgt := 8) C dX6_heard_60 (by decide) ?_
        exact hrec8 v2_6 (v3_7 + 1) h
      · have h := it_f h hc10
        refine V_aload_n (pc := 21) C dX6_heard_21 rfl rfl ?_
        refine V_getR (pc := 22) C (r' := 4) CF6 fl_X6_23 LO6 (by decide) rfl dX6_heard_22 ?_
        refine V_iload_n (pc := 25) C dX6_heard_25 rfl rfl ?_
        obtain ⟨hi11, h⟩ := chk_ok h
        refine V_iald (pc := 26) C LAM4 hi11 dX6_heard_26 (v := (mh.1 4 (jn v3_7))) rfl ?_
        refine V_iconst (pc := 27) C (v := 2) dX6_heard_27 (by decide) ?_
        refine V_icmpne (pc := 28) (tgt := 57) C dX6_heard_28 (by decide) (fun hc12 => ?_) (fun hc12 => ?_)
        · have h := it_f h hc12
          refine V_iinc (pc := 57) C (v := (v3_7 + 1)) (lv' := [some (.ref 0), some (.int v1), some (.int v2_6), some (.int (v3_7 + 1))]) dX6_heard_57 rfl rfl (by decide) (Nat.le_of_ble_eq_true rfl) rfl rfl ?_
          refine V_goto (pc := 60) (tgt := 8) C dX6_heard_60 (by decide) ?_
          exact hrec8 v2_6 (v3_7 + 1) h
        · have h := it_t h hc12
          refine V_aload_n (pc := 31) C dX6_heard_31 rfl rfl ?_
          refine V_iload_n (pc := 32) C dX6_heard_32 rfl rfl ?_
          refine V_callVi (pc := 33) (rest := []) C cs_X6_102 (c_X6_lies (d + 0) v3_7 mh) CF6.1 LO6 (by omega) (by decide) rfl rfl (Nat.le_of_ble_eq_true rfl) dX6_heard_33 ?_
          refine V_ifeq (pc := 36) (tgt := 57) C dX6_heard_36 (by decide) (fun hc13 => ?_) (fun hc13 => ?_)
          · have h := it_t h hc13
            refine V_iinc (pc := 57) C (v := (v3_7 + 1)) (lv' := [some (.ref 0), some (.int v1), some (.int v2_6), some (.int (v3_7 + 1))]) dX6_heard_57 rfl rfl (by decide) (Nat.le_of_ble_eq_true rfl) rfl rfl ?_
            refine V_goto (pc := 60) (tgt := 8) C dX6_heard_60 (by decide) ?_
            exact hrec8 v2_6 (v3_7 + 1) h
          · have h := it_f h hc13
            refine V_aload_n (pc := 39) C dX6_heard_39 rfl rfl ?_
            refine V_getR (pc := 40) C (r' := 5) CF6 fl_X6_26 LO6 (by decide) rfl dX6_heard_40 ?_
            refine V_iload_n (pc := 43) C dX6_heard_43 rfl rfl ?_
            refine V_iald (pc := 44) C LAM5 hi11 dX6_heard_44 (v := (mh.1 5 (jn v3_7))) rfl ?_
            refine V_aload_n (pc := 45) C dX6_heard_45 rfl rfl ?_
            refine V_getR (pc := 46) C (r' := 5) CF6 fl_X6_26 LO6 (by decide) rfl dX6_heard_46 ?_
            refine V_iload_n (pc := 49) C dX6_heard_49 rfl rfl ?_
            obtain ⟨hi14, h⟩ := chk_ok h
            refine V_iald (pc := 50) C LAM5 hi14 dX6_heard_50 (v := (mh.1 5 (jn v1))) rfl ?_
            refine V_icmpne (pc := 51) (tgt := 57) C dX6_heard_51 (by decide) (fun hc15 => ?_) (fun hc15 => ?_)
            · have h := it_f h hc15
              refine V_iinc (pc := 57) C (v := (v3_7 + 1)) (lv' := [some (.ref 0), some (.int v1), some (.int v2_6), some (.int (v3_7 + 1))]) dX6_heard_57 rfl rfl (by decide) (Nat.le_of_ble_eq_true rfl) rfl rfl ?_
              refine V_goto (pc := 60) (tgt := 8) C dX6_heard_60 (by decide) ?_
              exact hrec8 v2_6 (v3_7 + 1) h
            · have h := it_t h hc15
              refine V_iinc (pc := 54) C (v := (v2_6 + (-10))) (lv' := [some (.ref 0), some (.int v1), some (.int (v2_6 + (-10))), some (.int v3_7)]) dX6_heard_54 rfl rfl (by decide) (Nat.le_of_ble_eq_true rfl) rfl rfl ?_
              refine V_iinc (pc := 57) C (v := (v3_7 + 1)) (lv' := [some (.ref 0), some (.int v1), some (.int (v2_6 + (-10))), some (.int (v3_7 + 1))]) dX6_heard_57 rfl rfl (by decide) (Nat.le_of_ble_eq_true rfl) rfl rfl ?_
              refine V_goto (pc := 60) (tgt := 8) C dX6_heard_60 (by decide) ?_
              exact hrec8 (v2_6 + (-10)) (v3_7 + 1) h
def X6_byteAt (v1 : Int32) (mh : vMH) : Option (Int32) := (if (mh.1 0 24) ≤ v1 then (some (-1)) else (chk (inb ((mh.1 0 23) + v1) 960) (some (mh.1 1 (jn ((mh.1 0 23) + v1))))))
set_option maxRecDepth 100000 in
set_option maxHeartbeats 8000000 in
theorem c_X6_byteAt (d : Nat) (v1 : Int32) (mh : vMH) {res : Int32} (h : X6_byteAt v1 mh = some res) : MC LM (d + 0) yX6_byteAt cX6_byteAt 2 (some .int) [.ref 0, .int v1] mh (some (.int res)) mh := by
  refine MC_of 0 (by decide) rfl (fun X C hG => ?_)
  replace C : Cx X (d + 0) 2 cX6_byteAt RX6 (some .int) := C
  show Vw LM X (d + 0) 2 0 [some (.ref 0), some (.int v1)] [] mh
  unfold X6_byteAt at h
  refine V_iload_n (pc := 0) C dX6_byteAt_0 rfl rfl ?_
  refine V_aload_n (pc := 1) C dX6_byteAt_1 rfl rfl ?_
  refine V_getI (pc := 2) C CF6 fl_X6_131 LO6 (by decide) rfl dX6_byteAt_2 (v := (mh.1 0 24)) rfl ?_
  refine V_icmpge (pc := 5) (tgt := 22) C dX6_byteAt_5 (by decide) (fun hc1 => ?_) (fun hc1 => ?_)
  · have h := it_t h hc1
    refine V_iconst (pc := 22) C (v := (-1)) dX6_byteAt_22 (by decide) ?_
    exact V_iret (pc := 23) C (gdo h hG) dX6_byteAt_23
  · have h := it_f h hc1
    refine V_aload_n (pc := 8) C dX6_byteAt_8 rfl rfl ?_
    refine V_getR (pc := 9) C (r' := 1) CF6 fl_X6_13 LO6 (by decide) rfl dX6_byteAt_9 ?_
    refine V_aload_n (pc := 12) C dX6_byteAt_12 rfl rfl ?_
    refine V_getI (pc := 13) C CF6 fl_X6_134 LO6 (by decide) rfl dX6_byteAt_13 (v := (mh.1 0 23)) rfl ?_
    refine V_iload_n (pc := 16) C dX6_byteAt_16 rfl rfl ?_
    refine V_iadd (pc := 17) C dX6_byteAt_17 ?_
    obtain ⟨hi2, h⟩ := chk_ok h
    refine V_iald (pc := 18) C LAM1 hi2 dX6_byteAt_18 (v := (mh.1 1 (jn ((mh.1 0 23) + v1)))) rfl ?_
    refine V_goto (pc := 19) (tgt := 23) C dX6_byteAt_19 (by decide) ?_
    exact V_iret (pc := 23) C (gdo h hG) dX6_byteAt_23
def X6_next_L160 (J19 : Int32 → vMH → Option (vMH)) (rec25 : Int32 → vMH → Option (vMH)) (v2_23 : Int32) (mh24 : vMH) : Option (vMH) := ((X6_byteAt (mh24.1 0 25) mh24).bind fun q26 => (if (X6_in (Int32.toInt64 q26) 48 57) = 0 then (J19 v2_23 mh24) else (wj1 (fun (s29 : Int64) => (rec25 (v2_23 + 1) (v_up (v_ul mh24 s29) 0 25 ((mh24.1 0 25) + 1)))) fun J30 => (if 4 ≤ v2_23 then (J30 mh24.2) else ((X6_byteAt (mh24.1 0 25) mh24).bind fun q32 => (J30 (((10 * mh24.2) + (Int32.toInt64 q32)) - 48)))))))
def X6_next_L100  (rec35 : vMH → Option (vMH)) (mh34 : vMH) : Option (vMH) := ((X6_byteAt (mh34.1 0 25) mh34).bind fun q36 => (if (X6_in (Int32.toInt64 q36) 97 122) = 0 then (some mh34) else (rec35 (v_up mh34 0 25 ((mh34.1 0 25) + 1)))))
def X6_next_L0 (J2 : vMH → Option (vMH)) (rec40 : vMH → Option (vMH)) (mh39 : vMH) : Option (vMH) := ((X6_byteAt (mh39.1 0 25) mh39).bind fun q41 => (wj0 (rec40 (v_up mh39 0 25 ((mh39.1 0 25) + 1))) fun J43 => (if q41 = 32 then J43 else ((X6_byteAt (mh39.1 0 25) mh39).bind fun q45 => (if q45 = 10 then J43 else (J2 mh39))))))
def X6_next (mh : vMH) : Option (vMH) := (wj1 (fun (mh1 : vMH) => ((X6_byteAt (mh1.1 0 25) (v_up mh1 0 27 (mh1.1 0 25))).bind fun q3 => (if 0 ≤ q3 then (if (X6_in (Int32.toInt64 q3) 97 122) = 0 then (if (X6_in (Int32.toInt64 q3) 48 57) = 0 then (wj0 (some (v_up (v_ul (v_up (v_up (v_up mh1 0 27 (mh1.1 0 25)) 0 26 4) 0 26 3) (Int32.toInt64 q3)) 0 25 ((mh1.1 0 25) + 1))) fun J8 => (if q3 = 40 then J8 else (if q3 = 41 then J8 else (if q3 = 59 then J8 else (if q3 = 43 then J8 else (if q3 = 45 then J8 else (if q3 = 42 then J8 else (if q3 = 60 then J8 else (if q3 = 61 then J8 else (some (v_up (v_up mh1 0 27 (mh1.1 0 25)) 0 26 4))))))))))) else (wj2 (fun (v2_17 : Int32) (mh18 : vMH) => (wj1 (fun (s20 : Int32) => (some (v_up mh18 0 26 s20))) fun J21 => (if v2_17 ≤ 4 then (J21 2) else (J21 4)))) fun J19 => (lq2 4096 (X6_next_L160 J19) 0 (v_ul (v_up (v_up (v_up mh1 0 27 (mh1.1 0 25)) 0 26 4) 0 26 2) 0)))) else (lq1 4096 X6_next_L100 (v_up (v_up (v_up mh1 0 27 (mh1.1 0 25)) 0 26 4) 0 26 1))) else (some (v_up (v_up (v_up (v_up mh1 0 27 (mh1.1 0 25)) 0 26 4) 0 26 0) 0 27 (mh1.1 0 24)))))) fun J2 => (lq1 4096 (X6_next_L0 J2) mh))
set_option maxRecDepth 100000 in
set_option maxHeartbeats 8000000 in
theorem c_X6_next (d : Nat)  (mh : vMH) {res : vMH} (h : X6_next mh = some res) : MC LM (d + 1) yX6_next cX6_next 3 none [.ref 0] mh none res := by
  refine MC_of 2 (by decide) rfl (fun X C hG => ?_)
  replace C : Cx X (d + 1) 3 cX6_next RX6 none := C
  show Vw LM X (d + 1) 3 0 [some (.ref 0), none, none] [] mh
  unfold X6_next at h
  refine wj1_ok (fun (mh1 : vMH) => Vw LM X (d + 1) 3 39 [some (.ref 0), none, none] [] mh1) h (fun mh1 h => ?_) (fun J2 hJ2 h => ?_)
  · refine V_aload_n (pc := 39) C dX6_next_39 rfl rfl ?_
    refine V_aload_n (pc := 40) C dX6_next_40 rfl rfl ?_
    refine V_getI (pc := 41) C CF6 fl_X6_137 LO6 (by decide) rfl dX6_next_41 (v := (mh1.1 0 25)) rfl ?_
    refine V_putI (pc := 44) C CF6 fl_X6_143 LO6 (by decide) rfl rfl rfl dX6_next_44 ?_
    refine V_aload_n (pc := 47) C dX6_next_47 rfl rfl ?_
    refine V_aload_n (pc := 48) C dX6_next_48 rfl rfl ?_
    refine V_getI (pc := 49) C CF6 fl_X6_137 LO6 (by decide) rfl dX6_next_49 (v := (mh1.1 0 25)) (rd_k (by decide)) ?_
    obtain ⟨q3, hq4, h⟩ := bnd_ok h
    refine V_callVi (pc := 52) (rest := []) C cs_X6_140 (c_X6_byteAt (d + 0) (mh1.1 0 25) (v_up mh1 0 27 (mh1.1 0 25)) hq4) CF6.1 LO6 (by omega) (by decide) rfl rfl (Nat.le_of_ble_eq_true rfl) dX6_next_52 ?_
    refine V_istore_n (pc := 55) C (lv' := [some (.ref 0), some (.int q3), none]) dX6_next_55 rfl (by decide) (Nat.le_of_ble_eq_true rfl) rfl rfl ?_
    refine V_aload_n (pc := 56) C dX6_next_56 rfl rfl ?_
    refine V_iconst (pc := 57) C (v := 4) dX6_next_57 (by decide) ?_
    refine V_putI (pc := 58) C CF6 fl_X6_146 LO6 (by decide) rfl rfl rfl dX6_next_58 ?_
    refine V_iload_n (pc := 61) C dX6_next_61 rfl rfl ?_
    refine V_ifge (pc := 62) (tgt := 81) C dX6_next_62 (by decide) (fun hc5 => ?_) (fun hc5 => ?_)
    · have h := it_t h hc5
      refine V_iload_n (pc := 81) C dX6_next_81 rfl rfl ?_
      refine V_i2l (pc := 82) C dX6_next_82 ?_
      refine V_ldc2 (pc := 83) C dX6_next_83 kc_X6_149 ?_
      refine V_ldc2 (pc := 86) C dX6_next_86 kc_X6_151 ?_
      refine V_callSi (pc := 89) (rest := []) C cs_X6_76 (c_X6_in (d + 0) (Int32.toInt64 q3) 97 122 (v_up (v_up mh1 0 27 (mh1.1 0 25)) 0 26 4)) (by omega) (by decide) rfl rfl (Nat.le_of_ble_eq_true rfl) dX6_next_89 ?_
      refine V_ifeq (pc := 92) (tgt := 134) C dX6_next_92 (by decide) (fun hc6 => ?_) (fun hc6 => ?_)
      · have h := it_t h hc6
        refine V_iload_n (pc := 134) C dX6_next_134 rfl rfl ?_
        refine V_i2l (pc := 135) C dX6_next_135 ?_
        refine V_ldc2 (pc := 136) C dX6_next_136 kc_X6_153 ?_
        refine V_ldc2 (pc := 139) C dX6_next_139 kc_X6_155 ?_
        refine V_callSi (pc := 142) (rest := []) C cs_X6_76 (c_X6_in (d + 0) (Int32.toInt64 q3) 48 57 (v_up (v_up mh1 0 27 (mh1.1 0 25)) 0 26 4)) (by omega) (by decide) rfl rfl (Nat.le_of_ble_eq_true rfl) dX6_next_142 ?_
        refine V_ifeq (pc := 145) (tgt := 252) C dX6_next_145 (by decide) (fun hc7 => ?_) (fun hc7 => ?_)
        · have h := it_t h hc7
          refine V_iload_n (pc := 252) C dX6_next_252 rfl rfl ?_
          refine V_bipush (pc := 253) C (v := 40) dX6_next_253 (by decide) ?_
          refine wj0_ok (Vw LM X (d + 1) 3 300 [some (.ref 0), some (.int q3), none] [] (v_up (v_up mh1 0 27 (mh1.1 0 25)) 0 26 4)) h (fun h => ?_) (fun J8 hJ8 h => ?_)
          · refine V_aload_n (pc := 300) C dX6_next_300 rfl rfl ?_
            refine V_iconst (pc := 301) C (v := 3) dX6_next_301 (by decide) ?_
            refine V_putI (pc := 302) C CF6 fl_X6_146 LO6 (by decide) rfl rfl rfl dX6_next_302 ?_
            refine V_aload_n (pc := 305) C dX6_next_305 rfl rfl ?_
            refine V_iload_n (pc := 306) C dX6_next_306 rfl rfl ?_
            refine V_i2l (pc := 307) C dX6_next_307 ?_
            refine V_putL (pc := 308) C CF6 fl_X6_157 LO6 (by decide) rfl rfl rfl ulM dX6_next_308 ?_
            refine V_aload_n (pc := 311) C dX6_next_311 rfl rfl ?_
            refine V_dup (pc := 312) C dX6_next_312 rfl ?_
            refine V_getI (pc := 313) C CF6 fl_X6_137 LO6 (by decide) rfl dX6_next_313 (v := (mh1.1 0 25)) (rd_ul.trans ((rd_k (by decide)).trans ((rd_k (by decide)).trans (rd_k (by decide))))) ?_
            refine V_iconst (pc := 316) C (v := 1) dX6_next_316 (by decide) ?_
            refine V_iadd (pc := 317) C dX6_next_317 ?_
            refine V_putI (pc := 318) C CF6 fl_X6_137 LO6 (by decide) rfl rfl rfl dX6_next_318 ?_
            exact V_ret0 (pc := 321) C (gdov h hG) dX6_next_321
          · refine V_icmpeq (pc := 255) (tgt := 300) C dX6_next_255 (by decide) (fun hc9 => ?_) (fun hc9 => ?_)
            · have h := it_t h hc9
              exact hJ8 h
            · have h := it_f h hc9
              refine V_iload_n (pc := 258) C dX6_next_258 rfl rfl ?_
              refine V_bipush (pc := 259) C (v := 41) dX6_next_259 (by decide) ?_
              refine V_icmpeq (pc := 261) (tgt := 300) C dX6_next_261 (by decide) (fun hc10 => ?_) (fun hc10 => ?_)
              · have h := it_t h hc10
                exact hJ8 h
              · have h := it_f h hc10
                refine V_iload_n (pc := 264) C dX6_next_264 rfl rfl ?_
                refine V_bipush (pc := 265) C (v := 59) dX6_next_265 (by decide) ?_
                refine V_icmpeq (pc := 267) (tgt := 300) C dX6_next_267 (by decide) (fun hc11 => ?_) (fun hc11 => ?_)
                · have h := it_t h hc11
                  exact hJ8 h
                · have h := it_f h hc11
                  refine V_iload_n (pc := 270) C dX6_next_270 rfl rfl ?_
                  refine V_bipush (pc := 271) C (v := 43) dX6_next_271 (by decide) ?_
                  refine V_icmpeq (pc := 273) (tgt := 300) C dX6_next_273 (by decide) (fun hc12 => ?_) (fun hc12 => ?_)
                  · have h := it_t h hc12
                    exact hJ8 h
                  · have h := it_f h hc12
                    refine V_iload_n (pc := 276) C dX6_next_276 rfl rfl ?_
                    refine V_bipush (pc := 277) C (v := 45) dX6_next_277 (by decide) ?_
                    refine V_icmpeq (pc := 279) (tgt := 300) C dX6_next_279 (by decide) (fun hc13 => ?_) (fun hc13 => ?_)
                    · have h := it_t h hc13
                      exact hJ8 h
                    · have h := it_f h hc13
                      refine V_iload_n (pc := 282) C dX6_next_282 rfl rfl ?_
                      refine V_bipush (pc := 283) C (v := 42) dX6_next_283 (by decide) ?_
                      refine V_icmpeq (pc := 285) (tgt := 300) C dX6_next_285 (by decide) (fun hc14 => ?_) (fun hc14 => ?_)
                      · have h := it_t h hc14
                        exact hJ8 h
                      · have h := it_f h hc14
                        refine V_iload_n (pc := 288) C dX6_next_288 rfl rfl ?_
                        refine V_bipush (pc := 289) C (v := 60) dX6_next_289 (by decide) ?_
                        refine V_icmpeq (pc := 291) (tgt := 300) C dX6_next_291 (by decide) (fun hc15 => ?_) (fun hc15 => ?_)
                        · have h := it_t h hc15
                          exact hJ8 h
                        · have h := it_f h hc15
                          refine V_iload_n (pc := 294) C dX6_next_294 rfl rfl ?_
                          refine V_bipush (pc := 295) C (v := 61) dX6_next_295 (by decide) ?_
                          refine V_icmpne (pc := 297) (tgt := 321) C dX6_next_297 (by decide) (fun hc16 => ?_) (fun hc16 => ?_)
                          · have h := it_f h hc16
                            exact V_ret0 (pc := 321) C (gdov h hG) dX6_next_321
                          · have h := it_t h hc16
                            exact hJ8 h
        · have h := it_f h hc7
          refine V_aload_n (pc := 148) C dX6_next_148 rfl rfl ?_
          refine V_iconst (pc := 149) C (v := 2) dX6_next_149 (by decide) ?_
          refine V_putI (pc := 150) C CF6 fl_X6_146 LO6 (by decide) rfl rfl rfl dX6_next_150 ?_
          refine V_aload_n (pc := 153) C dX6_next_153 rfl rfl ?_
          refine V_lconst (pc := 154) C (v := 0) dX6_next_154 (by decide) ?_
          refine V_putL (pc := 155) C CF6 fl_X6_157 LO6 (by decide) rfl rfl rfl ulM dX6_next_155 ?_
          refine V_iconst (pc := 158) C (v := 0) dX6_next_158 (by decide) ?_
          refine V_istore_n (pc := 159) C (lv' := [some (.ref 0), some (.int q3), some (.int 0)]) dX6_next_159 rfl (by decide) (Nat.le_of_ble_eq_true rfl) rfl rfl ?_
          refine wj2_ok (fun (v2_17 : Int32) (mh18 : vMH) => Vw LM X (d + 1) 3 235 [some (.ref 0), some (.int q3), some (.int v2_17)] [] mh18) h (fun v2_17 mh18 h => ?_) (fun J19 hJ19 h => ?_)
          · refine V_aload_n (pc := 235) C dX6_next_235 rfl rfl ?_
            refine V_iload_n (pc := 236) C dX6_next_236 rfl rfl ?_
            refine V_iconst (pc := 237) C (v := 4) dX6_next_237 (by decide) ?_
            refine wj1_ok (fun (s20 : Int32) => Vw LM X (d + 1) 3 246 [some (.ref 0), some (.int q3), some (.int v2_17)] [.int s20, .ref 0] mh18) h (fun s20 h => ?_) (fun J21 hJ21 h => ?_)
            · refine V_putI (pc := 246) C CF6 fl_X6_146 LO6 (by decide) rfl rfl rfl dX6_next_246 ?_
              refine V_goto (pc := 249) (tgt := 321) C dX6_next_249 (by decide) ?_
              exact V_ret0 (pc := 321) C (gdov h hG) dX6_next_321
            · refine V_icmple (pc := 238) (tgt := 245) C dX6_next_238 (by decide) (fun hc22 => ?_) (fun hc22 => ?_)
              · have h := it_t h hc22
                refine V_iconst (pc := 245) C (v := 2) dX6_next_245 (by decide) ?_
                exact hJ21 2 h
              · have h := it_f h hc22
                refine V_iconst (pc := 241) C (v := 4) dX6_next_241 (by decide) ?_
                refine V_goto (pc := 242) (tgt := 246) C dX6_next_242 (by decide) ?_
                exact hJ21 4 h
          · refine lq2_ok (fun (v2_23 : Int32) (mh24 : vMH) => Vw LM X (d + 1) 3 160 [some (.ref 0), some (.int q3), some (.int v2_23)] [] mh24) h (fun rec25 hrec25 v2_23 mh24 h => ?_)
            unfold X6_next_L160 at h
            refine V_aload_n (pc := 160) C dX6_next_160 rfl rfl ?_
            refine V_aload_n (pc := 161) C dX6_next_161 rfl rfl ?_
            refine V_getI (pc := 162) C CF6 fl_X6_137 LO6 (by decide) rfl dX6_next_162 (v := (mh24.1 0 25)) rfl ?_
            obtain ⟨q26, hq27, h⟩ := bnd_ok h
            refine V_callVi (pc := 165) (rest := []) C cs_X6_140 (c_X6_byteAt (d + 0) (mh24.1 0 25) mh24 hq27) CF6.1 LO6 (by omega) (by decide) rfl rfl (Nat.le_of_ble_eq_true rfl) dX6_next_165 ?_
            refine V_i2l (pc := 168) C dX6_next_168 ?_
            refine V_ldc2 (pc := 169) C dX6_next_169 kc_X6_153 ?_
            refine V_ldc2 (pc := 172) C dX6_next_172 kc_X6_155 ?_
            refine V_callSi (pc := 175) (rest := []) C cs_X6_76 (c_X6_in (d + 0) (Int32.toInt64 q26) 48 57 mh24) (by omega) (by decide) rfl rfl (Nat.le_of_ble_eq_true rfl) dX6_next_175 ?_
            refine V_ifeq (pc := 178) (tgt := 235) C dX6_next_178 (by decide) (fun hc28 => ?_) (fun hc28 => ?_)
            · have h := it_t h hc28
              exact hJ19 v2_23 mh24 h
            · have h := it_f h hc28
              refine V_aload_n (pc := 181) C dX6_next_181 rfl rfl ?_
              refine V_iload_n (pc := 182) C dX6_next_182 rfl rfl ?_
              refine V_iconst (pc := 183) C (v := 4) dX6_next_183 (by decide) ?_
              refine wj1_ok (fun (s29 : Int64) => Vw LM X (d + 1) 3 216 [some (.ref 0), some (.int q3), some (.int v2_23)] [.long s29, .ref 0] mh24) h (fun s29 h => ?_) (fun J30 hJ30 h => ?_)
              · refine V_putL (pc := 216) C CF6 fl_X6_157 LO6 (by decide) rfl rfl rfl ulM dX6_next_216 ?_
                refine V_iinc (pc := 219) C (v := (v2_23 + 1)) (lv' := [some (.ref 0), some (.int q3), some (.int (v2_23 + 1))]) dX6_next_219 rfl rfl (by decide) (Nat.le_of_ble_eq_true rfl) rfl rfl ?_
                refine V_aload_n (pc := 222) C dX6_next_222 rfl rfl ?_
                refine V_dup (pc := 223) C dX6_next_223 rfl ?_
                refine V_getI (pc := 224) C CF6 fl_X6_137 LO6 (by decide) rfl dX6_next_224 (v := (mh24.1 0 25)) rd_ul ?_
                refine V_iconst (pc := 227) C (v := 1) dX6_next_227 (by decide) ?_
                refine V_iadd (pc := 228) C dX6_next_228 ?_
                refine V_putI (pc := 229) C CF6 fl_X6_137 LO6 (by decide) rfl rfl rfl dX6_next_229 ?_
                refine V_goto (pc := 232) (tgt := 160) C dX6_next_232 (by decide) ?_
                exact hrec25 (v2_23 + 1) (v_up (v_ul mh24 s29) 0 25 ((mh24.1 0 25) + 1)) h
              · refine V_icmpge (pc := 184) (tgt := 212) C dX6_next_184 (by decide) (fun hc31 => ?_) (fun hc31 => ?_)
                · have h := it_t h hc31
                  refine V_aload_n (pc := 212) C dX6_next_212 rfl rfl ?_
                  refine V_getL (pc := 213) C CF6 fl_X6_157 LO6 (by decide) rfl dX6_next_213 (v := mh24.2) rfl ?_
                  exact hJ30 mh24.2 h
                · have h := it_f h hc31
                  refine V_ldc2 (pc := 187) C dX6_next_187 kc_X6_161 ?_
                  refine V_aload_n (pc := 190) C dX6_next_190 rfl rfl ?_
                  refine V_getL (pc := 191) C CF6 fl_X6_157 LO6 (by decide) rfl dX6_next_191 (v := mh24.2) rfl ?_
                  refine V_lmul (pc := 194) C dX6_next_194 ?_
                  refine V_aload_n (pc := 195) C dX6_next_195 rfl rfl ?_
                  refine V_aload_n (pc := 196) C dX6_next_196 rfl rfl ?_
                  refine V_getI (pc := 197) C CF6 fl_X6_137 LO6 (by decide) rfl dX6_next_197 (v := (mh24.1 0 25)) rfl ?_
                  obtain ⟨q32, hq33, h⟩ := bnd_ok h
                  refine V_callVi (pc := 200) (rest := [.long (10 * mh24.2), .ref 0]) C cs_X6_140 (c_X6_byteAt (d + 0) (mh24.1 0 25) mh24 hq33) CF6.1 LO6 (by omega) (by decide) rfl rfl (Nat.le_of_ble_eq_true rfl) dX6_next_200 ?_
                  refine V_i2l (pc := 203) C dX6_next_203 ?_
                  refine V_ladd (pc := 204) C dX6_next_204 ?_
                  refine V_ldc2 (pc := 205) C dX6_next_205 kc_X6_153 ?_
                  refine V_lsub (pc := 208) C dX6_next_208 ?_
                  refine V_goto (pc := 209) (tgt := 216) C dX6_next_209 (by decide) ?_
                  exact hJ30 (((10 * mh24.2) + (Int32.toInt64 q32)) - 48) h
      · have h := it_f h hc6
        refine V_aload_n (pc := 95) C dX6_next_95 rfl rfl ?_
        refine V_iconst (pc := 96) C (v := 1) dX6_next_96 (by decide) ?_
        refine V_putI (pc := 97) C CF6 fl_X6_146 LO6 (by decide) rfl rfl rfl dX6_next_97 ?_
        refine lq1_ok (fun (mh34 : vMH) => Vw LM X (d + 1) 3 100 [some (.ref 0), some (.int q3), none] [] mh34) h (fun rec35 hrec35 mh34 h => ?_)
        unfold X6_next_L100 at h
        refine V_aload_n (pc := 100) C dX6_next_100 rfl rfl ?_
        refine V_aload_n (pc := 101) C dX6_next_101 rfl rfl ?_
        refine V_getI (pc := 102) C CF6 fl_X6_137 LO6 (by decide) rfl dX6_next_102 (v := (mh34.1 0 25)) rfl ?_
        obtain ⟨q36, hq37, h⟩ := bnd_ok h
        refine V_callVi (pc := 105) (rest := []) C cs_X6_140 (c_X6_byteAt (d + 0) (mh34.1 0 25) mh34 hq37) CF6.1 LO6 (by omega) (by decide) rfl rfl (Nat.le_of_ble_eq_true rfl) dX6_next_105 ?_
        refine V_i2l (pc := 108) C dX6_next_108 ?_
        refine V_ldc2 (pc := 109) C dX6_next_109 kc_X6_149 ?_
        refine V_ldc2 (pc := 112) C dX6_next_112 kc_X6_151 ?_
        refine V_callSi (pc := 115) (rest := []) C cs_X6_76 (c_X6_in (d + 0) (Int32.toInt64 q36) 97 122 mh34) (by omega) (by decide) rfl rfl (Nat.le_of_ble_eq_true rfl) dX6_next_115 ?_
        refine V_ifeq (pc := 118) (tgt := 321) C dX6_next_118 (by decide) (fun hc38 => ?_) (fun hc38 => ?_)
        · have h := it_t h hc38
          exact V_ret0 (pc := 321) C (gdov h hG) dX6_next_321
        · have h := it_f h hc38
          refine V_aload_n (pc := 121) C dX6_next_121 rfl rfl ?_
          refine V_dup (pc := 122) C dX6_next_122 rfl ?_
          refine V_getI (pc := 123) C CF6 fl_X6_137 LO6 (by decide) rfl dX6_next_123 (v := (mh34.1 0 25)) rfl ?_
          refine V_iconst (pc := 126) C (v := 1) dX6_next_126 (by decide) ?_
          refine V_iadd (pc := 127) C dX6_next_127 ?_
          refine V_putI (pc := 128) C CF6 fl_X6_137 LO6 (by decide) rfl rfl rfl dX6_next_128 ?_
          refine V_goto (pc := 131) (tgt := 100) C dX6_next_131 (by decide) ?_
          exact hrec35 (v_up mh34 0 25 ((mh34.1 0 25) + 1)) h
    · have h := it_f h hc5
      refine V_aload_n (pc := 65) C dX6_next_65 rfl rfl ?_
      refine V_iconst (pc := 66) C (v := 0) dX6_next_66 (by decide) ?_
      refine V_putI (pc := 67) C CF6 fl_X6_146 LO6 (by decide) rfl rfl rfl dX6_next_67 ?_
      refine V_aload_n (pc := 70) C dX6_next_70 rfl rfl ?_
      refine V_aload_n (pc := 71) C dX6_next_71 rfl rfl ?_
      refine V_getI (pc := 72) C CF6 fl_X6_131 LO6 (by decide) rfl dX6_next_72 (v := (mh1.1 0 24)) ((rd_k (by decide)).trans ((rd_k (by decide)).trans (rd_k (by decide)))) ?_
      refine V_putI (pc := 75) C CF6 fl_X6_143 LO6 (by decide) rfl rfl rfl dX6_next_75 ?_
      refine V_goto (pc := 78) (tgt := 321) C dX6_next_78 (by decide) ?_
      exact V_ret0 (pc := 321) C (gdov h hG) dX6_next_321
  · refine lq1_ok (fun (mh39 : vMH) => Vw LM X (d + 1) 3 0 [some (.ref 0), none, none] [] mh39) h (fun rec40 hrec40 mh39 h => ?_)
    unfold X6_next_L0 at h
    refine V_aload_n (pc := 0) C dX6_next_0 rfl rfl ?_
    refine V_aload_n (pc := 1) C dX6_next_1 rfl rfl ?_
    refine V_getI (pc := 2) C CF6 fl_X6_137 LO6 (by decide) rfl dX6_next_2 (v := (mh39.1 0 25)) rfl ?_
    obtain ⟨q41, hq42, h⟩ := bnd_ok h
    refine V_callVi (pc := 5) (rest := []) C cs_X6_140 (c_X6_byteAt (d + 0) (mh39.1 0 25) mh39 hq42) CF6.1 LO6 (by omega) (by decide) rfl rfl (Nat.le_of_ble_eq_true rfl) dX6_next_5 ?_
    refine V_bipush (pc := 8) C (v := 32) dX6_next_8 (by decide) ?_
    refine wj0_ok (Vw LM X (d + 1) 3 26 [some (.ref 0), none, none] [] mh39) h (fun h => ?_) (fun J43 hJ43 h => ?_)
    · refine V_aload_n (pc := 26) C dX6_next_26 rfl rfl ?_
      refine V_dup (pc := 27) C dX6_next_27 rfl ?_
      refine V_getI (pc := 28) C CF6 fl_X6_137 LO6 (by decide) rfl dX6_next_28 (v := (mh39.1 0 25)) rfl ?_
      refine V_iconst (pc := 31) C (v := 1) dX6_next_31 (by decide) ?_
      refine V_iadd (pc := 32) C dX6_next_32 ?_
      refine V_putI (pc := 33) C CF6 fl_X6_137 LO6 (by decide) rfl rfl rfl dX6_next_33 ?_
      refine V_goto (pc := 36) (tgt := 0) C dX6_next_36 (by decide) ?_
      exact hrec40 (v_up mh39 0 25 ((mh39.1 0 25) + 1)) h
    · refine V_icmpeq (pc := 10) (tgt := 26) C dX6_next_10 (by decide) (fun hc44 => ?_) (fun hc44 => ?_)
      · have h := it_t h hc44
        exact hJ43 h
      · have h := it_f h hc44
        refine V_aload_n (pc := 13) C dX6_next_13 rfl rfl ?_
        refine V_aload_n (pc := 14) C dX6_next_14 rfl rfl ?_
        refine V_getI (pc := 15) C CF6 fl_X6_137 LO6 (by decide) rfl dX6_next_15 (v := (mh39.1 0 25)) rfl ?_
        obtain ⟨q45, hq46, h⟩ := bnd_ok h
        refine V_callVi (pc := 18) (rest := []) C cs_X6_140 (c_X6_byteAt (d + 0) (mh39.1 0 25) mh39 hq46) CF6.1 LO6 (by omega) (by decide) rfl rfl (Nat.le_of_ble_eq_true rfl) dX6_next_18 ?_
        refine V_bipush (pc := 21) C (v := 10) dX6_next_21 (by decide) ?_
        refine V_icmpne (pc := 23) (tgt := 39) C dX6_next_23 (by decide) (fun hc47 => ?_) (fun hc47 => ?_)
        · have h := it_f h hc47
          exact hJ2 mh39 h
        · have h := it_t h hc47
          exact hJ43 h
