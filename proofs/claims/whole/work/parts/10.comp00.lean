def X0_has (r : Nat) (v1 : Int32) (mh : vMH) : Int32 := (if v1 < 0 then 0 else (if (mh.1 r 4) ≤ v1 then 0 else 1))
set_option maxRecDepth 100000 in
set_option maxHeartbeats 8000000 in
theorem c_X0_has (d : Nat) {r : Nat} (hr : isF r) (v1 : Int32) (mh : vMH) : MC LC (d + 0) yX0_has cX0_has 2 (some .boolean) [.ref r, .int v1] mh (some (.int (X0_has r v1 mh))) mh := by
  refine MC_of 0 (by decide) rfl (fun X C hG => ?_)
  replace C : Cx X (d + 0) 2 cX0_has RX0 (some .boolean) := C
  show Vw LC X (d + 0) 2 0 [some (.ref r), some (.int v1)] [] mh
  obtain ⟨res, h⟩ : ∃ res, X0_has r v1 mh = res := ⟨_, rfl⟩
  rw [h] at hG
  unfold X0_has at h
  refine V_iload_n (pc := 0) C dX0_has_0 rfl rfl ?_
  refine V_iflt (pc := 1) (tgt := 16) C dX0_has_1 (by decide) (fun hc1 => ?_) (fun hc1 => ?_)
  · have h := it_t h hc1
    refine V_iconst (pc := 16) C (v := 0) dX0_has_16 (by decide) ?_
    exact V_zret (pc := 17) C rfl (gdt h hG) dX0_has_17
  · have h := it_f h hc1
    refine V_iload_n (pc := 4) C dX0_has_4 rfl rfl ?_
    refine V_aload_n (pc := 5) C dX0_has_5 rfl rfl ?_
    refine V_getI (pc := 6) C CF0 fl_X0_24 (LO_F hr) (by decide) rfl dX0_has_6 (v := (mh.1 r 4)) rfl ?_
    refine V_icmpge (pc := 9) (tgt := 16) C dX0_has_9 (by decide) (fun hc2 => ?_) (fun hc2 => ?_)
    · have h := it_t h hc2
      refine V_iconst (pc := 16) C (v := 0) dX0_has_16 (by decide) ?_
      exact V_zret (pc := 17) C rfl (gdt h hG) dX0_has_17
    · have h := it_f h hc2
      refine V_iconst (pc := 12) C (v := 1) dX0_has_12 (by decide) ?_
      refine V_goto (pc := 13) (tgt := 17) C dX0_has_13 (by decide) ?_
      exact V_zret (pc := 17) C rfl (gdt h hG) dX0_has_17
theorem z_X0_has (r : Nat) (v1 : Int32) (mh : vMH) : narrow .boolean (.int (X0_has r v1 mh)) = .int (X0_has r v1 mh) := by
  unfold X0_has
  (repeat' split) <;> rfl
def X0_lies (r : Nat) (v1 : Int32) (mh : vMH) : Int32 := (if (X0_has r v1 mh) = 0 then 0 else (if ((js (mh.1 r 5) v1) &&& 1) = 0 then 1 else 0))
set_option maxRecDepth 100000 in
set_option maxHeartbeats 8000000 in
theorem c_X0_lies (d : Nat) {r : Nat} (hr : isF r) (v1 : Int32) (mh : vMH) : MC LC (d + 1) yX0_lies cX0_lies 2 (some .boolean) [.ref r, .int v1] mh (some (.int (X0_lies r v1 mh))) mh := by
  refine MC_of 0 (by decide) rfl (fun X C hG => ?_)
  replace C : Cx X (d + 1) 2 cX0_lies RX0 (some .boolean) := C
  show Vw LC X (d + 1) 2 0 [some (.ref r), some (.int v1)] [] mh
  obtain ⟨res, h⟩ : ∃ res, X0_lies r v1 mh = res := ⟨_, rfl⟩
  rw [h] at hG
  unfold X0_lies at h
  refine V_aload_n (pc := 0) C dX0_lies_0 rfl rfl ?_
  refine V_iload_n (pc := 1) C dX0_lies_1 rfl rfl ?_
  refine V_callVi (pc := 2) (rest := []) C cs_X0_46 (c_X0_has (d + 0) hr v1 mh) CF0.1 (LO_F hr) (by omega) (by decide) rfl rfl (Nat.le_of_ble_eq_true rfl) dX0_lies_2 ?_
  refine V_ifeq (pc := 5) (tgt := 23) C dX0_lies_5 (by decide) (fun hc1 => ?_) (fun hc1 => ?_)
  · have h := it_t h hc1
    refine V_iconst (pc := 23) C (v := 0) dX0_lies_23 (by decide) ?_
    exact V_zret (pc := 24) C rfl (gdt h hG) dX0_lies_24
  · have h := it_f h hc1
    refine V_aload_n (pc := 8) C dX0_lies_8 rfl rfl ?_
    refine V_getI (pc := 9) C CF0 fl_X0_28 (LO_F hr) (by decide) rfl dX0_lies_9 (v := (mh.1 r 5)) rfl ?_
    refine V_iload_n (pc := 12) C dX0_lies_12 rfl rfl ?_
    refine V_ishr (pc := 13) C dX0_lies_13 ?_
    refine V_iconst (pc := 14) C (v := 1) dX0_lies_14 (by decide) ?_
    refine V_iand (pc := 15) C dX0_lies_15 ?_
    refine V_ifne (pc := 16) (tgt := 23) C dX0_lies_16 (by decide) (fun hc2 => ?_) (fun hc2 => ?_)
    · have h := it_f h hc2
      refine V_iconst (pc := 23) C (v := 0) dX0_lies_23 (by decide) ?_
      exact V_zret (pc := 24) C rfl (gdt h hG) dX0_lies_24
    · have h := it_t h hc2
      refine V_iconst (pc := 19) C (v := 1) dX0_lies_19 (by decide) ?_
      refine V_goto (pc := 20) (tgt := 24) C dX0_lies_20 (by decide) ?_
      exact V_zret (pc := 24) C rfl (gdt h hG) dX0_lies_24
theorem z_X0_lies (r : Nat) (v1 : Int32) (mh : vMH) : narrow .boolean (.int (X0_lies r v1 mh)) = .int (X0_lies r v1 mh) := by
  unfold X0_lies
  (repeat' split) <;> rfl
def J6_bitCount_0f7a4 (v0 : Int32) : Int32 := ((((((((v0 - ((ju v0 1) &&& 1431655765)) &&& 858993459) + ((ju (v0 - ((ju v0 1) &&& 1431655765)) 2) &&& 858993459)) + (ju (((v0 - ((ju v0 1) &&& 1431655765)) &&& 858993459) + ((ju (v0 - ((ju v0 1) &&& 1431655765)) 2) &&& 858993459)) 4)) &&& 252645135) + (ju (((((v0 - ((ju v0 1) &&& 1431655765)) &&& 858993459) + ((ju (v0 - ((ju v0 1) &&& 1431655765)) 2) &&& 858993459)) + (ju (((v0 - ((ju v0 1) &&& 1431655765)) &&& 858993459) + ((ju (v0 - ((ju v0 1) &&& 1431655765)) 2) &&& 858993459)) 4)) &&& 252645135) 8)) + (ju ((((((v0 - ((ju v0 1) &&& 1431655765)) &&& 858993459) + ((ju (v0 - ((ju v0 1) &&& 1431655765)) 2) &&& 858993459)) + (ju (((v0 - ((ju v0 1) &&& 1431655765)) &&& 858993459) + ((ju (v0 - ((ju v0 1) &&& 1431655765)) 2) &&& 858993459)) 4)) &&& 252645135) + (ju (((((v0 - ((ju v0 1) &&& 1431655765)) &&& 858993459) + ((ju (v0 - ((ju v0 1) &&& 1431655765)) 2) &&& 858993459)) + (ju (((v0 - ((ju v0 1) &&& 1431655765)) &&& 858993459) + ((ju (v0 - ((ju v0 1) &&& 1431655765)) 2) &&& 858993459)) 4)) &&& 252645135) 8)) 16)) &&& 63)
set_option maxRecDepth 100000 in
set_option maxHeartbeats 8000000 in
theorem c_J6_bitCount_0f7a4 (d : Nat) (v0 : Int32) (mh : vMH) {L : vLay} : MC L (d + 0) yJ6_bitCount_0f7a4 cJ6_bitCount_0f7a4 1 (some .int) [.int v0] mh (some (.int (J6_bitCount_0f7a4 v0))) mh := by
  refine MC_of 0 (by decide) rfl (fun X C hG => ?_)
  replace C : Cx X (d + 0) 1 cJ6_bitCount_0f7a4 RJ6 (some .int) := C
  show Vw L X (d + 0) 1 0 [some (.int v0)] [] mh
  obtain ⟨res, h⟩ : ∃ res, J6_bitCount_0f7a4 v0 = res := ⟨_, rfl⟩
  rw [h] at hG
  unfold J6_bitCount_0f7a4 at h
  refine V_iload_n (pc := 0) C dJ6_bitCount_0f7a4_0 rfl rfl ?_
  refine V_iload_n (pc := 1) C dJ6_bitCount_0f7a4_1 rfl rfl ?_
  refine V_iconst (pc := 2) C (v := 1) dJ6_bitCount_0f7a4_2 (by decide) ?_
  refine V_iushr (pc := 3) C dJ6_bitCount_0f7a4_3 ?_
  refine V_ldcw (pc := 4) C dJ6_bitCount_0f7a4_4 kc_J6_265 ?_
  refine V_iand (pc := 7) C dJ6_bitCount_0f7a4_7 ?_
  refine V_isub (pc := 8) C dJ6_bitCount_0f7a4_8 ?_
  refine V_istore_n (pc := 9) C (lv' := [some (.int (v0 - ((ju v0 1) &&& 1431655765)))]) dJ6_bitCount_0f7a4_9 rfl (by decide) (Nat.le_of_ble_eq_true rfl) rfl rfl ?_
  refine V_iload_n (pc := 10) C dJ6_bitCount_0f7a4_10 rfl rfl ?_
  refine V_ldcw (pc := 11) C dJ6_bitCount_0f7a4_11 kc_J6_266 ?_
  refine V_iand (pc := 14) C dJ6_bitCount_0f7a4_14 ?_
  refine V_iload_n (pc := 15) C dJ6_bitCount_0f7a4_15 rfl rfl ?_
  refine V_iconst (pc := 16) C (v := 2) dJ6_bitCount_0f7a4_16 (by decide) ?_
  refine V_iushr (pc := 17) C dJ6_bitCount_0f7a4_17 ?_
  refine V_ldcw (pc := 18) C dJ6_bitCount_0f7a4_18 kc_J6_266 ?_
  refine V_iand (pc := 21) C dJ6_bitCount_0f7a4_21 ?_
  refine V_iadd (pc := 22) C dJ6_bitCount_0f7a4_22 ?_
  refine V_istore_n (pc := 23) C (lv' := [some (.int (((v0 - ((ju v0 1) &&& 1431655765)) &&& 858993459) + ((ju (v0 - ((ju v0 1) &&& 1431655765)) 2) &&& 858993459)))]) dJ6_bitCount_0f7a4_23 rfl (by decide) (Nat.le_of_ble_eq_true rfl) rfl rfl ?_
  refine V_iload_n (pc := 24) C dJ6_bitCount_0f7a4_24 rfl rfl ?_
  refine V_iload_n (pc := 25) C dJ6_bitCount_0f7a4_25 rfl rfl ?_
  refine V_iconst (pc := 26) C (v := 4) dJ6_bitCount_0f7a4_26 (by decide) ?_
  refine V_iushr (pc := 27) C dJ6_bitCount_0f7a4_27 ?_
  refine V_iadd (pc := 28) C dJ6_bitCount_0f7a4_28 ?_
  refine V_ldcw (pc := 29) C dJ6_bitCount_0f7a4_29 kc_J6_267 ?_
  refine V_iand (pc := 32) C dJ6_bitCount_0f7a4_32 ?_
  refine V_istore_n (pc := 33) C (lv' := [some (.int (((((v0 - ((ju v0 1) &&& 1431655765)) &&& 858993459) + ((ju (v0 - ((ju v0 1) &&& 1431655765)) 2) &&& 858993459)) + (ju (((v0 - ((ju v0 1) &&& 1431655765)) &&& 858993459) + ((ju (v0 - ((ju v0 1) &&& 1431655765)) 2) &&& 858993459)) 4)) &&& 252645135))]) dJ6_bitCount_0f7a4_33 rfl (by decide) (Nat.le_of_ble_eq_true rfl) rfl rfl ?_
  refine V_iload_n (pc := 34) C dJ6_bitCount_0f7a4_34 rfl rfl ?_
  refine V_iload_n (pc := 35) C dJ6_bitCount_0f7a4_35 rfl rfl ?_
  refine V_bipush (pc := 36) C (v := 8) dJ6_bitCount_0f7a4_36 (by decide) ?_
  refine V_iushr (pc := 38) C dJ6_bitCount_0f7a4_38 ?_
  refine V_iadd (pc := 39) C dJ6_bitCount_0f7a4_39 ?_
  refine V_istore_n (pc := 40) C (lv' := [some (.int ((((((v0 - ((ju v0 1) &&& 1431655765)) &&& 858993459) + ((ju (v0 - ((ju v0 1) &&& 1431655765)) 2) &&& 858993459)) + (ju (((v0 - ((ju v0 1) &&& 1431655765)) &&& 858993459) + ((ju (v0 - ((ju v0 1) &&& 1431655765)) 2) &&& 858993459)) 4)) &&& 252645135) + (ju (((((v0 - ((ju v0 1) &&& 1431655765)) &&& 858993459) + ((ju (v0 - ((ju v0 1) &&& 1431655765)) 2) &&& 858993459)) + (ju (((v0 - ((ju v0 1) &&& 1431655765)) &&& 858993459) + ((ju (v0 - ((ju v0 1) &&& 1431655765)) 2) &&& 858993459)) 4)) &&& 252645135) 8)))]) dJ6_bitCount_0f7a4_40 rfl (by decide) (Nat.le_of_ble_eq_true rfl) rfl rfl ?_
  refine V_iload_n (pc := 41) C dJ6_bitCount_0f7a4_41 rfl rfl ?_
  refine V_iload_n (pc := 42) C dJ6_bitCount_0f7a4_42 rfl rfl ?_
  refine V_bipush (pc := 43) C (v := 16) dJ6_bitCount_0f7a4_43 (by decide) ?_
  refine V_iushr (pc := 45) C dJ6_bitCount_0f7a4_45 ?_
  refine V_iadd (pc := 46) C dJ6_bitCount_0f7a4_46 ?_
  refine V_istore_n (pc := 47) C (lv' := [some (.int (((((((v0 - ((ju v0 1) &&& 1431655765)) &&& 858993459) + ((ju (v0 - ((ju v0 1) &&& 1431655765)) 2) &&& 858993459)) + (ju (((v0 - ((ju v0 1) &&& 1431655765)) &&& 858993459) + ((ju (v0 - ((ju v0 1) &&& 1431655765)) 2) &&& 858993459)) 4)) &&& 252645135) + (ju (((((v0 - ((ju v0 1) &&& 1431655765)) &&& 858993459) + ((ju (v0 - ((ju v0 1) &&& 1431655765)) 2) &&& 858993459)) + (ju (((v0 - ((ju v0 1) &&& 1431655765)) &&& 858993459) + ((ju (v0 - ((ju v0 1) &&& 1431655765)) 2) &&& 858993459)) 4)) &&& 252645135) 8)) + (ju ((((((v0 - ((ju v0 1) &&& 1431655765)) &&& 858993459) + ((ju (v0 - ((ju v0 1) &&& 1431655765)) 2) &&& 858993459)) + (ju (((v0 - ((ju v0 1) &&& 1431655765)) &&& 858993459) + ((ju (v0 - ((ju v0 1) &&& 1431655765)) 2) &&& 858993459)) 4)) &&& 252645135) + (ju (((((v0 - ((ju v0 1) &&& 1431655765)) &&& 858993459) + ((ju (v0 - ((ju v0 1) &&& 1431655765)) 2) &&& 858993459)) + (ju (((v0 - ((ju v0 1) &&& 1431655765)) &&& 858993459) + ((ju (v0 - ((ju v0 1) &&& 1431655765)) 2) &&& 858993459)) 4)) &&& 252645135) 8)) 16)))]) dJ6_bitCount_0f7a4_47 rfl (by decide) (Nat.le_of_ble_eq_true rfl) rfl rfl ?_
  refine V_iload_n (pc := 48) C dJ6_bitCount_0f7a4_48 rfl rfl ?_
  refine V_bipush (pc := 49) C (v := 63) dJ6_bitCount_0f7a4_49 (by decide) ?_
  refine V_iand (pc := 51) C dJ6_bitCount_0f7a4_51 ?_
  exact V_iret (pc := 52) C (gdt h hG) dJ6_bitCount_0f7a4_52
def X0_lying (r : Nat) (mh : vMH) : Int32 := ((mh.1 r 4) - (J6_bitCount_0f7a4 (mh.1 r 5)))
set_option maxRecDepth 100000 in
set_option maxHeartbeats 8000000 in
theorem c_X0_lying (d : Nat) {r : Nat} (hr : isF r) (mh : vMH) : MC LC (d + 1) yX0_lying cX0_lying 1 (some .int) [.ref r] mh (some (.int (X0_lying r mh))) mh := by
  refine MC_of 0 (by decide) rfl (fun X C hG => ?_)
  replace C : Cx X (d + 1) 1 cX0_lying RX0 (some .int) := C
  show Vw LC X (d + 1) 1 0 [some (.ref r)] [] mh
  obtain ⟨res, h⟩ : ∃ res, X0_lying r mh = res := ⟨_, rfl⟩
  rw [h] at hG
  unfold X0_lying at h
  refine V_aload_n (pc := 0) C dX0_lying_0 rfl rfl ?_
  refine V_getI (pc := 1) C CF0 fl_X0_24 (LO_F hr) (by decide) rfl dX0_lying_1 (v := (mh.1 r 4)) rfl ?_
  refine V_aload_n (pc := 4) C dX0_lying_4 rfl rfl ?_
  refine V_getI (pc := 5) C CF0 fl_X0_28 (LO_F hr) (by decide) rfl dX0_lying_5 (v := (mh.1 r 5)) rfl ?_
  refine V_callSi (pc := 8) (rest := [.int (mh.1 r 4)]) C cs_X0_50 (c_J6_bitCount_0f7a4 (d + 0) (mh.1 r 5) mh (L := LC)) (by omega) (by decide) rfl rfl (Nat.le_of_ble_eq_true rfl) dX0_lying_8 ?_
  refine V_isub (pc := 11) C dX0_lying_11 ?_
  exact V_iret (pc := 12) C (gdt h hG) dX0_lying_12
def X0_lay (r : Nat) (v1 : Int32) (v2 : Int32) (v3 : Int32) (v4 : Int32) (mh : vMH) : Option (Int32 × vMH) := (if (mh.1 r 4) < 12 then (chk (inb (mh.1 r 4) 12) (some ((((mh.1 r 4) + 1) - 1), (v_up (v_up (v_up (v_up (v_up mh (4 * r + 5) (jn (mh.1 r 4)) v1) (4 * r + 6) (jn (mh.1 r 4)) v2) (4 * r + 7) (jn (mh.1 r 4)) v3) (4 * r + 8) (jn (mh.1 r 4)) v4) r 4 ((mh.1 r 4) + 1))))) else (some ((-4), mh)))
set_option maxRecDepth 100000 in
set_option maxHeartbeats 8000000 in
theorem c_X0_lay (d : Nat) {r : Nat} (hr : isF r) (v1 : Int32) (v2 : Int32) (v3 : Int32) (v4 : Int32) (mh : vMH) {res : Int32 × vMH} (h : X0_lay r v1 v2 v3 v4 mh = some res) : MC LC (d + 0) yX0_lay cX0_lay 5 (some .int) [.ref r, .int v1, .int v2, .int v3, .int v4] mh (some (.int res.1)) res.2 := by
  refine MC_of 0 (by decide) rfl (fun X C hG => ?_)
  replace C : Cx X (d + 0) 5 cX0_lay RX0 (some .int) := C
  show Vw LC X (d + 0) 5 0 [some (.ref r), some (.int v1), some (.int v2), some (.int v3), some (.int v4)] [] mh
  unfold X0_lay at h
  refine V_aload_n (pc := 0) C dX0_lay_0 rfl rfl ?_
  refine V_getI (pc := 1) C CF0 fl_X0_24 (LO_F hr) (by decide) rfl dX0_lay_1 (v := (mh.1 r 4)) rfl ?_
  refine V_bipush (pc := 4) C (v := 12) dX0_lay_4 (by decide) ?_
  refine V_icmplt (pc := 6) (tgt := 12) C dX0_lay_6 (by decide) (fun hc1 => ?_) (fun hc1 => ?_)
  · have h := it_t h hc1
    refine V_aload_n (pc := 12) C dX0_lay_12 rfl rfl ?_
    refine V_getR (pc := 13) C (r' := (4 * r + 5)) CF0 fl_X0_9 (LO_F hr) (by decide) rfl dX0_lay_13 ?_
    refine V_aload_n (pc := 16) C dX0_lay_16 rfl rfl ?_
    refine V_getI (pc := 17) C CF0 fl_X0_24 (LO_F hr) (by decide) rfl dX0_lay_17 (v := (mh.1 r 4)) rfl ?_
    refine V_iload_n (pc := 20) C dX0_lay_20 rfl rfl ?_
    obtain ⟨hi2, h⟩ := chk_ok h
    refine V_iast (pc := 21) C (LA_F0 hr) hi2 dX0_lay_21 ?_
    refine V_aload_n (pc := 22) C dX0_lay_22 rfl rfl ?_
    refine V_getR (pc := 23) C (r' := (4 * r + 6)) CF0 fl_X0_15 (LO_F hr) (by decide) rfl dX0_lay_23 ?_
    refine V_aload_n (pc := 26) C dX0_lay_26 rfl rfl ?_
    refine V_getI (pc := 27) C CF0 fl_X0_24 (LO_F hr) (by decide) rfl dX0_lay_27 (v := (mh.1 r 4)) (rd_oa (LO_F hr) (LA_F0 hr)) ?_
    refine V_iload_n (pc := 30) C dX0_lay_30 rfl rfl ?_
    refine V_iast (pc := 31) C (LA_F1 hr) hi2 dX0_lay_31 ?_
    refine V_aload_n (pc := 32) C dX0_lay_32 rfl rfl ?_
    refine V_getR (pc := 33) C (r' := (4 * r + 7)) CF0 fl_X0_18 (LO_F hr) (by decide) rfl dX0_lay_33 ?_
    refine V_aload_n (pc := 36) C dX0_lay_36 rfl rfl ?_
    refine V_getI (pc := 37) C CF0 fl_X0_24 (LO_F hr) (by decide) rfl dX0_lay_37 (v := (mh.1 r 4)) ((rd_oa (LO_F hr) (LA_F1 hr)).trans (rd_oa (LO_F hr) (LA_F0 hr))) ?_
    refine V_iload_n (pc := 40) C dX0_lay_40 rfl rfl ?_
    refine V_iast (pc := 41) C (LA_F2 hr) hi2 dX0_lay_41 ?_
    refine V_aload_n (pc := 42) C dX0_lay_42 rfl rfl ?_
    refine V_getR (pc := 43) C (r' := (4 * r + 8)) CF0 fl_X0_21 (LO_F hr) (by decide) rfl dX0_lay_43 ?_
    refine V_aload_n (pc := 46) C dX0_lay_46 rfl rfl ?_
    refine V_getI (pc := 47) C CF0 fl_X0_24 (LO_F hr) (by decide) rfl dX0_lay_47 (v := (mh.1 r 4)) ((rd_oa (LO_F hr) (LA_F2 hr)).trans ((rd_oa (LO_F hr) (LA_F1 hr)).trans (rd_oa (LO_F hr) (LA_F0 hr)))) ?_
    refine V_iload (pc := 50) C dX0_lay_50 rfl ?_
    refine V_iast (pc := 52) C (LA_F3 hr) hi2 dX0_lay_52 ?_
    refine V_aload_n (pc := 53) C dX0_lay_53 rfl rfl ?_
    refine V_dup (pc := 54) C dX0_lay_54 rfl ?_
    refine V_getI (pc := 55) C CF0 fl_X0_24 (LO_F hr) (by decide) rfl dX0_lay_55 (v := (mh.1 r 4)) ((rd_oa (LO_F hr) (LA_F3 hr)).trans ((rd_oa (LO_F hr) (LA_F2 hr)).trans ((rd_oa (LO_F hr) (LA_F1 hr)).trans (rd_oa (LO_F hr) (LA_F0 hr))))) ?_
    refine V_iconst (pc := 58) C (v := 1) dX0_lay_58 (by decide) ?_
    refine V_iadd (pc := 59) C dX0_lay_59 ?_
    refine V_putI (pc := 60) C CF0 fl_X0_24 (LO_F hr) (by decide) rfl rfl rfl dX0_lay_60 ?_
    refine V_aload_n (pc := 63) C dX0_lay_63 rfl rfl ?_
    refine V_getI (pc := 64) C CF0 fl_X0_24 (LO_F hr) (by decide) rfl dX0_lay_64 (v := ((mh.1 r 4) + 1)) rd_eq ?_
    refine V_iconst (pc := 67) C (v := 1) dX0_lay_67 (by decide) ?_
    refine V_isub (pc := 68) C dX0_lay_68 ?_
    exact V_iret (pc := 69) C (gdow h hG) dX0_lay_69
  · have h := it_f h hc1
    refine V_bipush (pc := 9) C (v := (-4)) dX0_lay_9 (by decide) ?_
    exact V_iret (pc := 11) C (gdow h hG) dX0_lay_11
def X0_layAs (r : Nat) (r1 : Nat) (mh : vMH) : vMH := (v_up (v_up (v_up (v_up (v_up (v_up (v_up (v_cp (v_cp mh (4 * r1 + 6) (4 * r + 6) (jn 0) (jn 0) (jn 12)) (4 * r1 + 7) (4 * r + 7) (jn 0) (jn 0) (jn 12)) r 4 (mh.1 r1 4)) r 5 ((v_up (v_cp (v_cp mh (4 * r1 + 6) (4 * r + 6) (jn 0) (jn 0) (jn 12)) (4 * r1 + 7) (4 * r + 7) (jn 0) (jn 0) (jn 12)) r 4 (mh.1 r1 4)).1 r1 5)) r 6 ((v_up (v_up (v_cp (v_cp mh (4 * r1 + 6) (4 * r + 6) (jn 0) (jn 0) (jn 12)) (4 * r1 + 7) (4 * r + 7) (jn 0) (jn 0) (jn 12)) r 4 (mh.1 r1 4)) r 5 ((v_up (v_cp (v_cp mh (4 * r1 + 6) (4 * r + 6) (jn 0) (jn 0) (jn 12)) (4 * r1 + 7) (4 * r + 7) (jn 0) (jn 0) (jn 12)) r 4 (mh.1 r1 4)).1 r1 5)).1 r1 6)) r 7 ((v_up (v_up (v_up (v_cp (v_cp mh (4 * r1 + 6) (4 * r + 6) (jn 0) (jn 0) (jn 12)) (4 * r1 + 7) (4 * r + 7) (jn 0) (jn 0) (jn 12)) r 4 (mh.1 r1 4)) r 5 ((v_up (v_cp (v_cp mh (4 * r1 + 6) (4 * r + 6) (jn 0) (jn 0) (jn 12)) (4 * r1 + 7) (4 * r + 7) (jn 0) (jn 0) (jn 12)) r 4 (mh.1 r1 4)).1 r1 5)) r 6 ((v_up (v_up (v_cp (v_cp mh (4 * r1 + 6) (4 * r + 6) (jn 0) (jn 0) (jn 12)) (4 * r1 + 7) (4 * r + 7) (jn 0) (jn 0) (jn 12)) r 4 (mh.1 r1 4)) r 5 ((v_up (v_cp (v_cp mh (4 * r1 + 6) (4 * r + 6) (jn 0) (jn 0) (jn 12)) (4 * r1 + 7) (4 * r + 7) (jn 0) (jn 0) (jn 12)) r 4 (mh.1 r1 4)).1 r1 5)).1 r1 6)).1 r1 7)) r 8 ((v_up (v_up (v_up (v_up (v_cp (v_cp mh (4 * r1 + 6) (4 * r + 6) (jn 0) (jn 0) (jn 12)) (4 * r1 + 7) (4 * r + 7) (jn 0) (jn 0) (jn 12)) r 4 (mh.1 r1 4)) r 5 ((v_up (v_cp (v_cp mh (4 * r1 + 6) (4 * r + 6) (jn 0) (jn 0) (jn 12)) (4 * r1 + 7) (4 * r + 7) (jn 0) (jn 0) (jn 12)) r 4 (mh.1 r1 4)).1 r1 5)) r 6 ((v_up (v_up (v_cp (v_cp mh (4 * r1 + 6) (4 * r + 6) (jn 0) (jn 0) (jn 12)) (4 * r1 + 7) (4 * r + 7) (jn 0) (jn 0) (jn 12)) r 4 (mh.1 r1 4)) r 5 ((v_up (v_cp (v_cp mh (4 * r1 + 6) (4 * r + 6) (jn 0) (jn 0) (jn 12)) (4 * r1 + 7) (4 * r + 7) (jn 0) (jn 0) (jn 12)) r 4 (mh.1 r1 4)).1 r1 5)).1 r1 6)) r 7 ((v_up (v_up (v_up (v_cp (v_cp mh (4 * r1 + 6) (4 * r + 6) (jn 0) (jn 0) (jn 12)) (4 * r1 + 7) (4 * r + 7) (jn 0) (jn 0) (jn 12)) r 4 (mh.1 r1 4)) r 5 ((v_up (v_cp (v_cp mh (4 * r1 + 6) (4 * r + 6) (jn 0) (jn 0) (jn 12)) (4 * r1 + 7) (4 * r + 7) (jn 0) (jn 0) (jn 12)) r 4 (mh.1 r1 4)).1 r1 5)) r 6 ((v_up (v_up (v_cp (v_cp mh (4 * r1 + 6) (4 * r + 6) (jn 0) (jn 0) (jn 12)) (4 * r1 + 7) (4 * r + 7) (jn 0) (jn 0) (jn 12)) r 4 (mh.1 r1 4)) r 5 ((v_up (v_cp (v_cp mh (4 * r1 + 6) (4 * r + 6) (jn 0) (jn 0) (jn 12)) (4 * r1 + 7) (4 * r + 7) (jn 0) (jn 0) (jn 12)) r 4 (mh.1 r1 4)).1 r1 5)).1 r1 6)).1 r1 7)).1 r1 8)) r 9 ((v_up (v_up (v_up (v_up (v_up (v_cp (v_cp mh (4 * r1 + 6) (4 * r + 6) (jn 0) (jn 0) (jn 12)) (4 * r1 + 7) (4 * r + 7) (jn 0) (jn 0) (jn 12)) r 4 (mh.1 r1 4)) r 5 ((v_up (v_cp (v_cp mh (4 * r1 + 6) (4 * r + 6) (jn 0) (jn 0) (jn 12)) (4 * r1 + 7) (4 * r + 7) (jn 0) (jn 0) (jn 12)) r 4 (mh.1 r1 4)).1 r1 5)) r 6 ((v_up (v_up (v_cp (v_cp mh (4 * r1 + 6) (4 * r + 6) (jn 0) (jn 0) (jn 12)) (4 * r1 + 7) (4 * r + 7) (jn 0) (jn 0) (jn 12)) r 4 (mh.1 r1 4)) r 5 ((v_up (v_cp (v_cp mh (4 * r1 + 6) (4 * r + 6) (jn 0) (jn 0) (jn 12)) (4 * r1 + 7) (4 * r + 7) (jn 0) (jn 0) (jn 12)) r 4 (mh.1 r1 4)).1 r1 5)).1 r1 6)) r 7 ((v_up (v_up (v_up (v_cp (v_cp mh (4 * r1 + 6) (4 * r + 6) (jn 0) (jn 0) (jn 12)) (4 * r1 + 7) (4 * r + 7) (jn 0) (jn 0) (jn 12)) r 4 (mh.1 r1 4)) r 5 ((v_up (v_cp (v_cp mh (4 * r1 + 6) (4 * r + 6) (jn 0) (jn 0) (jn 12)) (4 * r1 + 7) (4 * r + 7) (jn 0) (jn 0) (jn 12)) r 4 (mh.1 r1 4)).1 r1 5)) r 6 ((v_up (v_up (v_cp (v_cp mh (4 * r1 + 6) (4 * r + 6) (jn 0) (jn 0) (jn 12)) (4 * r1 + 7) (4 * r + 7) (jn 0) (jn 0) (jn 12)) r 4 (mh.1 r1 4)) r 5 ((v_up (v_cp (v_cp mh (4 * r1 + 6) (4 * r + 6) (jn 0) (jn 0) (jn 12)) (4 * r1 + 7) (4 * r + 7) (jn 0) (jn 0) (jn 12)) r 4 (mh.1 r1 4)).1 r1 5)).1 r1 6)).1 r1 7)) r 8 ((v_up (v_up (v_up (v_up (v_cp (v_cp mh (4 * r1 + 6) (4 * r + 6) (jn 0) (jn 0) (jn 12)) (4 * r1 + 7) (4 * r + 7) (jn 0) (jn 0) (jn 12)) r 4 (mh.1 r1 4)) r 5 ((v_up (v_cp (v_cp mh (4 * r1 + 6) (4 * r + 6) (jn 0) (jn 0) (jn 12)) (4 * r1 + 7) (4 * r + 7) (jn 0) (jn 0) (jn 12)) r 4 (mh.1 r1 4)).1 r1 5)) r 6 ((v_up (v_up (v_cp (v_cp mh (4 * r1 + 6) (4 * r + 6) (jn 0) (jn 0) (jn 12)) (4 * r1 + 7) (4 * r + 7) (jn 0) (jn 0) (jn 12)) r 4 (mh.1 r1 4)) r 5 ((v_up (v_cp (v_cp mh (4 * r1 + 6) (4 * r + 6) (jn 0) (jn 0) (jn 12)) (4 * r1 + 7) (4 * r + 7) (jn 0) (jn 0) (jn 12)) r 4 (mh.1 r1 4)).1 r1 5)).1 r1 6)) r 7 ((v_up (v_up (v_up (v_cp (v_cp mh (4 * r1 + 6) (4 * r + 6) (jn 0) (jn 0) (jn 12)) (4 * r1 + 7) (4 * r + 7) (jn 0) (jn 0) (jn 12)) r 4 (mh.1 r1 4)) r 5 ((v_up (v_cp (v_cp mh (4 * r1 + 6) (4 * r + 6) (jn 0) (jn 0) (jn 12)) (4 * r1 + 7) (4 * r + 7) (jn 0) (jn 0) (jn 12)) r 4 (mh.1 r1 4)).1 r1 5)) r 6 ((v_up (v_up (v_cp (v_cp mh (4 * r1 + 6) (4 * r + 6) (jn 0) (jn 0) (jn 12)) (4 * r1 + 7) (4 * r + 7) (jn 0) (jn 0) (jn 12)) r 4 (mh.1 r1 4)) r 5 ((v_up (v_cp (v_cp mh (4 * r1 + 6) (4 * r + 6) (jn 0) (jn 0) (jn 12)) (4 * r1 + 7) (4 * r + 7) (jn 0) (jn 0) (jn 12)) r 4 (mh.1 r1 4)).1 r1 5)).1 r1 6)).1 r1 7)).1 r1 8)).1 r1 9)) r 10 ((v_up (v_up (v_up (v_up (v_up (v_up (v_cp (v_cp mh (4 * r1 + 6) (4 * r + 6) (jn 0) (jn 0) (jn 12)) (4 * r1 + 7) (4 * r + 7) (jn 0) (jn 0) (jn 12)) r 4 (mh.1 r1 4)) r 5 ((v_up (v_cp (v_cp mh (4 * r1 + 6) (4 * r + 6) (jn 0) (jn 0) (jn 12)) (4 * r1 + 7) (4 * r + 7) (jn 0) (jn 0) (jn 12)) r 4 (mh.1 r1 4)).1 r1 5)) r 6 ((v_up (v_up (v_cp (v_cp mh (4 * r1 + 6) (4 * r + 6) (jn 0) (jn 0) (jn 12)) (4 * r1 + 7) (4 * r + 7) (jn 0) (jn 0) (jn 12)) r 4 (mh.1 r1 4)) r 5 ((v_up (v_cp (v_cp mh (4 * r1 + 6) (4 * r + 6) (jn 0) (jn 0) (jn 12)) (4 * r1 + 7) (4 * r + 7) (jn 0) (jn 0) (jn 12)) r 4 (mh.1 r1 4)).1 r1 5)).1 r1 6)) r 7 ((v_up (v_up (v_up (v_cp (v_cp mh (4 * r1 + 6) (4 * r + 6) (jn 0) (jn 0) (jn 12)) (4 * r1 + 7) (4 * r + 7) (jn 0) (jn 0) (jn 12)) r 4 (mh.1 r1 4)) r 5 ((v_up (v_cp (v_cp mh (4 * r1 + 6) (4 * r + 6) (jn 0) (jn 0) (jn 12)) (4 * r1 + 7) (4 * r + 7) (jn 0) (jn 0) (jn 12)) r 4 (mh.1 r1 4)).1 r1 5)) r 6 ((v_up (v_up (v_cp (v_cp mh (4 * r1 + 6) (4 * r + 6) (jn 0) (jn 0) (jn 12)) (4 * r1 + 7) (4 * r + 7) (jn 0) (jn 0) (jn 12)) r 4 (mh.1 r1 4)) r 5 ((v_up (v_cp (v_cp mh (4 * r1 + 6) (4 * r + 6) (jn 0) (jn 0) (jn 12)) (4 * r1 + 7) (4 * r + 7) (jn 0) (jn 0) (jn 12)) r 4 (mh.1 r1 4)).1 r1 5)).1 r1 6)).1 r1 7)) r 8 ((v_up (v_up (v_up (v_up (v_cp (v_cp mh (4 * r1 + 6) (4 * r + 6) (jn 0) (jn 0) (jn 12)) (4 * r1 + 7) (4 * r + 7) (jn 0) (jn 0) (jn 12)) r 4 (mh.1 r1 4)) r 5 ((v_up (v_cp (v_cp mh (4 * r1 + 6) (4 * r + 6) (jn 0) (jn 0) (jn 12)) (4 * r1 + 7) (4 * r + 7) (jn 0) (jn 0) (jn 12)) r 4 (mh.1 r1 4)).1 r1 5)) r 6 ((v_up (v_up (v_cp (v_cp mh (4 * r1 + 6) (4 * r + 6) (jn 0) (jn 0) (jn 12)) (4 * r1 + 7) (4 * r + 7) (jn 0) (jn 0) (jn 12)) r 4 (mh.1 r1 4)) r 5 ((v_up (v_cp (v_cp mh (4 * r1 + 6) (4 * r + 6) (jn 0) (jn 0) (jn 12)) (4 * r1 + 7) (4 * r + 7) (jn 0) (jn 0) (jn 12)) r 4 (mh.1 r1 4)).1 r1 5)).1 r1 6)) r 7 ((v_up (v_up (v_up (v_cp (v_cp mh (4 * r1 + 6) (4 * r + 6) (jn 0) (jn 0) (jn 12)) (4 * r1 + 7) (4 * r + 7) (jn 0) (jn 0) (jn 12)) r 4 (mh.1 r1 4)) r 5 ((v_up (v_cp (v_cp mh (4 * r1 + 6) (4 * r + 6) (jn 0) (jn 0) (jn 12)) (4 * r1 + 7) (4 * r + 7) (jn 0) (jn 0) (jn 12)) r 4 (mh.1 r1 4)).1 r1 5)) r 6 ((v_up (v_up (v_cp (v_cp mh (4 * r1 + 6) (4 * r + 6) (jn 0) (jn 0) (jn 12)) (4 * r1 + 7) (4 * r + 7) (jn 0) (jn 0) (jn 12)) r 4 (mh.1 r1 4)) r 5 ((v_up (v_cp (v_cp mh (4 * r1 + 6) (4 * r + 6) (jn 0) (jn 0) (jn 12)) (4 * r1 + 7) (4 * r + 7) (jn 0) (jn 0) (jn 12)) r 4 (mh.1 r1 4)).1 r1 5)).1 r1 6)).1 r1 7)).1 r1 8)) r 9 ((v_up (v_up (v_up (v_up (v_up (v_cp (v_cp mh (4 * r1 + 6) (4 * r + 6) (jn 0) (jn 0) (jn 12)) (4 * r1 + 7) (4 * r + 7) (jn 0) (jn 0) (jn 12)) r 4 (mh.1 r1 4)) r 5 ((v_up (v_cp (v_cp mh (4 * r1 + 6) (4 * r + 6) (jn 0) (jn 0) (jn 12)) (4 * r1 + 7) (4 * r + 7) (jn 0) (jn 0) (jn 12)) r 4 (mh.1 r1 4)).1 r1 5)) r 6 ((v_up (v_up (v_cp (v_cp mh (4 * r1 + 6) (4 * r + 6) (jn 0) (jn 0) (jn 12)) (4 * r1 + 7) (4 * r + 7) (jn 0) (jn 0) (jn 12)) r 4 (mh.1 r1 4)) r 5 ((v_up (v_cp (v_cp mh (4 * r1 + 6) (4 * r + 6) (jn 0) (jn 0) (jn 12)) (4 * r1 + 7) (4 * r + 7) (jn 0) (jn 0) (jn 12)) r 4 (mh.1 r1 4)).1 r1 5)).1 r1 6)) r 7 ((v_up (v_up (v_up (v_cp (v_cp mh (4 * r1 + 6) (4 * r + 6) (jn 0) (jn 0) (jn 12)) (4 * r1 + 7) (4 * r + 7) (jn 0) (jn 0) (jn 12)) r 4 (mh.1 r1 4)) r 5 ((v_up (v_cp (v_cp mh (4 * r1 + 6) (4 * r + 6) (jn 0) (jn 0) (jn 12)) (4 * r1 + 7) (4 * r + 7) (jn 0) (jn 0) (jn 12)) r 4 (mh.1 r1 4)).1 r1 5)) r 6 ((v_up (v_up (v_cp (v_cp mh (4 * r1 + 6) (4 * r + 6) (jn 0) (jn 0) (jn 12)) (4 * r1 + 7) (4 * r + 7) (jn 0) (jn 0) (jn 12)) r 4 (mh.1 r1 4)) r 5 ((v_up (v_cp (v_cp mh (4 * r1 + 6) (4 * r + 6) (jn 0) (jn 0) (jn 12)) (4 * r1 + 7) (4 * r + 7) (jn 0) (jn 0) (jn 12)) r 4 (mh.1 r1 4)).1 r1 5)).1 r1 6)).1 r1 7)) r 8 ((v_up (v_up (v_up (v_up (v_cp (v_cp mh (4 * r1 + 6) (4 * r + 6) (jn 0) (jn 0) (jn 12)) (4 * r1 + 7) (4 * r + 7) (jn 0) (jn 0) (jn 12)) r 4 (mh.1 r1 4)) r 5 ((v_up (v_cp (v_cp mh (4 * r1 + 6) (4 * r + 6) (jn 0) (jn 0) (jn 12)) (4 * r1 + 7) (4 * r + 7) (jn 0) (jn 0) (jn 12)) r 4 (mh.1 r1 4)).1 r1 5)) r 6 ((v_up (v_up (v_cp (v_cp mh (4 * r1 + 6) (4 * r + 6) (jn 0) (jn 0) (jn 12)) (4 * r1 + 7) (4 * r + 7) (jn 0) (jn 0) (jn 12)) r 4 (mh.1 r1 4)) r 5 ((v_up (v_cp (v_cp mh (4 * r1 + 6) (4 * r + 6) (jn 0) (jn 0) (jn 12)) (4 * r1 + 7) (4 * r + 7) (jn 0) (jn 0) (jn 12)) r 4 (mh.1 r1 4)).1 r1 5)).1 r1 6)) r 7 ((v_up (v_up (v_up (v_cp (v_cp mh (4 * r1 + 6) (4 * r + 6) (jn 0) (jn 0) (jn 12)) (4 * r1 + 7) (4 * r + 7) (jn 0) (jn 0) (jn 12)) r 4 (mh.1 r1 4)) r 5 ((v_up (v_cp (v_cp mh (4 * r1 + 6) (4 * r + 6) (jn 0) (jn 0) (jn 12)) (4 * r1 + 7) (4 * r + 7) (jn 0) (jn 0) (jn 12)) r 4 (mh.1 r1 4)).1 r1 5)) r 6 ((v_up (v_up (v_cp (v_cp mh (4 * r1 + 6) (4 * r + 6) (jn 0) (jn 0) (jn 12)) (4 * r1 + 7) (4 * r + 7) (jn 0) (jn 0) (jn 12)) r 4 (mh.1 r1 4)) r 5 ((v_up (v_cp (v_cp mh (4 * r1 + 6) (4 * r + 6) (jn 0) (jn 0) (jn 12)) (4 * r1 + 7) (4 * r + 7) (jn 0) (jn 0) (jn 12)) r 4 (mh.1 r1 4)).1 r1 5)).1 r1 6)).1 r1 7)).1 r1 8)).1 r1 9)).1 r1 10))
set_option maxRecDepth 100000 in
set_option maxHeartbeats 8000000 in
theorem c_X0_layAs (d : Nat) {r : Nat} (hr : isF r) {r1 : Nat} (hr1 : isF r1) (mh : vMH) : MC LC (d + 1) yX0_layAs cX0_layAs 2 none [.ref r, .ref r1] mh none (X0_layAs r r1 mh) := by
  refine MC_of 0 (by decide) rfl (fun X C hG => ?_)
  replace C : Cx X (d + 1) 2 cX0_layAs RX0 none := C
  show Vw LC X (d + 1) 2 0 [some (.ref r), some (.ref r1)] [] mh
  obtain ⟨res, h⟩ : ∃ res, X0_layAs r r1 mh = res := ⟨_, rfl⟩
  rw [h] at hG
  unfold X0_layAs at h
  refine V_aload_n (pc := 0) C dX0_layAs_0 rfl rfl ?_
  refine V_getR (pc := 1) C (r' := (4 * r1 + 6)) CF0 fl_X0_15 (LO_F hr1) (by decide) rfl dX0_layAs_1 ?_
  refine V_iconst (pc := 4) C (v := 0) dX0_layAs_4 (by decide) ?_
  refine V_aload_n (pc := 5) C dX0_layAs_5 rfl rfl ?_
  refine V_getR (pc := 6) C (r' := (4 * r + 6)) CF0 fl_X0_15 (LO_F hr) (by decide) rfl dX0_layAs_6 ?_
  refine V_iconst (pc := 9) C (v := 0) dX0_layAs_9 (by decide) ?_
  refine V_bipush (pc := 10) C (v := 12) dX0_layAs_10 (by decide) ?_
  refine V_copy (pc := 12) C ml_X0_56 (LA_F1 hr1) (LA_F1 hr) (show inc 0 0 12 12 12 by decide) (Nat.le_of_ble_eq_true rfl) dX0_layAs_12 ?_
  refine V_aload_n (pc := 15) C dX0_layAs_15 rfl rfl ?_
  refine V_getR (pc := 16) C (r' := (4 * r1 + 7)) CF0 fl_X0_18 (LO_F hr1) (by decide) rfl dX0_layAs_16 ?_
  refine V_iconst (pc := 19) C (v := 0) dX0_layAs_19 (by decide) ?_
  refine V_aload_n (pc := 20) C dX0_layAs_20 rfl rfl ?_
  refine V_getR (pc := 21) C (r' := (4 * r + 7)) CF0 fl_X0_18 (LO_F hr) (by decide) rfl dX0_layAs_21 ?_
  refine V_iconst (pc := 24) C (v := 0) dX0_layAs_24 (by decide) ?_
  refine V_bipush (pc := 25) C (v := 12) dX0_layAs_25 (by decide) ?_
  refine V_copy (pc := 27) C ml_X0_56 (LA_F2 hr1) (LA_F2 hr) (show inc 0 0 12 12 12 by decide) (Nat.le_of_ble_eq_true rfl) dX0_layAs_27 ?_
  refine V_aload_n (pc := 30) C dX0_layAs_30 rfl rfl ?_
  refine V_aload_n (pc := 31) C dX0_layAs_31 rfl rfl ?_
  refine V_getI (pc := 32) C CF0 fl_X0_24 (LO_F hr1) (by decide) rfl dX0_layAs_32 (v := (mh.1 r1 4)) ((rd_oc (LO_F hr1) (LA_F2 hr)).trans (rd_oc (LO_F hr1) (LA_F1 hr))) ?_
  refine V_putI (pc := 35) C CF0 fl_X0_24 (LO_F hr) (by decide) rfl rfl rfl dX0_layAs_35 ?_
  refine V_aload_n (pc := 38) C dX0_layAs_38 rfl rfl ?_
  refine V_aload_n (pc := 39) C dX0_layAs_39 rfl rfl ?_
  refine V_getI (pc := 40) C CF0 fl_X0_28 (LO_F hr1) (by decide) rfl dX0_layAs_40 (v := ((v_up (v_cp (v_cp mh (4 * r1 + 6) (4 * r + 6) (jn 0) (jn 0) (jn 12)) (4 * r1 + 7) (4 * r + 7) (jn 0) (jn 0) (jn 12)) r 4 (mh.1 r1 4)).1 r1 5)) rfl ?_
  refine V_putI (pc := 43) C CF0 fl_X0_28 (LO_F hr) (by decide) rfl rfl rfl dX0_layAs_43 ?_
  refine V_aload_n (pc := 46) C dX0_layAs_46 rfl rfl ?_
  refine V_aload_n (pc := 47) C dX0_layAs_47 rfl rfl ?_
  refine V_getI (pc := 48) C CF0 fl_X0_31 (LO_F hr1) (by decide) rfl dX0_layAs_48 (v := ((v_up (v_up (v_cp (v_cp mh (4 * r1 + 6) (4 * r + 6) (jn 0) (jn 0) (jn 12)) (4 * r1 + 7) (4 * r + 7) (jn 0) (jn 0) (jn 12)) r 4 (mh.1 r1 4)) r 5 ((v_up (v_cp (v_cp mh (4 * r1 + 6) (4 * r + 6) (jn 0) (jn 0) (jn 12)) (4 * r1 + 7) (4 * r + 7) (jn 0) (jn 0) (jn 12)) r 4 (mh.1 r1 4)).1 r1 5)).1 r1 6)) rfl ?_
  refine V_putI (pc := 51) C CF0 fl_X0_31 (LO_F hr) (by decide) rfl rfl rfl dX0_layAs_51 ?_
  refine V_aload_n (pc := 54) C dX0_layAs_54 rfl rfl ?_
  refine V_aload_n (pc := 55) C dX0_layAs_55 rfl rfl ?_
  refine V_getI (pc := 56) C CF0 fl_X0_34 (LO_F hr1) (by decide) rfl dX0_layAs_56 (v := ((v_up (v_up (v_up (v_cp (v_cp mh (4 * r1 + 6) (4 * r + 6) (jn 0) (jn 0) (jn 12)) (4 * r1 + 7) (4 * r + 7) (jn 0) (jn 0) (jn 12)) r 4 (mh.1 r1 4)) r 5 ((v_up (v_cp (v_cp mh (4 * r1 + 6) (4 * r + 6) (jn 0) (jn 0) (jn 12)) (4 * r1 + 7) (4 * r + 7) (jn 0) (jn 0) (jn 12)) r 4 (mh.1 r1 4)).1 r1 5)) r 6 ((v_up (v_up (v_cp (v_cp mh (4 * r1 + 6) (4 * r + 6) (jn 0) (jn 0) (jn 12)) (4 * r1 + 7) (4 * r + 7) (jn 0) (jn 0) (jn 12)) r 4 (mh.1 r1 4)) r 5 ((v_up (v_cp (v_cp mh (4 * r1 + 6) (4 * r + 6) (jn 0) (jn 0) (jn 12)) (4 * r1 + 7) (4 * r + 7) (jn 0) (jn 0) (jn 12)) r 4 (mh.1 r1 4)).1 r1 5)).1 r1 6)).1 r1 7)) rfl ?_
  refine V_putI (pc := 59) C CF0 fl_X0_34 (LO_F hr) (by decide) rfl rfl rfl dX0_layAs_59 ?_
  refine V_aload_n (pc := 62) C dX0_layAs_62 rfl rfl ?_
  refine V_aload_n (pc := 63) C dX0_layAs_63 rfl rfl ?_
  refine V_getI (pc := 64) C CF0 fl_X0_37 (LO_F hr1) (by decide) rfl dX0_layAs_64 (v := ((v_up (v_up (v_up (v_up (v_cp (v_cp mh (4 * r1 + 6) (4 * r + 6) (jn 0) (jn 0) (jn 12)) (4 * r1 + 7) (4 * r + 7) (jn 0) (jn 0) (jn 12)) r 4 (mh.1 r1 4)) r 5 ((v_up (v_cp (v_cp mh (4 * r1 + 6) (4 * r + 6) (jn 0) (jn 0) (jn 12)) (4 * r1 + 7) (4 * r + 7) (jn 0) (jn 0) (jn 12)) r 4 (mh.1 r1 4)).1 r1 5)) r 6 ((v_up (v_up (v_cp (v_cp mh (4 * r1 + 6) (4 * r + 6) (jn 0) (jn 0) (jn 12)) (4 * r1 + 7) (4 * r + 7) (jn 0) (jn 0) (jn 12)) r 4 (mh.1 r1 4)) r 5 ((v_up (v_cp (v_cp mh (4 * r1 + 6) (4 * r + 6) (jn 0) (jn 0) (jn 12)) (4 * r1 + 7) (4 * r + 7) (jn 0) (jn 0) (jn 12)) r 4 (mh.1 r1 4)).1 r1 5)).1 r1 6)) r 7 ((v_up (v_up (v_up (v_cp (v_cp mh (4 * r1 + 6) (4 * r + 6) (jn 0) (jn 0) (jn 12)) (4 * r1 + 7) (4 * r + 7) (jn 0) (jn 0) (jn 12)) r 4 (mh.1 r1 4)) r 5 ((v_up (v_cp (v_cp mh (4 * r1 + 6) (4 * r + 6) (jn 0) (jn 0) (jn 12)) (4 * r1 + 7) (4 * r + 7) (jn 0) (jn 0) (jn 12)) r 4 (mh.1 r1 4)).1 r1 5)) r 6 ((v_up (v_up (v_cp (v_cp mh (4 * r1 + 6) (4 * r + 6) (jn 0) (jn 0) (jn 12)) (4 * r1 + 7) (4 * r + 7) (jn 0) (jn 0) (jn 12)) r 4 (mh.1 r1 4)) r 5 ((v_up (v_cp (v_cp mh (4 * r1 + 6) (4 * r + 6) (jn 0) (jn 0) (jn 12)) (4 * r1 + 7) (4 * r + 7) (jn 0) (jn 0) (jn 12)) r 4 (mh.1 r1 4)).1 r1 5)).1 r1 6)).1 r1 7)).1 r1 8)) rfl ?_
  refine V_putI (pc := 67) C CF0 fl_X0_37 (LO_F hr) (by decide) rfl rfl rfl dX0_layAs_67 ?_
  refine V_aload_n (pc := 70) C dX0_layAs_70 rfl rfl ?_
  refine V_aload_n (pc := 71) C dX0_layAs_71 rfl rfl ?_
  refine V_getI (pc := 72) C CF0 fl_X0_40 (LO_F hr1) (by decide) rfl dX0_layAs_72 (v := ((v_up (v_up (v_up (v_up (v_up (v_cp (v_cp mh (4 * r1 + 6) (4 * r + 6) (jn 0) (jn 0) (jn 12)) (4 * r1 + 7) (4 * r + 7) (jn 0) (jn 0) (jn 12)) r 4 (mh.1 r1 4)) r 5 ((v_up (v_cp (v_cp mh (4 * r1 + 6) (4 * r + 6) (jn 0) (jn 0) (jn 12)) (4 * r1 + 7) (4 * r + 7) (jn 0) (jn 0) (jn 12)) r 4 (mh.1 r1 4)).1 r1 5)) r 6 ((v_up (v_up (v_cp (v_cp mh (4 * r1 + 6) (4 * r + 6) (jn 0) (jn 0) (jn 12)) (4 * r1 + 7) (4 * r + 7) (jn 0) (jn 0) (jn 12)) r 4 (mh.1 r1 4)) r 5 ((v_up (v_cp (v_cp mh (4 * r1 + 6) (4 * r + 6) (jn 0) (jn 0) (jn 12)) (4 * r1 + 7) (4 * r + 7) (jn 0) (jn 0) (jn 12)) r 4 (mh.1 r1 4)).1 r1 5)).1 r1 6)) r 7 ((v_up (v_up (v_up (v_cp (v_cp mh (4 * r1 + 6) (4 * r + 6) (jn 0) (jn 0) (jn 12)) (4 * r1 + 7) (4 * r + 7) (jn 0) (jn 0) (jn 12)) r 4 (mh.1 r1 4)) r 5 ((v_up (v_cp (v_cp mh (4 * r1 + 6) (4 * r + 6) (jn 0) (jn 0) (jn 12)) (4 * r1 + 7) (4 * r + 7) (jn 0) (jn 0) (jn 12)) r 4 (mh.1 r1 4)).1 r1 5)) r 6 ((v_up (v_up (v_cp (v_cp mh (4 * r1 + 6) (4 * r + 6) (jn 0) (jn 0) (jn 12)) (4 * r1 + 7) (4 * r + 7) (jn 0) (jn 0) (jn 12)) r 4 (mh.1 r1 4)) r 5 ((v_up (v_cp (v_cp mh (4 * r1 + 6) (4 * r + 6) (jn 0) (jn 0) (jn 12)) (4 * r1 + 7) (4 * r + 7) (jn 0) (jn 0) (jn 12)) r 4 (mh.1 r1 4)).1 r1 5)).1 r1 6)).1 r1 7)) r 8 ((v_up (v_up (v_up (v_up (v_cp (v_cp mh (4 * r1 + 6) (4 * r + 6) (jn 0) (jn 0) (jn 12)) (4 * r1 + 7) (4 * r + 7) (jn 0) (jn 0) (jn 12)) r 4 (mh.1 r1 4)) r 5 ((v_up (v_cp (v_cp mh (4 * r1 + 6) (4 * r + 6) (jn 0) (jn 0) (jn 12)) (4 * r1 + 7) (4 * r + 7) (jn 0) (jn 0) (jn 12)) r 4 (mh.1 r1 4)).1 r1 5)) r 6 ((v_up (v_up (v_cp (v_cp mh (4 * r1 + 6) (4 * r + 6) (jn 0) (jn 0) (jn 12)) (4 * r1 + 7) (4 * r + 7) (jn 0) (jn 0) (jn 12)) r 4 (mh.1 r1 4)) r 5 ((v_up (v_cp (v_cp mh (4 * r1 + 6) (4 * r + 6) (jn 0) (jn 0) (jn 12)) (4 * r1 + 7) (4 * r + 7) (jn 0) (jn 0) (jn 12)) r 4 (mh.1 r1 4)).1 r1 5)).1 r1 6)) r 7 ((v_up (v_up (v_up (v_cp (v_cp mh (4 * r1 + 6) (4 * r + 6) (jn 0) (jn 0) (jn 12)) (4 * r1 + 7) (4 * r + 7) (jn 0) (jn 0) (jn 12)) r 4 (mh.1 r1 4)) r 5 ((v_up (v_cp (v_cp mh (4 * r1 + 6) (4 * r + 6) (jn 0) (jn 0) (jn 12)) (4 * r1 + 7) (4 * r + 7) (jn 0) (jn 0) (jn 12)) r 4 (mh.1 r1 4)).1 r1 5)) r 6 ((v_up (v_up (v_cp (v_cp mh (4 * r1 + 6) (4 * r + 6) (jn 0) (jn 0) (jn 12)) (4 * r1 + 7) (4 * r + 7) (jn 0) (jn 0) (jn 12)) r 4 (mh.1 r1 4)) r 5 ((v_up (v_cp (v_cp mh (4 * r1 + 6) (4 * r + 6) (jn 0) (jn 0) (jn 12)) (4 * r1 + 7) (4 * r + 7) (jn 0) (jn 0) (jn 12)) r 4 (mh.1 r1 4)).1 r1 5)).1 r1 6)).1 r1 7)).1 r1 8)).1 r1 9)) rfl ?_
  refine V_putI (pc := 75) C CF0 fl_X0_40 (LO_F hr) (by decide) rfl rfl rfl dX0_layAs_75 ?_
  refine V_aload_n (pc := 78) C dX0_layAs_78 rfl rfl ?_
  refine V_aload_n (pc := 79) C dX0_layAs_79 rfl rfl ?_
  refine V_getI (pc := 80) C CF0 fl_X0_43 (LO_F hr1) (by decide) rfl dX0_layAs_80 (v := ((v_up (v_up (v_up (v_up (v_up (v_up (v_cp (v_cp mh (4 * r1 + 6) (4 * r + 6) (jn 0) (jn 0) (jn 12)) (4 * r1 + 7) (4 * r + 7) (jn 0) (jn 0) (jn 12)) r 4 (mh.1 r1 4)) r 5 ((v_up (v_cp (v_cp mh (4 * r1 + 6) (4 * r + 6) (jn 0) (jn 0) (jn 12)) (4 * r1 + 7) (4 * r + 7) (jn 0) (jn 0) (jn 12)) r 4 (mh.1 r1 4)).1 r1 5)) r 6 ((v_up (v_up (v_cp (v_cp mh (4 * r1 + 6) (4 * r + 6) (jn 0) (jn 0) (jn 12)) (4 * r1 + 7) (4 * r + 7) (jn 0) (jn 0) (jn 12)) r 4 (mh.1 r1 4)) r 5 ((v_up (v_cp (v_cp mh (4 * r1 + 6) (4 * r + 6) (jn 0) (jn 0) (jn 12)) (4 * r1 + 7) (4 * r + 7) (jn 0) (jn 0) (jn 12)) r 4 (mh.1 r1 4)).1 r1 5)).1 r1 6)) r 7 ((v_up (v_up (v_up (v_cp (v_cp mh (4 * r1 + 6) (4 * r + 6) (jn 0) (jn 0) (jn 12)) (4 * r1 + 7) (4 * r + 7) (jn 0) (jn 0) (jn 12)) r 4 (mh.1 r1 4)) r 5 ((v_up (v_cp (v_cp mh (4 * r1 + 6) (4 * r + 6) (jn 0) (jn 0) (jn 12)) (4 * r1 + 7) (4 * r + 7) (jn 0) (jn 0) (jn 12)) r 4 (mh.1 r1 4)).1 r1 5)) r 6 ((v_up (v_up (v_cp (v_cp mh (4 * r1 + 6) (4 * r + 6) (jn 0) (jn 0) (jn 12)) (4 * r1 + 7) (4 * r + 7) (jn 0) (jn 0) (jn 12)) r 4 (mh.1 r1 4)) r 5 ((v_up (v_cp (v_cp mh (4 * r1 + 6) (4 * r + 6) (jn 0) (jn 0) (jn 12)) (4 * r1 + 7) (4 * r + 7) (jn 0) (jn 0) (jn 12)) r 4 (mh.1 r1 4)).1 r1 5)).1 r1 6)).1 r1 7)) r 8 ((v_up (v_up (v_up (v_up (v_cp (v_cp mh (4 * r1 + 6) (4 * r + 6) (jn 0) (jn 0) (jn 12)) (4 * r1 + 7) (4 * r + 7) (jn 0) (jn 0) (jn 12)) r 4 (mh.1 r1 4)) r 5 ((v_up (v_cp (v_cp mh (4 * r1 + 6) (4 * r + 6) (jn 0) (jn 0) (jn 12)) (4 * r1 + 7) (4 * r + 7) (jn 0) (jn 0) (jn 12)) r 4 (mh.1 r1 4)).1 r1 5)) r 6 ((v_up (v_up (v_cp (v_cp mh (4 * r1 + 6) (4 * r + 6) (jn 0) (jn 0) (jn 12)) (4 * r1 + 7) (4 * r + 7) (jn 0) (jn 0) (jn 12)) r 4 (mh.1 r1 4)) r 5 ((v_up (v_cp (v_cp mh (4 * r1 + 6) (4 * r + 6) (jn 0) (jn 0) (jn 12)) (4 * r1 + 7) (4 * r + 7) (jn 0) (jn 0) (jn 12)) r 4 (mh.1 r1 4)).1 r1 5)).1 r1 6)) r 7 ((v_up (v_up (v_up (v_cp (v_cp mh (4 * r1 + 6) (4 * r + 6) (jn 0) (jn 0) (jn 12)) (4 * r1 + 7) (4 * r + 7) (jn 0) (jn 0) (jn 12)) r 4 (mh.1 r1 4)) r 5 ((v_up (v_cp (v_cp mh (4 * r1 + 6) (4 * r + 6) (jn 0) (jn 0) (jn 12)) (4 * r1 + 7) (4 * r + 7) (jn 0) (jn 0) (jn 12)) r 4 (mh.1 r1 4)).1 r1 5)) r 6 ((v_up (v_up (v_cp (v_cp mh (4 * r1 + 6) (4 * r + 6) (jn 0) (jn 0) (jn 12)) (4 * r1 + 7) (4 * r + 7) (jn 0) (jn 0) (jn 12)) r 4 (mh.1 r1 4)) r 5 ((v_up (v_cp (v_cp mh (4 * r1 + 6) (4 * r + 6) (jn 0) (jn 0) (jn 12)) (4 * r1 + 7) (4 * r + 7) (jn 0) (jn 0) (jn 12)) r 4 (mh.1 r1 4)).1 r1 5)).1 r1 6)).1 r1 7)).1 r1 8)) r 9 ((v_up (v_up (v_up (v_up (v_up (v_cp (v_cp mh (4 * r1 + 6) (4 * r + 6) (jn 0) (jn 0) (jn 12)) (4 * r1 + 7) (4 * r + 7) (jn 0) (jn 0) (jn 12)) r 4 (mh.1 r1 4)) r 5 ((v_up (v_cp (v_cp mh (4 * r1 + 6) (4 * r + 6) (jn 0) (jn 0) (jn 12)) (4 * r1 + 7) (4 * r + 7) (jn 0) (jn 0) (jn 12)) r 4 (mh.1 r1 4)).1 r1 5)) r 6 ((v_up (v_up (v_cp (v_cp mh (4 * r1 + 6) (4 * r + 6) (jn 0) (jn 0) (jn 12)) (4 * r1 + 7) (4 * r + 7) (jn 0) (jn 0) (jn 12)) r 4 (mh.1 r1 4)) r 5 ((v_up (v_cp (v_cp mh (4 * r1 + 6) (4 * r + 6) (jn 0) (jn 0) (jn 12)) (4 * r1 + 7) (4 * r + 7) (jn 0) (jn 0) (jn 12)) r 4 (mh.1 r1 4)).1 r1 5)).1 r1 6)) r 7 ((v_up (v_up (v_up (v_cp (v_cp mh (4 * r1 + 6) (4 * r + 6) (jn 0) (jn 0) (jn 12)) (4 * r1 + 7) (4 * r + 7) (jn 0) (jn 0) (jn 12)) r 4 (mh.1 r1 4)) r 5 ((v_up (v_cp (v_cp mh (4 * r1 + 6) (4 * r + 6) (jn 0) (jn 0) (jn 12)) (4 * r1 + 7) (4 * r + 7) (jn 0) (jn 0) (jn 12)) r 4 (mh.1 r1 4)).1 r1 5)) r 6 ((v_up (v_up (v_cp (v_cp mh (4 * r1 + 6) (4 * r + 6) (jn 0) (jn 0) (jn 12)) (4 * r1 + 7) (4 * r + 7) (jn 0) (jn 0) (jn 12)) r 4 (mh.1 r1 4)) r 5 ((v_up (v_cp (v_cp mh (4 * r1 + 6) (4 * r + 6) (jn 0) (jn 0) (jn 12)) (4 * r1 + 7) (4 * r + 7) (jn 0) (jn 0) (jn 12)) r 4 (mh.1 r1 4)).1 r1 5)).1 r1 6)).1 r1 7)) r 8 ((v_up (v_up (v_up (v_up (v_cp (v_cp mh (4 * r1 + 6) (4 * r + 6) (jn 0) (jn 0) (jn 12)) (4 * r1 + 7) (4 * r + 7) (jn 0) (jn 0) (jn 12)) r 4 (mh.1 r1 4)) r 5 ((v_up (v_cp (v_cp mh (4 * r1 + 6) (4 * r + 6) (jn 0) (jn 0) (jn 12)) (4 * r1 + 7) (4 * r + 7) (jn 0) (jn 0) (jn 12)) r 4 (mh.1 r1 4)).1 r1 5)) r 6 ((v_up (v_up (v_cp (v_cp mh (4 * r1 + 6) (4 * r + 6) (jn 0) (jn 0) (jn 12)) (4 * r1 + 7) (4 * r + 7) (jn 0) (jn 0) (jn 12)) r 4 (mh.1 r1 4)) r 5 ((v_up (v_cp (v_cp mh (4 * r1 + 6) (4 * r + 6) (jn 0) (jn 0) (jn 12)) (4 * r1 + 7) (4 * r + 7) (jn 0) (jn 0) (jn 12)) r 4 (mh.1 r1 4)).1 r1 5)).1 r1 6)) r 7 ((v_up (v_up (v_up (v_cp (v_cp mh (4 * r1 + 6) (4 * r + 6) (jn 0) (jn 0) (jn 12)) (4 * r1 + 7) (4 * r + 7) (jn 0) (jn 0) (jn 12)) r 4 (mh.1 r1 4)) r 5 ((v_up (v_cp (v_cp mh (4 * r1 + 6) (4 * r + 6) (jn 0) (jn 0) (jn 12)) (4 * r1 + 7) (4 * r + 7) (jn 0) (jn 0) (jn 12)) r 4 (mh.1 r1 4)).1 r1 5)) r 6 ((v_up (v_up (v_cp (v_cp mh (4 * r1 + 6) (4 * r + 6) (jn 0) (jn 0) (jn 12)) (4 * r1 + 7) (4 * r + 7) (jn 0) (jn 0) (jn 12)) r 4 (mh.1 r1 4)) r 5 ((v_up (v_cp (v_cp mh (4 * r1 + 6) (4 * r + 6) (jn 0) (jn 0) (jn 12)) (4 * r1 + 7) (4 * r + 7) (jn 0) (jn 0) (jn 12)) r 4 (mh.1 r1 4)).1 r1 5)).1 r1 6)).1 r1 7)).1 r1 8)).1 r1 9)).1 r1 10)) rfl ?_
  refine V_putI (pc := 83) C CF0 fl_X0_43 (LO_F hr) (by decide) rfl rfl rfl dX0_layAs_83 ?_
  exact V_ret0 (pc := 86) C (gdtv h hG) dX0_layAs_86
def X0_become (r : Nat) (r1 : Nat) (mh : vMH) : vMH := (v_cp (v_cp (X0_layAs r r1 mh) (4 * r1 + 5) (4 * r + 5) (jn 0) (jn 0) (jn 12)) (4 * r1 + 8) (4 * r + 8) (jn 0) (jn 0) (jn 12))
set_option maxRecDepth 100000 in
set_option maxHeartbeats 8000000 in
theorem c_X0_become (d : Nat) {r : Nat} (hr : isF r) {r1 : Nat} (hr1 : isF r1) (mh : vMH) : MC LC (d + 2) yX0_become cX0_become 2 none [.ref r, .ref r1] mh none (X0_become r r1 mh) := by
  refine MC_of 0 (by decide) rfl (fun X C hG => ?_)
  replace C : Cx X (d + 2) 2 cX0_become RX0 none := C
  show Vw LC X (d + 2) 2 0 [some (.ref r), some (.ref r1)] [] mh
  obtain ⟨res, h⟩ : ∃ res, X0_become r r1 mh = res := ⟨_, rfl⟩
  rw [h] at hG
  unfold X0_become at h
  refine V_aload_n (pc := 0) C dX0_become_0 rfl rfl ?_
  refine V_aload_n (pc := 1) C dX0_become_1 rfl rfl ?_
  refine V_callVv (pc := 2) (rest := []) C cs_X0_62 (c_X0_layAs (d + 0) hr hr1 mh) CF0.1 (LO_F hr) (by omega) (by decide) rfl rfl (Nat.le_of_ble_eq_true rfl) dX0_become_2 ?_
  refine V_aload_n (pc := 5) C dX0_become_5 rfl rfl ?_
  refine V_getR (pc := 6) C (r' := (4 * r1 + 5)) CF0 fl_X0_9 (LO_F hr1) (by decide) rfl dX0_become_6 ?_
  refine V_iconst (pc := 9) C (v := 0) dX0_become_9 (by decide) ?_
  refine V_aload_n (pc := 10) C dX0_become_10 rfl rfl ?_
  refine V_getR (pc := 11) C (r' := (4 * r + 5)) CF0 fl_X0_9 (LO_F hr) (by decide) rfl dX0_become_11 ?_
  refine V_iconst (pc := 14) C (v := 0) dX0_become_14 (by decide) ?_
  refine V_bipush (pc := 15) C (v := 12) dX0_become_15 (by decide) ?_
  refine V_copy (pc := 17) C ml_X0_56 (LA_F0 hr1) (LA_F0 hr) (show inc 0 0 12 12 12 by decide) (Nat.le_of_ble_eq_true rfl) dX0_become_17 ?_
  refine V_aload_n (pc := 20) C dX0_become_20 rfl rfl ?_
  refine V_getR (pc := 21) C (r' := (4 * r1 + 8)) CF0 fl_X0_21 (LO_F hr1) (by decide) rfl dX0_become_21 ?_
  refine V_iconst (pc := 24) C (v := 0) dX0_become_24 (by decide) ?_
  refine V_aload_n (pc := 25) C dX0_become_25 rfl rfl ?_
  refine V_getR (pc := 26) C (r' := (4 * r + 8)) CF0 fl_X0_21 (LO_F hr) (by decide) rfl dX0_become_26 ?_
  refine V_iconst (pc := 29) C (v := 0) dX0_become_29 (by decide) ?_
  refine V_bipush (pc := 30) C (v := 12) dX0_become_30 (by decide) ?_
  refine V_copy (pc := 32) C ml_X0_56 (LA_F3 hr1) (LA_F3 hr) (show inc 0 0 12 12 12 by decide) (Nat.le_of_ble_eq_true rfl) dX0_become_32 ?_
  exact V_ret0 (pc := 35) C (gdtv h hG) dX0_become_35
def X5_loudOf (v0 : Int32) (v1 : Int32) (v2 : Int32) (v3 : Int32) (v4 : Int32) : Int32 := (if v0 = 1 then (((((10 * v1) + (5 * v3)) + (2 * v4)) - (6 * v2)) + 8) else (if v0 = 2 then (((((10 * v1) + (5 * v3)) + (2 * v4)) - (6 * v2)) - (5 * v4)) else (if v0 = 3 then ((((((10 * v1) + (5 * v3)) + (2 * v4)) - (6 * v2)) + 8) / 2) else (if v0 = 5 then (2 * (((((10 * v1) + (5 * v3)) + (2 * v4)) - (6 * v2)) + 8)) else ((((10 * v1) + (5 * v3)) + (2 * v4)) - (6 * v2))))))
set_option maxRecDepth 100000 in
set_option maxHeartbeats 8000000 in
theorem c_X5_loudOf (d : Nat) (v0 : Int32) (v1 : Int32) (v2 : Int32) (v3 : Int32) (v4 : Int32) (mh : vMH) : MC LC (d + 0) yX5_loudOf cX5_loudOf 7 (some .int) [.int v0, .int v1, .int v2, .int v3, .int v4] mh (some (.int (X5_loudOf v0 v1 v2 v3 v4))) mh := by
  refine MC_of 2 (by decide) rfl (fun X C hG => ?_)
  replace C : Cx X (d + 0) 7 cX5_loudOf RX5 (some .int) := C
  show Vw LC X (d + 0) 7 0 [some (.int v0), some (.int v1), some (.int v2), some (.int v3), some (.int v4), none, none] [] mh
  obtain ⟨res, h⟩ : ∃ res, X5_loudOf v0 v1 v2 v3 v4 = res := ⟨_, rfl⟩
  rw [h] at hG
  unfold X5_loudOf at h
  refine V_bipush (pc := 0) C (v := 10) dX5_loudOf_0 (by decide) ?_
  refine V_iload_n (pc := 2) C dX5_loudOf_2 rfl rfl ?_
  refine V_imul (pc := 3) C dX5_loudOf_3 ?_
  refine V_iconst (pc := 4) C (v := 5) dX5_loudOf_4 (by decide) ?_
  refine V_iload_n (pc := 5) C dX5_loudOf_5 rfl rfl ?_
  refine V_imul (pc := 6) C dX5_loudOf_6 ?_
  refine V_iadd (pc := 7) C dX5_loudOf_7 ?_
  refine V_iconst (pc := 8) C (v := 2) dX5_loudOf_8 (by decide) ?_
  refine V_iload (pc := 9) C dX5_loudOf_9 rfl ?_
  refine V_imul (pc := 11) C dX5_loudOf_11 ?_
  refine V_iadd (pc := 12) C dX5_loudOf_12 ?_
  refine V_bipush (pc := 13) C (v := 6) dX5_loudOf_13 (by decide) ?_
  refine V_iload_n (pc := 15) C dX5_loudOf_15 rfl rfl ?_
  refine V_imul (pc := 16) C dX5_loudOf_16 ?_
  refine V_isub (pc := 17) C dX5_loudOf_17 ?_
  refine V_istore (pc := 18) C (lv' := [some (.int v0), some (.int v1), some (.int v2), some (.int v3), some (.int v4), some (.int ((((10 * v1) + (5 * v3)) + (2 * v4)) - (6 * v2))), none]) dX5_loudOf_18 (by decide) (Nat.le_of_ble_eq_true rfl) rfl rfl ?_
  refine V_iload (pc := 20) C dX5_loudOf_20 rfl ?_
  refine V_bipush (pc := 22) C (v := 8) dX5_loudOf_22 (by decide) ?_
  refine V_iadd (pc := 24) C dX5_loudOf_24 ?_
  refine V_istore (pc := 25) C (lv' := [some (.int v0), some (.int v1), some (.int v2), some (.int v3), some (.int v4), some (.int ((((10 * v1) + (5 * v3)) + (2 * v4)) - (6 * v2))), some (.int (((((10 * v1) + (5 * v3)) + (2 * v4)) - (6 * v2)) + 8))]) dX5_loudOf_25 (by decide) (Nat.le_of_ble_eq_true rfl) rfl rfl ?_
  refine V_iload_n (pc := 27) C dX5_loudOf_27 rfl rfl ?_
  by_cases hc1 : v0 = 1
  · have h := it_t h hc1
    refine V_tab (pc := 28) (tgt := 64) C dX5_loudOf_28 (by decide) (v_tgt_k hc1 (by decide)) ?_
    refine V_iload (pc := 64) C dX5_loudOf_64 rfl ?_
    exact V_iret (pc := 66) C (gdt h hG) dX5_loudOf_66
  · have h := it_f h hc1
    by_cases hc2 : v0 = 2
    · have h := it_t h hc2
      refine V_tab (pc := 28) (tgt := 67) C dX5_loudOf_28 (by decide) (v_tgt_k hc2 (by decide)) ?_
      refine V_iload (pc := 67) C dX5_loudOf_67 rfl ?_
      refine V_iconst (pc := 69) C (v := 5) dX5_loudOf_69 (by decide) ?_
      refine V_iload (pc := 70) C dX5_loudOf_70 rfl ?_
      refine V_imul (pc := 72) C dX5_loudOf_72 ?_
      refine V_isub (pc := 73) C dX5_loudOf_73 ?_
      exact V_iret (pc := 74) C (gdt h hG) dX5_loudOf_74
    · have h := it_f h hc2
      by_cases hc3 : v0 = 3
      · have h := it_t h hc3
        refine V_tab (pc := 28) (tgt := 75) C dX5_loudOf_28 (by decide) (v_tgt_k hc3 (by decide)) ?_
        refine V_iload (pc := 75) C dX5_loudOf_75 rfl ?_
        refine V_iconst (pc := 77) C (v := 2) dX5_loudOf_77 (by decide) ?_
        refine V_idiv (pc := 78) C dX5_loudOf_78 (by decide) ?_
        exact V_iret (pc := 79) C (gdt h hG) dX5_loudOf_79
      · have h := it_f h hc3
        by_cases hc4 : v0 = 5
        · have h := it_t h hc4
          refine V_tab (pc := 28) (tgt := 80) C dX5_loudOf_28 (by decide) (v_tgt_k hc4 (by decide)) ?_
          refine V_iconst (pc := 80) C (v := 2) dX5_loudOf_80 (by decide) ?_
          refine V_iload (pc := 81) C dX5_loudOf_81 rfl ?_
          refine V_imul (pc := 83) C dX5_loudOf_83 ?_
          exact V_iret (pc := 84) C (gdt h hG) dX5_loudOf_84
        · have h := it_f h hc4
          refine V_tab (pc := 28) (tgt := 85) C dX5_loudOf_28 (by decide) (v_tgt_d ⟨.inr (fun e => hc1 (e.trans (by decide))), .inr (fun e => hc2 (e.trans (by decide))), .inr (fun e => hc3 (e.trans (by decide))), .inl rfl, .inr (fun e => hc4 (e.trans (by decide))), trivial⟩ (by decide)) ?_
          refine V_iload (pc := 85) C dX5_loudOf_85 rfl ?_
          exact V_iret (pc := 87) C (gdt h hG) dX5_loudOf_87
def X0_loud (r : Nat) (v1 : Int32) (mh : vMH) : Option (Int32) := (if (X0_has r v1 mh) = 0 then (some 0) else (chk (inb v1 12) (some (jmax 0 (X5_loudOf (mh.1 (4 * r + 5) (jn v1)) (mh.1 (4 * r + 8) (jn v1)) (mh.1 (4 * r + 7) (jn v1)) (mh.1 r 7) (mh.1 r 6))))))
set_option maxRecDepth 100000 in
set_option maxHeartbeats 8000000 in
theorem c_X0_loud (d : Nat) {r : Nat} (hr : isF r) (v1 : Int32) (mh : vMH) {res : Int32} (h : X0_loud r v1 mh = some res) : MC LC (d + 1) yX0_loud cX0_loud 2 (some .int) [.ref r, .int v1] mh (some (.int res)) mh := by
  refine MC_of 0 (by decide) rfl (fun X C hG => ?_)
  replace C : Cx X (d + 1) 2 cX0_loud RX0 (some .int) := C
  show Vw LC X (d + 1) 2 0 [some (.ref r), some (.int v1)] [] mh
  unfold X0_loud at h
  refine V_aload_n (pc := 0) C dX0_loud_0 rfl rfl ?_
  refine V_iload_n (pc := 1) C dX0_loud_1 rfl rfl ?_
  refine V_callVi (pc := 2) (rest := []) C cs_X0_46 (c_X0_has (d + 0) hr v1 mh) CF0.1 (LO_F hr) (by omega) (by decide) rfl rfl (Nat.le_of_ble_eq_true rfl) dX0_loud_2 ?_
  refine V_ifne (pc := 5) (tgt := 10) C dX0_loud_5 (by decide) (fun hc1 => ?_) (fun hc1 => ?_)
  · have h := it_f h hc1
    refine V_iconst (pc := 10) C (v := 0) dX0_loud_10 (by decide) ?_
    refine V_aload_n (pc := 11) C dX0_loud_11 rfl rfl ?_
    refine V_getR (pc := 12) C (r' := (4 * r + 5)) CF0 fl_X0_9 (LO_F hr) (by decide) rfl dX0_loud_12 ?_
    refine V_iload_n (pc := 15) C dX0_loud_15 rfl rfl ?_
    obtain ⟨hi2, h⟩ := chk_ok h
    refine V_iald (pc := 16) C (LA_F0 hr) hi2 dX0_loud_16 (v := (mh.1 (4 * r + 5) (jn v1))) rfl ?_
    refine V_aload_n (pc := 17) C dX0_loud_17 rfl rfl ?_
    refine V_getR (pc := 18) C (r' := (4 * r + 8)) CF0 fl_X0_21 (LO_F hr) (by decide) rfl dX0_loud_18 ?_
    refine V_iload_n (pc := 21) C dX0_loud_21 rfl rfl ?_
    refine V_iald (pc := 22) C (LA_F3 hr) hi2 dX0_loud_22 (v := (mh.1 (4 * r + 8) (jn v1))) rfl ?_
    refine V_aload_n (pc := 23) C dX0_loud_23 rfl rfl ?_
    refine V_getR (pc := 24) C (r' := (4 * r + 7)) CF0 fl_X0_18 (LO_F hr) (by decide) rfl dX0_loud_24 ?_
    refine V_iload_n (pc := 27) C dX0_loud_27 rfl rfl ?_
    refine V_iald (pc := 28) C (LA_F2 hr) hi2 dX0_loud_28 (v := (mh.1 (4 * r + 7) (jn v1))) rfl ?_
    refine V_aload_n (pc := 29) C dX0_loud_29 rfl rfl ?_
    refine V_getI (pc := 30) C CF0 fl_X0_34 (LO_F hr) (by decide) rfl dX0_loud_30 (v := (mh.1 r 7)) rfl ?_
    refine V_aload_n (pc := 33) C dX0_loud_33 rfl rfl ?_
    refine V_getI (pc := 34) C CF0 fl_X0_31 (LO_F hr) (by decide) rfl dX0_loud_34 (v := (mh.1 r 6)) rfl ?_
    refine V_callNi (pc := 37) (rest := [.int 0]) C cs_X0_66 (c_X5_loudOf (d + 0) (mh.1 (4 * r + 5) (jn v1)) (mh.1 (4 * r + 8) (jn v1)) (mh.1 (4 * r + 7) (jn v1)) (mh.1 r 7) (mh.1 r 6) mh) (by omega) (by decide) rfl rfl (Nat.le_of_ble_eq_true rfl) dX0_loud_37 ?_
    refine V_max (pc := 40) C ml_X0_70 (Nat.le_of_ble_eq_true rfl) dX0_loud_40 ?_
    exact V_iret (pc := 43) C (gdo h hG) dX0_loud_43
  · have h := it_t h hc1
    refine V_iconst (pc := 8) C (v := 0) dX0_loud_8 (by decide) ?_
    exact V_iret (pc := 9) C (gdo h hG) dX0_loud_9
def X0_heard_L42 (r : Nat) (v1 : Int32) (mh : vMH) (J4 : Int32 → Option (Int32)) (rec7 : Int32 → Int32 → Option (Int32)) (v2_5 : Int32) (v3_6 : Int32) : Option (Int32) := (if (mh.1 r 4) ≤ v3_6 then (J4 v2_5) else (if v3_6 = v1 then (rec7 v2_5 (v3_6 + 1)) else (chk (inb v3_6 12) (if (mh.1 (4 * r + 5) (jn v3_6)) = 2 then (if (mh.1 (4 * r + 6) (jn v3_6)) = (mh.1 (4 * r + 6) (jn v1)) then (if (X0_lies r v3_6 mh) = 0 then (rec7 v2_5 (v3_6 + 1)) else (rec7 (v2_5 + (-10)) (v3_6 + 1))) else (rec7 v2_5 (v3_6 + 1))) else (rec7 v2_5 (v3_6 + 1))))))
def X0_heard (r : Nat) (v1 : Int32) (mh : vMH) : Option (Int32) := (if (X0_lies r v1 mh) = 0 then (some 0) else (chk (inb v1 12) (wj1 (fun (v2_3 : Int32) => (some (jmax 0 v2_3))) fun J4 => (lq2 4096 (X0_heard_L42 r v1 mh J4) (X5_loudOf (mh.1 (4 * r + 5) (jn v1)) (mh.1 (4 * r + 8) (jn v1)) (mh.1 (4 * r + 7) (jn v1)) (mh.1 r 7) (mh.1 r 6)) 0))))
set_option maxRecDepth 100000 in
set_option maxHeartbeats 8000000 in
theorem c_X0_heard (d : Nat) {r : Nat} (hr : isF r) (v1 : Int32) (mh : vMH) {res : Int32} (h : X0_heard r v1 mh = some res) : MC LC (d + 2) yX0_heard cX0_heard 4 (some .int) [.ref r, .int v1] mh (some (.int res)) mh := by
  refine MC_of 2 (by decide) rfl (fun X C hG => ?_)
  replace C : Cx X (d + 2) 4 cX0_heard RX0 (some .int) := C
  show Vw LC X (d + 2) 4 0 [some (.ref r), some (.int v1), none, none] [] mh
  unfold X0_heard at h
  refine V_aload_n (pc := 0) C dX0_heard_0 rfl rfl ?_
  refine V_iload_n (pc := 1) C dX0_heard_1 rfl rfl ?_
  refine V_callVi (pc := 2) (rest := []) C cs_X0_76 (c_X0_lies (d + 0) hr v1 mh) CF0.1 (LO_F hr) (by omega) (by decide) rfl rfl (Nat.le_of_ble_eq_true rfl) dX0_heard_2 ?_
  refine V_ifne (pc := 5) (tgt := 10) C dX0_heard_5 (by decide) (fun hc1 => ?_) (fun hc1 => ?_)
  · have h := it_f h hc1
    refine V_aload_n (pc := 10) C dX0_heard_10 rfl rfl ?_
    refine V_getR (pc := 11) C (r' := (4 * r + 5)) CF0 fl_X0_9 (LO_F hr) (by decide) rfl dX0_heard_11 ?_
    refine V_iload_n (pc := 14) C dX0_heard_14 rfl rfl ?_
    obtain ⟨hi2, h⟩ := chk_ok h
    refine V_iald (pc := 15) C (LA_F0 hr) hi2 dX0_heard_15 (v := (mh.1 (4 * r + 5) (jn v1))) rfl ?_
    refine V_aload_n (pc := 16) C dX0_heard_16 rfl rfl ?_
    refine V_getR (pc := 17) C (r' := (4 * r + 8)) CF0 fl_X0_21 (LO_F hr) (by decide) rfl dX0_heard_17 ?_
    refine V_iload_n (pc := 20) C dX0_heard_20 rfl rfl ?_
    refine V_iald (pc := 21) C (LA_F3 hr) hi2 dX0_heard_21 (v := (mh.1 (4 * r + 8) (jn v1))) rfl ?_
    refine V_aload_n (pc := 22) C dX0_heard_22 rfl rfl ?_
    refine V_getR (pc := 23) C (r' := (4 * r + 7)) CF0 fl_X0_18 (LO_F hr) (by decide) rfl dX0_heard_23 ?_
    refine V_iload_n (pc := 26) C dX0_heard_26 rfl rfl ?_
    refine V_iald (pc := 27) C (LA_F2 hr) hi2 dX0_heard_27 (v := (mh.1 (4 * r + 7) (jn v1))) rfl ?_
    refine V_aload_n (pc := 28) C dX0_heard_28 rfl rfl ?_
    refine V_getI (pc := 29) C CF0 fl_X0_34 (LO_F hr) (by decide) rfl dX0_heard_29 (v := (mh.1 r 7)) rfl ?_
    refine V_aload_n (pc := 32) C dX0_heard_32 rfl rfl ?_
    refine V_getI (pc := 33) C CF0 fl_X0_31 (LO_F hr) (by decide) rfl dX0_heard_33 (v := (mh.1 r 6)) rfl ?_
    refine V_callNi (pc := 36) (rest := []) C cs_X0_66 (c_X5_loudOf (d + 1) (mh.1 (4 * r + 5) (jn v1)) (mh.1 (4 * r + 8) (jn v1)) (mh.1 (4 * r + 7) (jn v1)) (mh.1 r 7) (mh.1 r 6) mh) (by omega) (by decide) rfl rfl (Nat.le_of_ble_eq_true rfl) dX0_heard_36 ?_
    refine V_istore_n (pc := 39) C (lv' := [some (.ref r), some (.int v1), some (.int (X5_loudOf (mh.1 (4 * r + 5) (jn v1)) (mh.1 (4 * r + 8) (jn v1)) (mh.1 (4 * r + 7) (jn v1)) (mh.1 r 7) (mh.1 r 6))), none]) dX0_heard_39 rfl (by decide) (Nat.le_of_ble_eq_true rfl) rfl rfl ?_
    refine V_iconst (pc := 40) C (v := 0) dX0_heard_40 (by decide) ?_
    refine V_istore_n (pc := 41) C (lv' := [some (.ref r), some (.int v1), some (.int (X5_loudOf (mh.1 (4 * r + 5) (jn v1)) (mh.1 (4 * r + 8) (jn v1)) (mh.1 (4 * r + 7) (jn v1)) (mh.1 r 7) (mh.1 r 6))), some (.int 0)]) dX0_heard_41 rfl (by decide) (Nat.le_of_ble_eq_true rfl) rfl rfl ?_
    refine wj1_ok (fun (v2_3 : Int32) => Vw LC X (d + 2) 4 97 [some (.ref r), some (.int v1), some (.int v2_3), none] [] mh) h (fun v2_3 h => ?_) (fun J4 hJ4 h => ?_)
    · refine V_iconst (pc := 97) C (v := 0) dX0_heard_97 (by decide) ?_
      refine V_iload_n (pc := 98) C dX0_heard_98 rfl rfl ?_
      refine V_max (pc := 99) C ml_X0_70 (Nat.le_of_ble_eq_true rfl) dX0_heard_99 ?_
      exact V_iret (pc := 102) C (gdo h hG) dX0_heard_102
    · refine lq2_ok (fun (v2_5 : Int32) (v3_6 : Int32) => Vw LC X (d + 2) 4 42 [some (.ref r), some (.int v1), some (.int v2_5), some (.int v3_6)] [] mh) h (fun rec7 hrec7 v2_5 v3_6 h => ?_)
      unfold X0_heard_L42 at h
      refine V_iload_n (pc := 42) C dX0_heard_42 rfl rfl ?_
      refine V_aload_n (pc := 43) C dX0_heard_43 rfl rfl ?_
      refine V_getI (pc := 44) C CF0 fl_X0_24 (LO_F hr) (by decide) rfl dX0_heard_44 (v := (mh.1 r 4)) rfl ?_
      refine V_icmpge (pc := 47) (tgt := 97) C dX0_heard_47 (by decide) (fun hc8 => ?_) (fun hc8 => ?_)
      · have h := it_t h hc8
        refine V_mask [true, true, true, false] (lv' := [some (.ref r), some (.int v1), some (.int v2_5), none]) rfl ?_
        exact hJ4 v2_5 h
      · have h := it_f h hc8
        refine V_iload_n (pc := 50) C dX0_heard_50 rfl rfl ?_
        refine V_iload_n (pc := 51) C dX0_heard_51 rfl rfl ?_
        refine V_icmpeq (pc := 52) (tgt := 91) C dX0_heard_52 (by decide) (fun hc9 => ?_) (fun hc9 => ?_)
        · have h := it_t h hc9
          refine V_iinc (pc := 91) C (v := (v3_6 + 1)) (lv' := [some (.ref r), some (.int v1), some (.int v2_5), some (.int (v3_6 + 1))]) dX0_heard_91 rfl rfl (by decide) (Nat.le_of_ble_eq_true rfl) rfl rfl ?_
          refine V_goto (pc := 94) (tgt := 42) C dX0_heard_94 (by decide) ?_
          exact hrec7 v2_5 (v3_6 + 1) h
        · have h := it_f h hc9
          refine V_aload_n (pc := 55) C dX0_heard_55 rfl rfl ?_
          refine V_getR (pc := 56) C (r' := (4 * r + 5)) CF0 fl_X0_9 (LO_F hr) (by decide) rfl dX0_heard_56 ?_
          refine V_iload_n (pc := 59) C dX0_heard_59 rfl rfl ?_
          obtain ⟨hi10, h⟩ := chk_ok h
          refine V_iald (pc := 60) C (LA_F0 hr) hi10 dX0_heard_60 (v := (mh.1 (4 * r + 5) (jn v3_6))) rfl ?_
          refine V_iconst (pc := 61) C (v := 2) dX0_heard_61 (by decide) ?_
          refine V_icmpne (pc := 62) (tgt := 91) C dX0_heard_62 (by decide) (fun hc11 => ?_) (fun hc11 => ?_)
          · have h := it_f h hc11
            refine V_iinc (pc := 91) C (v := (v3_6 + 1)) (lv' := [some (.ref r), some (.int v1), some (.int v2_5), some (.int (v3_6 + 1))]) dX0_heard_91 rfl rfl (by decide) (Nat.le_of_ble_eq_true rfl) rfl rfl ?_
            refine V_goto (pc := 94) (tgt := 42) C dX0_heard_94 (by decide) ?_
            exact hrec7 v2_5 (v3_6 + 1) h
          · have h := it_t h hc11
            refine V_aload_n (pc := 65) C dX0_heard_65 rfl rfl ?_
            refine V_getR (pc := 66) C (r' := (4 * r + 6)) CF0 fl_X0_15 (LO_F hr) (by decide) rfl dX0_heard_66 ?_
            refine V_iload_n (pc := 69) C dX0_heard_69 rfl rfl ?_
            refine V_iald (pc := 70) C (LA_F1 hr) hi10 dX0_heard_70 (v := (mh.1 (4 * r + 6) (jn v3_6))) rfl ?_
            refine V_aload_n (pc := 71) C dX0_heard_71 rfl rfl ?_
            refine V_getR (pc := 72) C (r' := (4 * r + 6)) CF0 fl_X0_15 (LO_F hr) (by decide) rfl dX0_heard_72 ?_
            refine V_iload_n (pc := 75) C dX0_heard_75 rfl rfl ?_
            refine V_iald (pc := 76) C (LA_F1 hr) hi2 dX0_heard_76 (v := (mh.1 (4 * r + 6) (jn v1))) rfl ?_
            refine V_icmpne (pc := 77) (tgt := 91) C dX0_heard_77 (by decide) (fun hc12 => ?_) (fun hc12 => ?_)
            · have h := it_f h hc12
              refine V_iinc (pc := 91) C (v := (v3_6 + 1)) (lv' := [some (.ref r), some (.int v1), some (.int v2_5), some (.int (v3_6 + 1))]) dX0_heard_91 rfl rfl (by decide) (Nat.le_of_ble_eq_true rfl) rfl rfl ?_
              refine V_goto (pc := 94) (tgt := 42) C dX0_heard_94 (by decide) ?_
              exact hrec7 v2_5 (v3_6 + 1) h
            · have h := it_t h hc12
              refine V_aload_n (pc := 80) C dX0_heard_80 rfl rfl ?_
              refine V_iload_n (pc := 81) C dX0_heard_81 rfl rfl ?_
              refine V_callVi (pc := 82) (rest := []) C cs_X0_76 (c_X0_lies (d + 0) hr v3_6 mh) CF0.1 (LO_F hr) (by omega) (by decide) rfl rfl (Nat.le_of_ble_eq_true rfl) dX0_heard_82 ?_
              refine V_ifeq (pc := 85) (tgt := 91) C dX0_heard_85 (by decide) (fun hc13 => ?_) (fun hc13 => ?_)
              · have h := it_t h hc13
                refine V_iinc (pc := 91) C (v := (v3_6 + 1)) (lv' := [some (.ref r), some (.int v1), some (.int v2_5), some (.int (v3_6 + 1))]) dX0_heard_91 rfl rfl (by decide) (Nat.le_of_ble_eq_true rfl) rfl rfl ?_
                refine V_goto (pc := 94) (tgt := 42) C dX0_heard_94 (by decide) ?_
                exact hrec7 v2_5 (v3_6 + 1) h
              · have h := it_f h hc13
                refine V_iinc (pc := 88) C (v := (v2_5 + (-10))) (lv' := [some (.ref r), some (.int v1), some (.int (v2_5 + (-10))), some (.int v3_6)]) dX0_heard_88 rfl rfl (by decide) (Nat.le_of_ble_eq_true rfl) rfl rfl ?_
                refine V_iinc (pc := 91) C (v := (v3_6 + 1)) (lv' := [some (.ref r), some (.int v1), some (.int (v2_5 + (-10))), some (.int (v3_6 + 1))]) dX0_heard_91 rfl rfl (by decide) (Nat.le_of_ble_eq_true rfl) rfl rfl ?_
                refine V_goto (pc := 94) (tgt := 42) C dX0_heard_94 (by decide) ?_
                exact hrec7 (v2_5 + (-10)) (v3_6 + 1) h
  · have h := it_t h hc1
    refine V_iconst (pc := 8) C (v := 0) dX0_heard_8 (by decide) ?_
    exact V_iret (pc := 9) C (gdo h hG) dX0_heard_9
def X5_dragsOf (v0 : Int32) (v1 : Int32) (v2 : Int32) : Int32 := (if v0 = 2 then 0 else (if v0 = 3 then 2 else (if v0 = 4 then (if 5 ≤ v1 then 0 else 1) else (if v0 = 5 then (if 10 ≤ v2 then 0 else 1) else 1))))
set_option maxRecDepth 100000 in
set_option maxHeartbeats 8000000 in
theorem c_X5_dragsOf (d : Nat) (v0 : Int32) (v1 : Int32) (v2 : Int32) (mh : vMH) : MC LC (d + 0) yX5_dragsOf cX5_dragsOf 3 (some .int) [.int v0, .int v1, .int v2] mh (some (.int (X5_dragsOf v0 v1 v2))) mh := by
  refine MC_of 0 (by decide) rfl (fun X C hG => ?_)
  replace C : Cx X (d + 0) 3 cX5_dragsOf RX5 (some .int) := C
  show Vw LC X (d + 0) 3 0 [some (.int v0), some (.int v1), some (.int v2)] [] mh
  obtain ⟨res, h⟩ : ∃ res, X5_dragsOf v0 v1 v2 = res := ⟨_, rfl⟩
  rw [h] at hG
  unfold X5_dragsOf at h
  refine V_iload_n (pc := 0) C dX5_dragsOf_0 rfl rfl ?_
  by_cases hc1 : v0 = 2
  · have h := it_t h hc1
    refine V_tab (pc := 1) (tgt := 32) C dX5_dragsOf_1 (by decide) (v_tgt_k hc1 (by decide)) ?_
    refine V_iconst (pc := 32) C (v := 0) dX5_dragsOf_32 (by decide) ?_
    exact V_iret (pc := 33) C (gdt h hG) dX5_dragsOf_33
  · have h := it_f h hc1
    by_cases hc2 : v0 = 3
    · have h := it_t h hc2
      refine V_tab (pc := 1) (tgt := 34) C dX5_dragsOf_1 (by decide) (v_tgt_k hc2 (by decide)) ?_
      refine V_iconst (pc := 34) C (v := 2) dX5_dragsOf_34 (by decide) ?_
      exact V_iret (pc := 35) C (gdt h hG) dX5_dragsOf_35
    · have h := it_f h hc2
      by_cases hc3 : v0 = 4
      · have h := it_t h hc3
        refine V_tab (pc := 1) (tgt := 36) C dX5_dragsOf_1 (by decide) (v_tgt_k hc3 (by decide)) ?_
        refine V_iload_n (pc := 36) C dX5_dragsOf_36 rfl rfl ?_
        refine V_iconst (pc := 37) C (v := 5) dX5_dragsOf_37 (by decide) ?_
        refine V_icmpge (pc := 38) (tgt := 45) C dX5_dragsOf_38 (by decide) (fun hc4 => ?_) (fun hc4 => ?_)
        · have h := it_t h hc4
          refine V_iconst (pc := 45) C (v := 0) dX5_dragsOf_45 (by decide) ?_
          exact V_iret (pc := 46) C (gdt h hG) dX5_dragsOf_46
        · have h := it_f h hc4
          refine V_iconst (pc := 41) C (v := 1) dX5_dragsOf_41 (by decide) ?_
          refine V_goto (pc := 42) (tgt := 46) C dX5_dragsOf_42 (by decide) ?_
          exact V_iret (pc := 46) C (gdt h hG) dX5_dragsOf_46
      · have h := it_f h hc3
        by_cases hc5 : v0 = 5
        · have h := it_t h hc5
          refine V_tab (pc := 1) (tgt := 47) C dX5_dragsOf_1 (by decide) (v_tgt_k hc5 (by decide)) ?_
          refine V_iload_n (pc := 47) C dX5_dragsOf_47 rfl rfl ?_
          refine V_bipush (pc := 48) C (v := 10) dX5_dragsOf_48 (by decide) ?_
          refine V_icmpge (pc := 50) (tgt := 57) C dX5_dragsOf_50 (by decide) (fun hc6 => ?_) (fun hc6 => ?_)
          · have h := it_t h hc6
            refine V_iconst (pc := 57) C (v := 0) dX5_dragsOf_57 (by decide) ?_
            exact V_iret (pc := 58) C (gdt h hG) dX5_dragsOf_58
          · have h := it_f h hc6
            refine V_iconst (pc := 53) C (v := 1) dX5_dragsOf_53 (by decide) ?_
            refine V_goto (pc := 54) (tgt := 58) C dX5_dragsOf_54 (by decide) ?_
            exact V_iret (pc := 58) C (gdt h hG) dX5_dragsOf_58
        · have h := it_f h hc5
          refine V_tab (pc := 1) (tgt := 59) C dX5_dragsOf_1 (by decide) (v_tgt_d ⟨.inr (fun e => hc1 (e.trans (by decide))), .inr (fun e => hc2 (e.trans (by decide))), .inr (fun e => hc3 (e.trans (by decide))), .inr (fun e => hc5 (e.trans (by decide))), trivial⟩ (by decide)) ?_
          refine V_iconst (pc := 59) C (v := 1) dX5_dragsOf_59 (by decide) ?_
          exact V_iret (pc := 60) C (gdt h hG) dX5_dragsOf_60
def X5_held (v0 : Int32) (v1 : Int32) : Int32 := (if 0 ≤ v0 then (if v0 ≤ v1 then v0 else v1) else 0)
set_option maxRecDepth 100000 in
set_option maxHeartbeats 8000000 in
theorem c_X5_held (d : Nat) (v0 : Int32) (v1 : Int32) (mh : vMH) : MC LC (d + 0) yX5_held cX5_held 2 (some .int) [.int v0, .int v1] mh (some (.int (X5_held v0 v1))) mh := by
  refine MC_of 0 (by decide) rfl (fun X C hG => ?_)
  replace C : Cx X (d + 0) 2 cX5_held RX5 (some .int) := C
  show Vw LC X (d + 0) 2 0 [some (.int v0), some (.int v1)] [] mh
  obtain ⟨res, h⟩ : ∃ res, X5_held v0 v1 = res := ⟨_, rfl⟩
  rw [h] at hG
  unfold X5_held at h
  refine V_iload_n (pc := 0) C dX5_held_0 rfl rfl ?_
  refine V_ifge (pc := 1) (tgt := 8) C dX5_held_1 (by decide) (fun hc1 => ?_) (fun hc1 => ?_)
  · have h := it_t h hc1
    refine V_iload_n (pc := 8) C dX5_held_8 rfl rfl ?_
    refine V_iload_n (pc := 9) C dX5_held_9 rfl rfl ?_
    refine V_icmple (pc := 10) (tgt := 17) C dX5_held_10 (by decide) (fun hc2 => ?_) (fun hc2 => ?_)
    · have h := it_t h hc2
      refine V_iload_n (pc := 17) C dX5_held_17 rfl rfl ?_
      exact V_iret (pc := 18) C (gdt h hG) dX5_held_18
    · have h := it_f h hc2
      refine V_iload_n (pc := 13) C dX5_held_13 rfl rfl ?_
      refine V_goto (pc := 14) (tgt := 18) C dX5_held_14 (by decide) ?_
      exact V_iret (pc := 18) C (gdt h hG) dX5_held_18
  · have h := it_f h hc1
    refine V_iconst (pc := 4) C (v := 0) dX5_held_4 (by decide) ?_
    refine V_goto (pc := 5) (tgt := 18) C dX5_held_5 (by decide) ?_
    exact V_iret (pc := 18) C (gdt h hG) dX5_held_18
def X0_turnOver_L2 (r : Nat) (J2 : vMH → Option (vMH)) (rec5 : Int32 → vMH → Option (vMH)) (v1_3 : Int32) (mh4 : vMH) : Option (vMH) := (if (mh4.1 r 4) ≤ v1_3 then (J2 mh4) else (if (X0_lies r v1_3 mh4) = 0 then (rec5 (v1_3 + 1) mh4) else (chk (inb v1_3 12) (wj1 (fun (s9 : Int32) => (wj1 (fun (s11 : Int32) => (rec5 (v1_3 + 1) (v_up (v_up mh4 (4 * r + 6) (jn v1_3) ((mh4.1 (4 * r + 6) (jn v1_3)) + ((X5_held s9 7) - (jr (mh4.1 (4 * r + 6) (jn v1_3)) 8)))) (4 * r + 7) (jn v1_3) s11))) fun J12 => (if 12 < (mh4.1 (4 * r + 7) (jn v1_3)) then (J12 ((mh4.1 (4 * r + 7) (jn v1_3)) - 1)) else (J12 (12 - (mh4.1 (4 * r + 7) (jn v1_3))))))) fun J10 => (if (jr (mh4.1 r 8) 2) = 0 then (J10 ((jr (mh4.1 (4 * r + 6) (jn v1_3)) 8) + (X5_dragsOf (mh4.1 (4 * r + 5) (jn v1_3)) (mh4.1 (4 * r + 8) (jn v1_3)) (mh4.1 (4 * r + 7) (jn v1_3))))) else (J10 ((jr (mh4.1 (4 * r + 6) (jn v1_3)) 8) - (X5_dragsOf (mh4.1 (4 * r + 5) (jn v1_3)) (mh4.1 (4 * r + 8) (jn v1_3)) (mh4.1 (4 * r + 7) (jn v1_3))))))))))
def X0_turnOver (r : Nat) (mh : vMH) : Option (vMH) := (wj1 (fun (mh1 : vMH) => (some (v_up mh1 r 8 (jmin 99 ((mh1.1 r 8) + 1))))) fun J2 => (lq2 4096 (X0_turnOver_L2 r J2) 0 mh))
set_option maxRecDepth 100000 in
set_option maxHeartbeats 8000000 in
theorem c_X0_turnOver (d : Nat) {r : Nat} (hr : isF r) (mh : vMH) {res : vMH} (h : X0_turnOver r mh = some res) : MC LC (d + 2) yX0_turnOver cX0_turnOver 5 none [.ref r] mh none res := by
  refine MC_of 4 (by decide) rfl (fun X C hG => ?_)
  replace C : Cx X (d + 2) 5 cX0_turnOver RX0 none := C
  show Vw LC X (d + 2) 5 0 [some (.ref r), none, none, none, none] [] mh
  unfold X0_turnOver at h
  refine V_iconst (pc := 0) C (v := 0) dX0_turnOver_0 (by decide) ?_
  refine V_istore_n (pc := 1) C (lv' := [some (.ref r), some (.int 0), none, none, none]) dX0_turnOver_1 rfl (by decide) (Nat.le_of_ble_eq_true rfl) rfl rfl ?_
  refine wj1_ok (fun (mh1 : vMH) => Vw LC X (d + 2) 5 134 [some (.ref r), none, none, none, none] [] mh1) h (fun mh1 h => ?_) (fun J2 hJ2 h => ?_)
  · refine V_aload_n (pc := 134) C dX0_turnOver_134 rfl rfl ?_
    refine V_bipush (pc := 135) C (v := 99) dX0_turnOver_135 (by decide) ?_
    refine V_aload_n (pc := 137) C dX0_turnOver_137 rfl rfl ?_
    refine V_getI (pc := 138) C CF0 fl_X0_37 (LO_F hr) (by decide) rfl dX0_turnOver_138 (v := (mh1.1 r 8)) rfl ?_
    refine V_iconst (pc := 141) C (v := 1) dX0_turnOver_141 (by decide) ?_
    refine V_iadd (pc := 142) C dX0_turnOver_142 ?_
    refine V_min (pc := 143) C ml_X0_86 (Nat.le_of_ble_eq_true rfl) dX0_turnOver_143 ?_
    refine V_putI (pc := 146) C CF0 fl_X0_37 (LO_F hr) (by decide) rfl rfl rfl dX0_turnOver_146 ?_
    exact V_ret0 (pc := 149) C (gdov h hG) dX0_turnOver_149
  · refine lq2_ok (fun (v1_3 : Int32) (mh4 : vMH) => Vw LC X (d + 2) 5 2 [some (.ref r), some (.int v1_3), none, none, none] [] mh4) h (fun rec5 hrec5 v1_3 mh4 h => ?_)
    unfold X0_turnOver_L2 at h
    refine V_iload_n (pc := 2) C dX0_turnOver_2 rfl rfl ?_
    refine V_aload_n (pc := 3) C dX0_turnOver_3 rfl rfl ?_
    refine V_getI (pc := 4) C CF0 fl_X0_24 (LO_F hr) (by decide) rfl dX0_turnOver_4 (v := (mh4.1 r 4)) rfl ?_
    refine V_icmpge (pc := 7) (tgt := 134) C dX0_turnOver_7 (by decide) (fun hc6 => ?_) (fun hc6 => ?_)
    · have h := it_t h hc6
      refine V_mask [true, false, true, true, true] (lv' := [some (.ref r), none, none, none, none]) rfl ?_
      exact hJ2 mh4 h
    · have h := it_f h hc6
      refine V_aload_n (pc := 10) C dX0_turnOver_10 rfl rfl ?_
      refine V_iload_n (pc := 11) C dX0_turnOver_11 rfl rfl ?_
      refine V_callVi (pc := 12) (rest := []) C cs_X0_76 (c_X0_lies (d + 0) hr v1_3 mh4) CF0.1 (LO_F hr) (by omega) (by decide) rfl rfl (Nat.le_of_ble_eq_true rfl) dX0_turnOver_12 ?_
      refine V_ifne (pc := 15) (tgt := 21) C dX0_turnOver_15 (by decide) (fun hc7 => ?_) (fun hc7 => ?_)
      · have h := it_f h hc7
        refine V_aload_n (pc := 21) C dX0_turnOver_21 rfl rfl ?_
        refine V_getR (pc := 22) C (r' := (4 * r + 6)) CF0 fl_X0_15 (LO_F hr) (by decide) rfl dX0_turnOver_22 ?_
        refine V_iload_n (pc := 25) C dX0_turnOver_25 rfl rfl ?_
        obtain ⟨hi8, h⟩ := chk_ok h
        refine V_iald (pc := 26) C (LA_F1 hr) hi8 dX0_turnOver_26 (v := (mh4.1 (4 * r + 6) (jn v1_3))) rfl ?_
        refine V_bipush (pc := 27) C (v := 8) dX0_turnOver_27 (by decide) ?_
        refine V_irem (pc := 29) C dX0_turnOver_29 (by decide) ?_
        refine V_istore_n (pc := 30) C (lv' := [some (.ref r), some (.int v1_3), some (.int (jr (mh4.1 (4 * r + 6) (jn v1_3)) 8)), none, none]) dX0_turnOver_30 rfl (by decide) (Nat.le_of_ble_eq_true rfl) rfl rfl ?_
        refine V_aload_n (pc := 31) C dX0_turnOver_31 rfl rfl ?_
        refine V_getR (pc := 32) C (r' := (4 * r + 5)) CF0 fl_X0_9 (LO_F hr) (by decide) rfl dX0_turnOver_32 ?_
        refine V_iload_n (pc := 35) C dX0_turnOver_35 rfl rfl ?_
        refine V_iald (pc := 36) C (LA_F0 hr) hi8 dX0_turnOver_36 (v := (mh4.1 (4 * r + 5) (jn v1_3))) rfl ?_
        refine V_aload_n (pc := 37) C dX0_turnOver_37 rfl rfl ?_
        refine V_getR (pc := 38) C (r' := (4 * r + 8)) CF0 fl_X0_21 (LO_F hr) (by decide) rfl dX0_turnOver_38 ?_
        refine V_iload_n (pc := 41) C dX0_turnOver_41 rfl rfl ?_
        refine V_iald (pc := 42) C (LA_F3 hr) hi8 dX0_turnOver_42 (v := (mh4.1 (4 * r + 8) (jn v1_3))) rfl ?_
        refine V_aload_n (pc := 43) C dX0_turnOver_43 rfl rfl ?_
        refine V_getR (pc := 44) C (r' := (4 * r + 7)) CF0 fl_X0_18 (LO_F hr) (by decide) rfl dX0_turnOver_44 ?_
        refine V_iload_n (pc := 47) C dX0_turnOver_47 rfl rfl ?_
        refine V_iald (pc := 48) C (LA_F2 hr) hi8 dX0_turnOver_48 (v := (mh4.1 (4 * r + 7) (jn v1_3))) rfl ?_
        refine V_callNi (pc := 49) (rest := []) C cs_X0_79 (c_X5_dragsOf (d + 1) (mh4.1 (4 * r + 5) (jn v1_3)) (mh4.1 (4 * r + 8) (jn v1_3)) (mh4.1 (4 * r + 7) (jn v1_3)) mh4) (by omega) (by decide) rfl rfl (Nat.le_of_ble_eq_true rfl) dX0_turnOver_49 ?_
        refine V_istore_n (pc := 52) C (lv' := [some (.ref r), some (.int v1_3), some (.int (jr (mh4.1 (4 * r + 6) (jn v1_3)) 8)), some (.int (X5_dragsOf (mh4.1 (4 * r + 5) (jn v1_3)) (mh4.1 (4 * r + 8) (jn v1_3)) (mh4.1 (4 * r + 7) (jn v1_3)))), none]) dX0_turnOver_52 rfl (by decide) (Nat.le_of_ble_eq_true rfl) rfl rfl ?_
        refine V_aload_n (pc := 53) C dX0_turnOver_53 rfl rfl ?_
        refine V_getI (pc := 54) C CF0 fl_X0_37 (LO_F hr) (by decide) rfl dX0_turnOver_54 (v := (mh4.1 r 8)) rfl ?_
        refine V_iconst (pc := 57) C (v := 2) dX0_turnOver_57 (by decide) ?_
        refine V_irem (pc := 58) C dX0_turnOver_58 (by decide) ?_
        refine wj1_ok (fun (s9 : Int32) => Vw LC X (d + 2) 5 71 [some (.ref r), some (.int v1_3), some (.int (jr (mh4.1 (4 * r + 6) (jn v1_3)) 8)), some (.int (X5_dragsOf (mh4.1 (4 * r + 5) (jn v1_3)) (mh4.1 (4 * r + 8) (jn v1_3)) (mh4.1 (4 * r + 7) (jn v1_3)))), none] [.int s9] mh4) h (fun s9 h => ?_) (fun J10 hJ10 h => ?_)
        · refine V_istore (pc := 71) C (lv' := [some (.ref r), some (.int v1_3), some (.int (jr (mh4.1 (4 * r + 6) (jn v1_3)) 8)), some (.int (X5_dragsOf (mh4.1 (4 * r + 5) (jn v1_3)) (mh4.1 (4 * r + 8) (jn v1_3)) (mh4.1 (4 * r + 7) (jn v1_3)))), some (.int s9)]) dX0_turnOver_71 (by decide) (Nat.le_of_ble_eq_true rfl) rfl rfl ?_
          refine V_aload_n (pc := 73) C dX0_turnOver_73 rfl rfl ?_
          refine V_getR (pc := 74) C (r' := (4 * r + 6)) CF0 fl_X0_15 (LO_F hr) (by decide) rfl dX0_turnOver_74 ?_
          refine V_iload_n (pc := 77) C dX0_turnOver_77 rfl rfl ?_
          refine V_dup2 (pc := 78) C dX0_turnOver_78 rfl rfl ?_
          refine V_iald (pc := 79) C (LA_F1 hr) hi8 dX0_turnOver_79 (v := (mh4.1 (4 * r + 6) (jn v1_3))) rfl ?_
          refine V_iload (pc := 80) C dX0_turnOver_80 rfl ?_
          refine V_bipush (pc := 82) C (v := 7) dX0_turnOver_82 (by decide) ?_
          refine V_callNi (pc := 84) (rest := [.int (mh4.1 (4 * r + 6) (jn v1_3)), .int v1_3, .ref (4 * r + 6)]) C cs_X0_83 (c_X5_held (d + 1) s9 7 mh4) (by omega) (by decide) rfl rfl (Nat.le_of_ble_eq_true rfl) dX0_turnOver_84 ?_
          refine V_iload_n (pc := 87) C dX0_turnOver_87 rfl rfl ?_
          refine V_isub (pc := 88) C dX0_turnOver_88 ?_
          refine V_iadd (pc := 89) C dX0_turnOver_89 ?_
          refine V_iast (pc := 90) C (LA_F1 hr) hi8 dX0_turnOver_90 ?_
          refine V_aload_n (pc := 91) C dX0_turnOver_91 rfl rfl ?_
          refine V_getR (pc := 92) C (r' := (4 * r + 7)) CF0 fl_X0_18 (LO_F hr) (by decide) rfl dX0_turnOver_92 ?_
          refine V_iload_n (pc := 95) C dX0_turnOver_95 rfl rfl ?_
          refine V_aload_n (pc := 96) C dX0_turnOver_96 rfl rfl ?_
          refine V_getR (pc := 97) C (r' := (4 * r + 7)) CF0 fl_X0_18 (LO_F hr) (by decide) rfl dX0_turnOver_97 ?_
          refine V_iload_n (pc := 100) C dX0_turnOver_100 rfl rfl ?_
          refine V_iald (pc := 101) C (LA_F2 hr) hi8 dX0_turnOver_101 (v := (mh4.1 (4 * r + 7) (jn v1_3))) (rd_ne (by omega)) ?_
          refine V_bipush (pc := 102) C (v := 12) dX0_turnOver_102 (by decide) ?_
          refine wj1_ok (fun (s11 : Int32) => Vw LC X (d + 2) 5 127 [some (.ref r), some (.int v1_3), some (.int (jr (mh4.1 (4 * r + 6) (jn v1_3)) 8)), some (.int (X5_dragsOf (mh4.1 (4 * r + 5) (jn v1_3)) (mh4.1 (4 * r + 8) (jn v1_3)) (mh4.1 (4 * r + 7) (jn v1_3)))), some (.int s9)] [.int s11, .int v1_3, .ref (4 * r + 7)] (v_up mh4 (4 * r + 6) (jn v1_3) ((mh4.1 (4 * r + 6) (jn v1_3)) + ((X5_held s9 7) - (jr (mh4.1 (4 * r + 6) (jn v1_3)) 8))))) h (fun s11 h => ?_) (fun J12 hJ12 h => ?_)
          · refine V_iast (pc := 127) C (LA_F2 hr) hi8 dX0_turnOver_127 ?_
            refine V_iinc (pc := 128) C (v := (v1_3 + 1)) (lv' := [some (.ref r), some (.int (v1_3 + 1)), some (.int (jr (mh4.1 (4 * r + 6) (jn v1_3)) 8)), some (.int (X5_dragsOf (mh4.1 (4 * r + 5) (jn v1_3)) (mh4.1 (4 * r + 8) (jn v1_3)) (mh4.1 (4 * r + 7) (jn v1_3)))), some (.int s9)]) dX0_turnOver_128 rfl rfl (by decide) (Nat.le_of_ble_eq_true rfl) rfl rfl ?_
            refine V_goto (pc := 131) (tgt := 2) C dX0_turnOver_131 (by decide) ?_
            refine V_mask [true, true, false, false, false] (lv' := [some (.ref r), some (.int (v1_3 + 1)), none, none, none]) rfl ?_
            exact hrec5 (v1_3 + 1) (v_up (v_up mh4 (4 * r + 6) (jn v1_3) ((mh4.1 (4 * r + 6) (jn v1_3)) + ((X5_held s9 7) - (jr (mh4.1 (4 * r + 6) (jn v1_3)) 8)))) (4 * r + 7) (jn v1_3) s11) h
          · refine V_icmpgt (pc := 104) (tgt := 119) C dX0_turnOver_104 (by decide) (fun hc13 => ?_) (fun hc13 => ?_)
            · have h := it_t h hc13
              refine V_aload_n (pc := 119) C dX0_turnOver_119 rfl rfl ?_
              refine V_getR (pc := 120) C (r' := (4 * r + 7)) CF0 fl_X0_18 (LO_F hr) (by decide) rfl dX0_turnOver_120 ?_
              refine V_iload_n (pc := 123) C dX0_turnOver_123 rfl rfl ?_
              refine V_iald (pc := 124) C (LA_F2 hr) hi8 dX0_turnOver_124 (v := (mh4.1 (4 * r + 7) (jn v1_3))) (rd_ne (by omega)) ?_
              refine V_iconst (pc := 125) C (v := 1) dX0_turnOver_125 (by decide) ?_
              refine V_isub (pc := 126) C dX0_turnOver_126 ?_
              exact hJ12 ((mh4.1 (4 * r + 7) (jn v1_3)) - 1) h
            · have h := it_f h hc13
              refine V_bipush (pc := 107) C (v := 12) dX0_turnOver_107 (by decide) ?_
              refine V_aload_n (pc := 109) C dX0_turnOver_109 rfl rfl ?_
              refine V_getR (pc := 110) C (r' := (4 * r + 7)) CF0 fl_X0_18 (LO_F hr) (by decide) rfl dX0_turnOver_110 ?_
              refine V_iload_n (pc := 113) C dX0_turnOver_113 rfl rfl ?_
              refine V_iald (pc := 114) C (LA_F2 hr) hi8 dX0_turnOver_114 (v := (mh4.1 (4 * r + 7) (jn v1_3))) (rd_ne (by omega)) ?_
              refine V_isub (pc := 115) C dX0_turnOver_115 ?_
              refine V_goto (pc := 116) (tgt := 127) C dX0_turnOver_116 (by decide) ?_
              exact hJ12 (12 - (mh4.1 (4 * r + 7) (jn v1_3))) h
        · refine V_ifne (pc := 59) (tgt := 68) C dX0_turnOver_59 (by decide) (fun hc14 => ?_) (fun hc14 => ?_)
          · have h := it_f h hc14
            refine V_iload_n (pc := 68) C dX0_turnOver_68 rfl rfl ?_
            refine V_iload_n (pc := 69) C dX0_turnOver_69 rfl rfl ?_
            refine V_isub (pc := 70) C dX0_turnOver_70 ?_
            exact hJ10 ((jr (mh4.1 (4 * r + 6) (jn v1_3)) 8) - (X5_dragsOf (mh4.1 (4 * r + 5) (jn v1_3)) (mh4.1 (4 * r + 8) (jn v1_3)) (mh4.1 (4 * r + 7) (jn v1_3)))) h
          · have h := it_t h hc14
            refine V_iload_n (pc := 62) C dX0_turnOver_62 rfl rfl ?_
            refine V_iload_n (pc := 63) C dX0_turnOver_63 rfl rfl ?_
            refine V_iadd (pc := 64) C dX0_turnOver_64 ?_
            refine V_goto (pc := 65) (tgt := 71) C dX0_turnOver_65 (by decide) ?_
            exact hJ10 ((jr (mh4.1 (4 * r + 6) (jn v1_3)) 8) + (X5_dragsOf (mh4.1 (4 * r + 5) (jn v1_3)) (mh4.1 (4 * r + 8) (jn v1_3)) (mh4.1 (4 * r + 7) (jn v1_3)))) h
      · have h := it_t h hc7
        refine V_goto (pc := 18) (tgt := 128) C dX0_turnOver_18 (by decide) ?_
        refine V_iinc (pc := 128) C (v := (v1_3 + 1)) (lv' := [some (.ref r), some (.int (v1_3 + 1)), none, none, none]) dX0_turnOver_128 rfl rfl (by decide) (Nat.le_of_ble_eq_true rfl) rfl rfl ?_
        refine V_goto (pc := 131) (tgt := 2) C dX0_turnOver_131 (by decide) ?_
        exact hrec5 (v1_3 + 1) mh4 h
def X0_scatter_L4 (r : Nat) (rec4 : Int32 → Int32 → vMH → Option (vMH)) (v2_1 : Int32) (v3_2 : Int32) (mh3 : vMH) : Option (vMH) := (if (mh3.1 r 4) ≤ v3_2 then (some mh3) else (if (X0_lies r v3_2 mh3) = 0 then (rec4 v2_1 (v3_2 + 1) mh3) else (chk (inb v3_2 12) (rec4 ((v2_1 * 1103515245) + 12345) (v3_2 + 1) (v_up (v_up mh3 (4 * r + 6) (jn v3_2) (jr (ju ((v2_1 * 1103515245) + 12345) 9) 48)) (4 * r + 7) (jn v3_2) (jr (ju ((v2_1 * 1103515245) + 12345) 16) 21))))))
def X0_scatter (r : Nat) (v1 : Int32) (mh : vMH) : Option (vMH) := (lq3 4096 (X0_scatter_L4 r) v1 0 mh)
set_option maxRecDepth 100000 in
set_option maxHeartbeats 8000000 in
theorem c_X0_scatter (d : Nat) {r : Nat} (hr : isF r) (v1 : Int32) (mh : vMH) {res : vMH} (h : X0_scatter r v1 mh = some res) : MC LC (d + 2) yX0_scatter cX0_scatter 4 none [.ref r, .int v1] mh none res := by
  refine MC_of 2 (by decide) rfl (fun X C hG => ?_)
  replace C : Cx X (d + 2) 4 cX0_scatter RX0 none := C
  show Vw LC X (d + 2) 4 0 [some (.ref r), some (.int v1), none, none] [] mh
  unfold X0_scatter at h
  refine V_iload_n (pc := 0) C dX0_scatter_0 rfl rfl ?_
  refine V_istore_n (pc := 1) C (lv' := [some (.ref r), some (.int v1), some (.int v1), none]) dX0_scatter_1 rfl (by decide) (Nat.le_of_ble_eq_true rfl) rfl rfl ?_
  refine V_iconst (pc := 2) C (v := 0) dX0_scatter_2 (by decide) ?_
  refine V_istore_n (pc := 3) C (lv' := [some (.ref r), some (.int v1), some (.int v1), some (.int 0)]) dX0_scatter_3 rfl (by decide) (Nat.le_of_ble_eq_true rfl) rfl rfl ?_
  refine lq3_ok (fun (v2_1 : Int32) (v3_2 : Int32) (mh3 : vMH) => Vw LC X (d + 2) 4 4 [some (.ref r), some (.int v1), some (.int v2_1), some (.int v3_2)] [] mh3) h (fun rec4 hrec4 v2_1 v3_2 mh3 h => ?_)
  unfold X0_scatter_L4 at h
  refine V_iload_n (pc := 4) C dX0_scatter_4 rfl rfl ?_
  refine V_aload_n (pc := 5) C dX0_scatter_5 rfl rfl ?_
  refine V_getI (pc := 6) C CF0 fl_X0_24 (LO_F hr) (by decide) rfl dX0_scatter_6 (v := (mh3.1 r 4)) rfl ?_
  refine V_icmpge (pc := 9) (tgt := 61) C dX0_scatter_9 (by decide) (fun hc5 => ?_) (fun hc5 => ?_)
  · have h := it_t h hc5
    exact V_ret0 (pc := 61) C (gdov h hG) dX0_scatter_61
  · have h := it_f h hc5
    refine V_aload_n (pc := 12) C dX0_scatter_12 rfl rfl ?_
    refine V_iload_n (pc := 13) C dX0_scatter_13 rfl rfl ?_
    refine V_callVi (pc := 14) (rest := []) C cs_X0_76 (c_X0_lies (d + 0) hr v3_2 mh3) CF0.1 (LO_F hr) (by omega) (by decide) rfl rfl (Nat.le_of_ble_eq_true rfl) dX0_scatter_14 ?_
    refine V_ifeq (pc := 17) (tgt := 55) C dX0_scatter_17 (by decide) (fun hc6 => ?_) (fun hc6 => ?_)
    · have h := it_t h hc6
      refine V_iinc (pc := 55) C (v := (v3_2 + 1)) (lv' := [some (.ref r), some (.int v1), some (.int v2_1), some (.int (v3_2 + 1))]) dX0_scatter_55 rfl rfl (by decide) (Nat.le_of_ble_eq_true rfl) rfl rfl ?_
      refine V_goto (pc := 58) (tgt := 4) C dX0_scatter_58 (by decide) ?_
      exact hrec4 v2_1 (v3_2 + 1) mh3 h
    · have h := it_f h hc6
      refine V_iload_n (pc := 20) C dX0_scatter_20 rfl rfl ?_
      refine V_ldc (pc := 21) C dX0_scatter_21 kc_X0_89 ?_
      refine V_imul (pc := 23) C dX0_scatter_23 ?_
      refine V_sipush (pc := 24) C (v := 12345) dX0_scatter_24 (by decide) ?_
      refine V_iadd (pc := 27) C dX0_scatter_27 ?_
      refine V_istore_n (pc := 28) C (lv' := [some (.ref r), some (.int v1), some (.int ((v2_1 * 1103515245) + 12345)), some (.int v3_2)]) dX0_scatter_28 rfl (by decide) (Nat.le_of_ble_eq_true rfl) rfl rfl ?_
      refine V_aload_n (pc := 29) C dX0_scatter_29 rfl rfl ?_
      refine V_getR (pc := 30) C (r' := (4 * r + 6)) CF0 fl_X0_15 (LO_F hr) (by decide) rfl dX0_scatter_30 ?_
      refine V_iload_n (pc := 33) C dX0_scatter_33 rfl rfl ?_
      refine V_iload_n (pc := 34) C dX0_scatter_34 rfl rfl ?_
      refine V_bipush (pc := 35) C (v := 9) dX0_scatter_35 (by decide) ?_
      refine V_iushr (pc := 37) C dX0_scatter_37 ?_
      refine V_bipush (pc := 38) C (v := 48) dX0_scatter_38 (by decide) ?_
      refine V_irem (pc := 40) C dX0_scatter_40 (by decide) ?_
      obtain ⟨hi7, h⟩ := chk_ok h
      refine V_iast (pc := 41) C (LA_F1 hr) hi7 dX0_scatter_41 ?_
      refine V_aload_n (pc := 42) C dX0_scatter_42 rfl rfl ?_
      refine V_getR (pc := 43) C (r' := (4 * r + 7)) CF0 fl_X0_18 (LO_F hr) (by decide) rfl dX0_scatter_43 ?_
      refine V_iload_n (pc := 46) C dX0_scatter_46 rfl rfl ?_
      refine V_iload_n (pc := 47) C dX0_scatter_47 rfl rfl ?_
      refine V_bipush (pc := 48) C (v := 16) dX0_scatter_48 (by decide) ?_
      refine V_iushr (pc := 50) C dX0_scatter_50 ?_
      refine V_bipush (pc := 51) C (v := 21) dX0_scatter_51 (by decide) ?_
      refine V_irem (pc := 53) C dX0_scatter_53 (by decide) ?_
      refine V_iast (pc := 54) C (LA_F2 hr) hi7 dX0_scatter_54 ?_
      refine V_iinc (pc := 55) C (v := (v3_2 + 1)) (lv' := [some (.ref r), some (.int v1), some (.int ((v2_1 * 1103515245) + 12345)), some (.int (v3_2 + 1))]) dX0_scatter_55 rfl rfl (by decide) (Nat.le_of_ble_eq_true rfl) rfl rfl ?_
      refine V_goto (pc := 58) (tgt := 4) C dX0_scatter_58 (by decide) ?_
      exact hrec4 ((v2_1 * 1103515245) + 12345) (v3_2 + 1) (v_up (v_up mh3 (4 * r + 6) (jn v3_2) (jr (ju ((v2_1 * 1103515245) + 12345) 9) 48)) (4 * r + 7) (jn v3_2) (jr (ju ((v2_1 * 1103515245) + 12345) 16) 21)) h
def X0_dotsIn_L4 (r : Nat) (v1 : Int32) (mh : vMH) (rec3 : Int32 → Int32 → Option (Int32)) (v2_1 : Int32) (v3_2 : Int32) : Option (Int32) := (if (mh.1 r 4) ≤ v3_2 then (some v2_1) else (chk (inb v3_2 12) (if (mh.1 (4 * r + 6) (jn v3_2)) = v1 then (if (X0_lies r v3_2 mh) = 0 then (rec3 (v2_1 + 1) (v3_2 + 1)) else (rec3 v2_1 (v3_2 + 1))) else (rec3 v2_1 (v3_2 + 1)))))
def X0_dotsIn (r : Nat) (v1 : Int32) (mh : vMH) : Option (Int32) := (lq2 4096 (X0_dotsIn_L4 r v1 mh) 0 0)
set_option maxRecDepth 100000 in
set_option maxHeartbeats 8000000 in
theorem c_X0_dotsIn (d : Nat) {r : Nat} (hr : isF r) (v1 : Int32) (mh : vMH) {res : Int32} (h : X0_dotsIn r v1 mh = some res) : MC LC (d + 2) yX0_dotsIn cX0_dotsIn 4 (some .int) [.ref r, .int v1] mh (some (.int res)) mh := by
  refine MC_of 2 (by decide) rfl (fun X C hG => ?_)
  replace C : Cx X (d + 2) 4 cX0_dotsIn RX0 (some .int) := C
  show Vw LC X (d + 2) 4 0 [some (.ref r), some (.int v1), none, none] [] mh
  unfold X0_dotsIn at h
  refine V_iconst (pc := 0) C (v := 0) dX0_dotsIn_0 (by decide) ?_
  refine V_istore_n (pc := 1) C (lv' := [some (.ref r), some (.int v1), some (.int 0), none]) dX0_dotsIn_1 rfl (by decide) (Nat.le_of_ble_eq_true rfl) rfl rfl ?_
  refine V_iconst (pc := 2) C (v := 0) dX0_dotsIn_2 (by decide) ?_
  refine V_istore_n (pc := 3) C (lv' := [some (.ref r), some (.int v1), some (.int 0), some (.int 0)]) dX0_dotsIn_3 rfl (by decide) (Nat.le_of_ble_eq_true rfl) rfl rfl ?_
  refine lq2_ok (fun (v2_1 : Int32) (v3_2 : Int32) => Vw LC X (d + 2) 4 4 [some (.ref r), some (.int v1), some (.int v2_1), some (.int v3_2)] [] mh) h (fun rec3 hrec3 v2_1 v3_2 h => ?_)
  unfold X0_dotsIn_L4 at h
  refine V_iload_n (pc := 4) C dX0_dotsIn_4 rfl rfl ?_
  refine V_aload_n (pc := 5) C dX0_dotsIn_5 rfl rfl ?_
  refine V_getI (pc := 6) C CF0 fl_X0_24 (LO_F hr) (by decide) rfl dX0_dotsIn_6 (v := (mh.1 r 4)) rfl ?_
  refine V_icmpge (pc := 9) (tgt := 39) C dX0_dotsIn_9 (by decide) (fun hc4 => ?_) (fun hc4 => ?_)
  · have h := it_t h hc4
    refine V_iload_n (pc := 39) C dX0_dotsIn_39 rfl rfl ?_
    exact V_iret (pc := 40) C (gdo h hG) dX0_dotsIn_40
  · have h := it_f h hc4
    refine V_aload_n (pc := 12) C dX0_dotsIn_12 rfl rfl ?_
    refine V_getR (pc := 13) C (r' := (4 * r + 6)) CF0 fl_X0_15 (LO_F hr) (by decide) rfl dX0_dotsIn_13 ?_
    refine V_iload_n (pc := 16) C dX0_dotsIn_16 rfl rfl ?_
    obtain ⟨hi5, h⟩ := chk_ok h
    refine V_iald (pc := 17) C (LA_F1 hr) hi5 dX0_dotsIn_17 (v := (mh.1 (4 * r + 6) (jn v3_2))) rfl ?_
    refine V_iload_n (pc := 18) C dX0_dotsIn_18 rfl rfl ?_
    refine V_icmpne (pc := 19) (tgt := 33) C dX0_dotsIn_19 (by decide) (fun hc6 => ?_) (fun hc6 => ?_)
    · have h := it_f h hc6
      refine V_iinc (pc := 33) C (v := (v3_2 + 1)) (lv' := [some (.ref r), some (.int v1), some (.int v2_1), some (.int (v3_2 + 1))]) dX0_dotsIn_33 rfl rfl (by decide) (Nat.le_of_ble_eq_true rfl) rfl rfl ?_
      refine V_goto (pc := 36) (tgt := 4) C dX0_dotsIn_36 (by decide) ?_
      exact hrec3 v2_1 (v3_2 + 1) h
    · have h := it_t h hc6
      refine V_aload_n (pc := 22) C dX0_dotsIn_22 rfl rfl ?_
      refine V_iload_n (pc := 23) C dX0_dotsIn_23 rfl rfl ?_
      refine V_callVi (pc := 24) (rest := []) C cs_X0_76 (c_X0_lies (d + 0) hr v3_2 mh) CF0.1 (LO_F hr) (by omega) (by decide) rfl rfl (Nat.le_of_ble_eq_true rfl) dX0_dotsIn_24 ?_
      refine V_ifne (pc := 27) (tgt := 33) C dX0_dotsIn_27 (by decide) (fun hc7 => ?_) (fun hc7 => ?_)
      · have h := it_f h hc7
        refine V_iinc (pc := 33) C (v := (v3_2 + 1)) (lv' := [some (.ref r), some (.int v1), some (.int v2_1), some (.int (v3_2 + 1))]) dX0_dotsIn_33 rfl rfl (by decide) (Nat.le_of_ble_eq_true rfl) rfl rfl ?_
        refine V_goto (pc := 36) (tgt := 4) C dX0_dotsIn_36 (by decide) ?_
        exact hrec3 v2_1 (v3_2 + 1) h
      · have h := it_t h hc7
        refine V_iinc (pc := 30) C (v := (v2_1 + 1)) (lv' := [some (.ref r), some (.int v1), some (.int (v2_1 + 1)), some (.int v3_2)]) dX0_dotsIn_30 rfl rfl (by decide) (Nat.le_of_ble_eq_true rfl) rfl rfl ?_
        refine V_iinc (pc := 33) C (v := (v3_2 + 1)) (lv' := [some (.ref r), some (.int v1), some (.int (v2_1 + 1)), some (.int (v3_2 + 1))]) dX0_dotsIn_33 rfl rfl (by decide) (Nat.le_of_ble_eq_true rfl) rfl rfl ?_
        refine V_goto (pc := 36) (tgt := 4) C dX0_dotsIn_36 (by decide) ?_
        exact hrec3 (v2_1 + 1) (v3_2 + 1) h
def X0_stripsWithFinds_L4 (r : Nat) (mh : vMH) (rec3 : Int32 → Int32 → Option (Int32)) (v1_1 : Int32) (v2_2 : Int32) : Option (Int32) := (if (mh.1 r 4) ≤ v2_2 then (some v1_1) else (if (X0_lies r v2_2 mh) = 0 then (rec3 v1_1 (v2_2 + 1)) else (chk (inb v2_2 12) (rec3 (v1_1 ||| (jl 1 ((mh.1 (4 * r + 6) (jn v2_2)) / 8))) (v2_2 + 1)))))
def X0_stripsWithFinds (r : Nat) (mh : vMH) : Option (Int32) := (lq2 4096 (X0_stripsWithFinds_L4 r mh) 0 0)
set_option maxRecDepth 100000 in
set_option maxHeartbeats 8000000 in
theorem c_X0_stripsWithFinds (d : Nat) {r : Nat} (hr : isF r) (mh : vMH) {res : Int32} (h : X0_stripsWithFinds r mh = some res) : MC LC (d + 2) yX0_stripsWithFinds cX0_stripsWithFinds 3 (some .int) [.ref r] mh (some (.int res)) mh := by
  refine MC_of 2 (by decide) rfl (fun X C hG => ?_)
  replace C : Cx X (d + 2) 3 cX0_stripsWithFinds RX0 (some .int) := C
  show Vw LC X (d + 2) 3 0 [some (.ref r), none, none] [] mh
  unfold X0_stripsWithFinds at h
  refine V_iconst (pc := 0) C (v := 0) dX0_stripsWithFinds_0 (by decide) ?_
  refine V_istore_n (pc := 1) C (lv' := [some (.ref r), some (.int 0), none]) dX0_stripsWithFinds_1 rfl (by decide) (Nat.le_of_ble_eq_true rfl) rfl rfl ?_
  refine V_iconst (pc := 2) C (v := 0) dX0_stripsWithFinds_2 (by decide) ?_
  refine V_istore_n (pc := 3) C (lv' := [some (.ref r), some (.int 0), some (.int 0)]) dX0_stripsWithFinds_3 rfl (by decide) (Nat.le_of_ble_eq_true rfl) rfl rfl ?_
  refine lq2_ok (fun (v1_1 : Int32) (v2_2 : Int32) => Vw LC X (d + 2) 3 4 [some (.ref r), some (.int v1_1), some (.int v2_2)] [] mh) h (fun rec3 hrec3 v1_1 v2_2 h => ?_)
  unfold X0_stripsWithFinds_L4 at h
  refine V_iload_n (pc := 4) C dX0_stripsWithFinds_4 rfl rfl ?_
  refine V_aload_n (pc := 5) C dX0_stripsWithFinds_5 rfl rfl ?_
  refine V_getI (pc := 6) C CF0 fl_X0_24 (LO_F hr) (by decide) rfl dX0_stripsWithFinds_6 (v := (mh.1 r 4)) rfl ?_
  refine V_icmpge (pc := 9) (tgt := 40) C dX0_stripsWithFinds_9 (by decide) (fun hc4 => ?_) (fun hc4 => ?_)
  · have h := it_t h hc4
    refine V_iload_n (pc := 40) C dX0_stripsWithFinds_40 rfl rfl ?_
    exact V_iret (pc := 41) C (gdo h hG) dX0_stripsWithFinds_41
  · have h := it_f h hc4
    refine V_aload_n (pc := 12) C dX0_stripsWithFinds_12 rfl rfl ?_
    refine V_iload_n (pc := 13) C dX0_stripsWithFinds_13 rfl rfl ?_
    refine V_callVi (pc := 14) (rest := []) C cs_X0_76 (c_X0_lies (d + 0) hr v2_2 mh) CF0.1 (LO_F hr) (by omega) (by decide) rfl rfl (Nat.le_of_ble_eq_true rfl) dX0_stripsWithFinds_14 ?_
    refine V_ifeq (pc := 17) (tgt := 34) C dX0_stripsWithFinds_17 (by decide) (fun hc5 => ?_) (fun hc5 => ?_)
    · have h := it_t h hc5
      refine V_iinc (pc := 34) C (v := (v2_2 + 1)) (lv' := [some (.ref r), some (.int v1_1), some (.int (v2_2 + 1))]) dX0_stripsWithFinds_34 rfl rfl (by decide) (Nat.le_of_ble_eq_true rfl) rfl rfl ?_
      refine V_goto (pc := 37) (tgt := 4) C dX0_stripsWithFinds_37 (by decide) ?_
      exact hrec3 v1_1 (v2_2 + 1) h
    · have h := it_f h hc5
      refine V_iload_n (pc := 20) C dX0_stripsWithFinds_20 rfl rfl ?_
      refine V_iconst (pc := 21) C (v := 1) dX0_stripsWithFinds_21 (by decide) ?_
      refine V_aload_n (pc := 22) C dX0_stripsWithFinds_22 rfl rfl ?_
      refine V_getR (pc := 23) C (r' := (4 * r + 6)) CF0 fl_X0_15 (LO_F hr) (by decide) rfl dX0_stripsWithFinds_23 ?_
      refine V_iload_n (pc := 26) C dX0_stripsWithFinds_26 rfl rfl ?_
      obtain ⟨hi6, h⟩ := chk_ok h
      refine V_iald (pc := 27) C (LA_F1 hr) hi6 dX0_stripsWithFinds_27 (v := (mh.1 (4 * r + 6) (jn v2_2))) rfl ?_
      refine V_bipush (pc := 28) C (v := 8) dX0_stripsWithFinds_28 (by decide) ?_
      refine V_idiv (pc := 30) C dX0_stripsWithFinds_30 (by decide) ?_
      refine V_ishl (pc := 31) C dX0_stripsWithFinds_31 ?_
      refine V_ior (pc := 32) C dX0_stripsWithFinds_32 ?_
      refine V_istore_n (pc := 33) C (lv' := [some (.ref r), some (.int (v1_1 ||| (jl 1 ((mh.1 (4 * r + 6) (jn v2_2)) / 8)))), some (.int v2_2)]) dX0_stripsWithFinds_33 rfl (by decide) (Nat.le_of_ble_eq_true rfl) rfl rfl ?_
      refine V_iinc (pc := 34) C (v := (v2_2 + 1)) (lv' := [some (.ref r), some (.int (v1_1 ||| (jl 1 ((mh.1 (4 * r + 6) (jn v2_2)) / 8)))), some (.int (v2_2 + 1))]) dX0_stripsWithFinds_34 rfl rfl (by decide) (Nat.le_of_ble_eq_true rfl) rfl rfl ?_
      refine V_goto (pc := 37) (tgt := 4) C dX0_stripsWithFinds_37 (by decide) ?_
      exact hrec3 (v1_1 ||| (jl 1 ((mh.1 (4 * r + 6) (jn v2_2)) / 8))) (v2_2 + 1) h
def X0_farFrom_L4 (r : Nat) (v1 : Int32) (mh : vMH) (rec3 : Int32 → Int32 → Option (Int32)) (v2_1 : Int32) (v3_2 : Int32) : Option (Int32) := (if (mh.1 r 4) ≤ v3_2 then (some v2_1) else (if (X0_lies r v3_2 mh) = 0 then (chk (inb v3_2 12) (rec3 ((v2_1 + (3 * (jabs (((mh.1 (4 * r + 6) (jn v3_2)) / 8) - (v1 / 8))))) + (jabs ((jr (mh.1 (4 * r + 6) (jn v3_2)) 8) - (jr v1 8)))) (v3_2 + 1))) else (rec3 v2_1 (v3_2 + 1))))
def X0_farFrom (r : Nat) (v1 : Int32) (mh : vMH) : Option (Int32) := (lq2 4096 (X0_farFrom_L4 r v1 mh) 0 0)
set_option maxRecDepth 100000 in
set_option maxHeartbeats 8000000 in
theorem c_X0_farFrom (d : Nat) {r : Nat} (hr : isF r) (v1 : Int32) (mh : vMH) {res : Int32} (h : X0_farFrom r v1 mh = some res) : MC LC (d + 2) yX0_farFrom cX0_farFrom 4 (some .int) [.ref r, .int v1] mh (some (.int res)) mh := by
  refine MC_of 2 (by decide) rfl (fun X C hG => ?_)
  replace C : Cx X (d + 2) 4 cX0_farFrom RX0 (some .int) := C
  show Vw LC X (d + 2) 4 0 [some (.ref r), some (.int v1), none, none] [] mh
  unfold X0_farFrom at h
  refine V_iconst (pc := 0) C (v := 0) dX0_farFrom_0 (by decide) ?_
  refine V_istore_n (pc := 1) C (lv' := [some (.ref r), some (.int v1), some (.int 0), none]) dX0_farFrom_1 rfl (by decide) (Nat.le_of_ble_eq_true rfl) rfl rfl ?_
  refine V_iconst (pc := 2) C (v := 0) dX0_farFrom_2 (by decide) ?_
  refine V_istore_n (pc := 3) C (lv' := [some (.ref r), some (.int v1), some (.int 0), some (.int 0)]) dX0_farFrom_3 rfl (by decide) (Nat.le_of_ble_eq_true rfl) rfl rfl ?_
  refine lq2_ok (fun (v2_1 : Int32) (v3_2 : Int32) => Vw LC X (d + 2) 4 4 [some (.ref r), some (.int v1), some (.int v2_1), some (.int v3_2)] [] mh) h (fun rec3 hrec3 v2_1 v3_2 h => ?_)
  unfold X0_farFrom_L4 at h
  refine V_iload_n (pc := 4) C dX0_farFrom_4 rfl rfl ?_
  refine V_aload_n (pc := 5) C dX0_farFrom_5 rfl rfl ?_
  refine V_getI (pc := 6) C CF0 fl_X0_24 (LO_F hr) (by decide) rfl dX0_farFrom_6 (v := (mh.1 r 4)) rfl ?_
  refine V_icmpge (pc := 9) (tgt := 68) C dX0_farFrom_9 (by decide) (fun hc4 => ?_) (fun hc4 => ?_)
  · have h := it_t h hc4
    refine V_iload_n (pc := 68) C dX0_farFrom_68 rfl rfl ?_
    exact V_iret (pc := 69) C (gdo h hG) dX0_farFrom_69
  · have h := it_f h hc4
    refine V_aload_n (pc := 12) C dX0_farFrom_12 rfl rfl ?_
    refine V_iload_n (pc := 13) C dX0_farFrom_13 rfl rfl ?_
    refine V_callVi (pc := 14) (rest := []) C cs_X0_76 (c_X0_lies (d + 0) hr v3_2 mh) CF0.1 (LO_F hr) (by omega) (by decide) rfl rfl (Nat.le_of_ble_eq_true rfl) dX0_farFrom_14 ?_
    refine V_ifne (pc := 17) (tgt := 62) C dX0_farFrom_17 (by decide) (fun hc5 => ?_) (fun hc5 => ?_)
    · have h := it_f h hc5
      refine V_iinc (pc := 62) C (v := (v3_2 + 1)) (lv' := [some (.ref r), some (.int v1), some (.int v2_1), some (.int (v3_2 + 1))]) dX0_farFrom_62 rfl rfl (by decide) (Nat.le_of_ble_eq_true rfl) rfl rfl ?_
      refine V_goto (pc := 65) (tgt := 4) C dX0_farFrom_65 (by decide) ?_
      exact hrec3 v2_1 (v3_2 + 1) h
    · have h := it_t h hc5
      refine V_iload_n (pc := 20) C dX0_farFrom_20 rfl rfl ?_
      refine V_iconst (pc := 21) C (v := 3) dX0_farFrom_21 (by decide) ?_
      refine V_aload_n (pc := 22) C dX0_farFrom_22 rfl rfl ?_
      refine V_getR (pc := 23) C (r' := (4 * r + 6)) CF0 fl_X0_15 (LO_F hr) (by decide) rfl dX0_farFrom_23 ?_
      refine V_iload_n (pc := 26) C dX0_farFrom_26 rfl rfl ?_
      obtain ⟨hi6, h⟩ := chk_ok h
      refine V_iald (pc := 27) C (LA_F1 hr) hi6 dX0_farFrom_27 (v := (mh.1 (4 * r + 6) (jn v3_2))) rfl ?_
      refine V_bipush (pc := 28) C (v := 8) dX0_farFrom_28 (by decide) ?_
      refine V_idiv (pc := 30) C dX0_farFrom_30 (by decide) ?_
      refine V_iload_n (pc := 31) C dX0_farFrom_31 rfl rfl ?_
      refine V_bipush (pc := 32) C (v := 8) dX0_farFrom_32 (by decide) ?_
      refine V_idiv (pc := 34) C dX0_farFrom_34 (by decide) ?_
      refine V_isub (pc := 35) C dX0_farFrom_35 ?_
      refine V_abs (pc := 36) C ml_X0_90 (Nat.le_of_ble_eq_true rfl) dX0_farFrom_36 ?_
      refine V_imul (pc := 39) C dX0_farFrom_39 ?_
      refine V_iadd (pc := 40) C dX0_farFrom_40 ?_
      refine V_istore_n (pc := 41) C (lv' := [some (.ref r), some (.int v1), some (.int (v2_1 + (3 * (jabs (((mh.1 (4 * r + 6) (jn v3_2)) / 8) - (v1 / 8)))))), some (.int v3_2)]) dX0_farFrom_41 rfl (by decide) (Nat.le_of_ble_eq_true rfl) rfl rfl ?_
      refine V_iload_n (pc := 42) C dX0_farFrom_42 rfl rfl ?_
      refine V_aload_n (pc := 43) C dX0_farFrom_43 rfl rfl ?_
      refine V_getR (pc := 44) C (r' := (4 * r + 6)) CF0 fl_X0_15 (LO_F hr) (by decide) rfl dX0_farFrom_44 ?_
      refine V_iload_n (pc := 47) C dX0_farFrom_47 rfl rfl ?_
      refine V_iald (pc := 48) C (LA_F1 hr) hi6 dX0_farFrom_48 (v := (mh.1 (4 * r + 6) (jn v3_2))) rfl ?_
      refine V_bipush (pc := 49) C (v := 8) dX0_farFrom_49 (by decide) ?_
      refine V_irem (pc := 51) C dX0_farFrom_51 (by decide) ?_
      refine V_iload_n (pc := 52) C dX0_farFrom_52 rfl rfl ?_
      refine V_bipush (pc := 53) C (v := 8) dX0_farFrom_53 (by decide) ?_
      refine V_irem (pc := 55) C dX0_farFrom_55 (by decide) ?_
      refine V_isub (pc := 56) C dX0_farFrom_56 ?_
      refine V_abs (pc := 57) C ml_X0_90 (Nat.le_of_ble_eq_true rfl) dX0_farFrom_57 ?_
      refine V_iadd (pc := 60) C dX0_farFrom_60 ?_
      refine V_istore_n (pc := 61) C (lv' := [some (.ref r), some (.int v1), some (.int ((v2_1 + (3 * (jabs (((mh.1 (4 * r + 6) (jn v3_2)) / 8) - (v1 / 8))))) + (jabs ((jr (mh.1 (4 * r + 6) (jn v3_2)) 8) - (jr v1 8))))), some (.int v3_2)]) dX0_farFrom_61 rfl (by decide) (Nat.le_of_ble_eq_true rfl) rfl rfl ?_
      refine V_iinc (pc := 62) C (v := (v3_2 + 1)) (lv' := [some (.ref r), some (.int v1), some (.int ((v2_1 + (3 * (jabs (((mh.1 (4 * r + 6) (jn v3_2)) / 8) - (v1 / 8))))) + (jabs ((jr (mh.1 (4 * r + 6) (jn v3_2)) 8) - (jr v1 8))))), some (.int (v3_2 + 1))]) dX0_farFrom_62 rfl rfl (by decide) (Nat.le_of_ble_eq_true rfl) rfl rfl ?_
      refine V_goto (pc := 65) (tgt := 4) C dX0_farFrom_65 (by decide) ?_
      exact hrec3 ((v2_1 + (3 * (jabs (((mh.1 (4 * r + 6) (jn v3_2)) / 8) - (v1 / 8))))) + (jabs ((jr (mh.1 (4 * r + 6) (jn v3_2)) 8) - (jr v1 8)))) (v3_2 + 1) h
def X1_append (v1 : Int32) (mh : vMH) : Option (Int32 × vMH) := (if (mh.1 6 0) < 160 then (chk (inb (mh.1 6 0) 160) (some (((mh.1 6 0) + 1), (v_up (v_up mh 29 (jn (mh.1 6 0)) v1) 6 0 ((mh.1 6 0) + 1))))) else (some ((-4), mh)))
set_option maxRecDepth 100000 in
set_option maxHeartbeats 8000000 in
theorem c_X1_append (d : Nat) (v1 : Int32) (mh : vMH) {res : Int32 × vMH} (h : X1_append v1 mh = some res) : MC LC (d + 0) yX1_append cX1_append 2 (some .int) [.ref 6, .int v1] mh (some (.int res.1)) res.2 := by
  refine MC_of 0 (by decide) rfl (fun X C hG => ?_)
  replace C : Cx X (d + 0) 2 cX1_append RX1 (some .int) := C
  show Vw LC X (d + 0) 2 0 [some (.ref 6), some (.int v1)] [] mh
  unfold X1_append at h
  refine V_aload_n (pc := 0) C dX1_append_0 rfl rfl ?_
  refine V_getI (pc := 1) C CF1 fl_X1_9 LO1 (by decide) rfl dX1_append_1 (v := (mh.1 6 0)) rfl ?_
  refine V_aload_n (pc := 4) C dX1_append_4 rfl rfl ?_
  refine V_getR (pc := 5) C (r' := 29) CF1 fl_X1_15 LO1 (by decide) rfl dX1_append_5 ?_
  refine V_alen (pc := 8) C LAC29 (v := 160) (by decide) dX1_append_8 ?_
  refine V_icmplt (pc := 9) (tgt := 15) C dX1_append_9 (by decide) (fun hc1 => ?_) (fun hc1 => ?_)
  · have h := it_t h hc1
    refine V_aload_n (pc := 15) C dX1_append_15 rfl rfl ?_
    refine V_getR (pc := 16) C (r' := 29) CF1 fl_X1_15 LO1 (by decide) rfl dX1_append_16 ?_
    refine V_aload_n (pc := 19) C dX1_append_19 rfl rfl ?_
    refine V_getI (pc := 20) C CF1 fl_X1_9 LO1 (by decide) rfl dX1_append_20 (v := (mh.1 6 0)) rfl ?_
    refine V_iload_n (pc := 23) C dX1_append_23 rfl rfl ?_
    obtain ⟨hi2, h⟩ := chk_ok h
    refine V_iast (pc := 24) C LAC29 hi2 dX1_append_24 ?_
    refine V_aload_n (pc := 25) C dX1_append_25 rfl rfl ?_
    refine V_dup (pc := 26) C dX1_append_26 rfl ?_
    refine V_getI (pc := 27) C CF1 fl_X1_9 LO1 (by decide) rfl dX1_append_27 (v := (mh.1 6 0)) (rd_oa LO1 LAC29) ?_
    refine V_iconst (pc := 30) C (v := 1) dX1_append_30 (by decide) ?_
    refine V_iadd (pc := 31) C dX1_append_31 ?_
    refine V_putI (pc := 32) C CF1 fl_X1_9 LO1 (by decide) rfl rfl rfl dX1_append_32 ?_
    refine V_aload_n (pc := 35) C dX1_append_35 rfl rfl ?_
    refine V_getI (pc := 36) C CF1 fl_X1_9 LO1 (by decide) rfl dX1_append_36 (v := ((mh.1 6 0) + 1)) rd_eq ?_
    exact V_iret (pc := 39) C (gdow h hG) dX1_append_39
  · have h := it_f h hc1
    refine V_bipush (pc := 12) C (v := (-4)) dX1_append_12 (by decide) ?_
    exact V_iret (pc := 14) C (gdow h hG) dX1_append_14
def X3_begin (mh : vMH) : vMH := (v_up mh 5 5 ((mh.1 5 0) * 160))
set_option maxRecDepth 100000 in
set_option maxHeartbeats 8000000 in
theorem c_X3_begin (d : Nat)  (mh : vMH) : MC LC (d + 0) yX3_begin cX3_begin 1 none [.ref 5] mh none (X3_begin mh) := by
  refine MC_of 0 (by decide) rfl (fun X C hG => ?_)
  replace C : Cx X (d + 0) 1 cX3_begin RX3 none := C
  show Vw LC X (d + 0) 1 0 [some (.ref 5)] [] mh
  obtain ⟨res, h⟩ : ∃ res, X3_begin mh = res := ⟨_, rfl⟩
  rw [h] at hG
  unfold X3_begin at h
  refine V_aload_n (pc := 0) C dX3_begin_0 rfl rfl ?_
  refine V_aload_n (pc := 1) C dX3_begin_1 rfl rfl ?_
  refine V_getI (pc := 2) C CF3 fl_X3_9 LO3 (by decide) rfl dX3_begin_2 (v := (mh.1 5 0)) rfl ?_
  refine V_sipush (pc := 5) C (v := 160) dX3_begin_5 (by decide) ?_
  refine V_imul (pc := 8) C dX3_begin_8 ?_
  refine V_putI (pc := 9) C CF3 fl_X3_28 LO3 (by decide) rfl rfl rfl dX3_begin_9 ?_
  exact V_ret0 (pc := 12) C (gdtv h hG) dX3_begin_12
def X1_isLetter (v0 : Int32) : Int32 := (if v0 < 97 then 0 else (if 122 < v0 then 0 else 1))
set_option maxRecDepth 100000 in
set_option maxHeartbeats 8000000 in
theorem c_X1_isLetter (d : Nat) (v0 : Int32) (mh : vMH) : MC LC (d + 0) yX1_isLetter cX1_isLetter 1 (some .boolean) [.int v0] mh (some (.int (X1_isLetter v0))) mh := by
  refine MC_of 0 (by decide) rfl (fun X C hG => ?_)
  replace C : Cx X (d + 0) 1 cX1_isLetter RX1 (some .boolean) := C
  show Vw LC X (d + 0) 1 0 [some (.int v0)] [] mh
  obtain ⟨res, h⟩ : ∃ res, X1_isLetter v0 = res := ⟨_, rfl⟩
  rw [h] at hG
  unfold X1_isLetter at h
  refine V_iload_n (pc := 0) C dX1_isLetter_0 rfl rfl ?_
  refine V_bipush (pc := 1) C (v := 97) dX1_isLetter_1 (by decide) ?_
  refine V_icmplt (pc := 3) (tgt := 16) C dX1_isLetter_3 (by decide) (fun hc1 => ?_) (fun hc1 => ?_)
  · have h := it_t h hc1
    refine V_iconst (pc := 16) C (v := 0) dX1_isLetter_16 (by decide) ?_
    exact V_zret (pc := 17) C rfl (gdt h hG) dX1_isLetter_17
  · have h := it_f h hc1
    refine V_iload_n (pc := 6) C dX1_isLetter_6 rfl rfl ?_
    refine V_bipush (pc := 7) C (v := 122) dX1_isLetter_7 (by decide) ?_
    refine V_icmpgt (pc := 9) (tgt := 16) C dX1_isLetter_9 (by decide) (fun hc2 => ?_) (fun hc2 => ?_)
    · have h := it_t h hc2
      refine V_iconst (pc := 16) C (v := 0) dX1_isLetter_16 (by decide) ?_
      exact V_zret (pc := 17) C rfl (gdt h hG) dX1_isLetter_17
    · have h := it_f h hc2
      refine V_iconst (pc := 12) C (v := 1) dX1_isLetter_12 (by decide) ?_
      refine V_goto (pc := 13) (tgt := 17) C dX1_isLetter_13 (by decide) ?_
      exact V_zret (pc := 17) C rfl (gdt h hG) dX1_isLetter_17
theorem z_X1_isLetter (v0 : Int32) : narrow .boolean (.int (X1_isLetter v0)) = .int (X1_isLetter v0) := by
  unfold X1_isLetter
  (repeat' split) <;> rfl
