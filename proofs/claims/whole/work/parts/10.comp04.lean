def X5_came_L54 (v1 : Int32) (v2 : Int32) (mh : vMH) (J5 : Int32 → Option (Int32)) (rec9 : Int32 → Int32 → Int32 → Option (Int32)) (v4_6 : Int32) (v5_7 : Int32) (v6_8 : Int32) : Option (Int32) := (if v2 < v6_8 then (J5 v5_7) else (wj1 (fun (s11 : Int32) => (if (jr ((mh.1 1 8) - v6_8) 2) = 0 then (rec9 s11 (v5_7 + (-(X5_dragsOf (mh.1 9 (jn v1)) (mh.1 12 (jn v1)) s11))) (v6_8 + 1)) else (rec9 s11 (v5_7 + (X5_dragsOf (mh.1 9 (jn v1)) (mh.1 12 (jn v1)) s11)) (v6_8 + 1)))) fun J12 => (if 12 < v4_6 then (J12 (jmin 20 (v4_6 + 1))) else (J12 (12 - v4_6)))))
def X5_came (v1 : Int32) (v2 : Int32) (mh : vMH) : Option (Int32) := (if (X0_has 1 v1 mh) = 0 then (some (-2)) else (if (X5_isWithin v2 0 20) = 0 then (some (-2)) else (chk (inb v1 12) (wj1 (fun (v5_4 : Int32) => (some (((mh.1 10 (jn v1)) - (jr (mh.1 10 (jn v1)) 8)) + (X5_held v5_4 7)))) fun J5 => (lq3 4096 (X5_came_L54 v1 v2 mh J5) (mh.1 11 (jn v1)) (jr (mh.1 10 (jn v1)) 8) 1)))))
set_option maxRecDepth 100000 in
set_option maxHeartbeats 8000000 in
theorem c_X5_came (d : Nat) (v1 : Int32) (v2 : Int32) (mh : vMH) {res : Int32} (h : X5_came v1 v2 mh = some res) : MC LC (d + 1) yX5_came cX5_came 8 (some .int) [.ref 0, .int v1, .int v2] mh (some (.int res)) mh := by
  refine MC_of 5 (by decide) rfl (fun X C hG => ?_)
  replace C : Cx X (d + 1) 8 cX5_came RX5 (some .int) := C
  show Vw LC X (d + 1) 8 0 [some (.ref 0), some (.int v1), some (.int v2), none, none, none, none, none] [] mh
  unfold X5_came at h
  refine V_aload_n (pc := 0) C dX5_came_0 rfl rfl ?_
  refine V_getR (pc := 1) C (r' := 1) CF5 fl_X5_12 LO5 (by decide) rfl dX5_came_1 ?_
  refine V_iload_n (pc := 4) C dX5_came_4 rfl rfl ?_
  refine V_callVi (pc := 5) (rest := []) C cs_X5_99 (c_X0_has (d + 0) isF1 v1 mh) CF0.1 (LO_F isF1) (by omega) (by decide) rfl rfl (Nat.le_of_ble_eq_true rfl) dX5_came_5 ?_
  refine V_ifeq (pc := 8) (tgt := 21) C dX5_came_8 (by decide) (fun hc1 => ?_) (fun hc1 => ?_)
  · have h := it_t h hc1
    refine V_bipush (pc := 21) C (v := (-2)) dX5_came_21 (by decide) ?_
    exact V_iret (pc := 23) C (gdo h hG) dX5_came_23
  · have h := it_f h hc1
    refine V_iload_n (pc := 11) C dX5_came_11 rfl rfl ?_
    refine V_iconst (pc := 12) C (v := 0) dX5_came_12 (by decide) ?_
    refine V_bipush (pc := 13) C (v := 20) dX5_came_13 (by decide) ?_
    refine V_callSi (pc := 15) (rest := []) C cs_X5_59 (c_X5_isWithin (d + 0) v2 0 20 mh) (by omega) (by decide) rfl rfl (Nat.le_of_ble_eq_true rfl) dX5_came_15 ?_
    refine V_ifne (pc := 18) (tgt := 24) C dX5_came_18 (by decide) (fun hc2 => ?_) (fun hc2 => ?_)
    · have h := it_f h hc2
      refine V_aload_n (pc := 24) C dX5_came_24 rfl rfl ?_
      refine V_getR (pc := 25) C (r' := 1) CF5 fl_X5_12 LO5 (by decide) rfl dX5_came_25 ?_
      refine V_getR (pc := 28) C (r' := 10) CF0 fl_X5_78 (LO_F isF1) (by decide) rfl dX5_came_28 ?_
      refine V_iload_n (pc := 31) C dX5_came_31 rfl rfl ?_
      obtain ⟨hi3, h⟩ := chk_ok h
      refine V_iald (pc := 32) C (LA_F1 isF1) hi3 dX5_came_32 (v := (mh.1 10 (jn v1))) rfl ?_
      refine V_istore_n (pc := 33) C (lv' := [some (.ref 0), some (.int v1), some (.int v2), some (.int (mh.1 10 (jn v1))), none, none, none, none]) dX5_came_33 rfl (by decide) (Nat.le_of_ble_eq_true rfl) rfl rfl ?_
      refine V_aload_n (pc := 34) C dX5_came_34 rfl rfl ?_
      refine V_getR (pc := 35) C (r' := 1) CF5 fl_X5_12 LO5 (by decide) rfl dX5_came_35 ?_
      refine V_getR (pc := 38) C (r' := 11) CF0 fl_X5_86 (LO_F isF1) (by decide) rfl dX5_came_38 ?_
      refine V_iload_n (pc := 41) C dX5_came_41 rfl rfl ?_
      refine V_iald (pc := 42) C (LA_F2 isF1) hi3 dX5_came_42 (v := (mh.1 11 (jn v1))) rfl ?_
      refine V_istore (pc := 43) C (lv' := [some (.ref 0), some (.int v1), some (.int v2), some (.int (mh.1 10 (jn v1))), some (.int (mh.1 11 (jn v1))), none, none, none]) dX5_came_43 (by decide) (Nat.le_of_ble_eq_true rfl) rfl rfl ?_
      refine V_iload_n (pc := 45) C dX5_came_45 rfl rfl ?_
      refine V_bipush (pc := 46) C (v := 8) dX5_came_46 (by decide) ?_
      refine V_irem (pc := 48) C dX5_came_48 (by decide) ?_
      refine V_istore (pc := 49) C (lv' := [some (.ref 0), some (.int v1), some (.int v2), some (.int (mh.1 10 (jn v1))), some (.int (mh.1 11 (jn v1))), some (.int (jr (mh.1 10 (jn v1)) 8)), none, none]) dX5_came_49 (by decide) (Nat.le_of_ble_eq_true rfl) rfl rfl ?_
      refine V_iconst (pc := 51) C (v := 1) dX5_came_51 (by decide) ?_
      refine V_istore (pc := 52) C (lv' := [some (.ref 0), some (.int v1), some (.int v2), some (.int (mh.1 10 (jn v1))), some (.int (mh.1 11 (jn v1))), some (.int (jr (mh.1 10 (jn v1)) 8)), some (.int 1), none]) dX5_came_52 (by decide) (Nat.le_of_ble_eq_true rfl) rfl rfl ?_
      refine wj1_ok (fun (v5_4 : Int32) => Vw LC X (d + 1) 8 145 [some (.ref 0), some (.int v1), some (.int v2), some (.int (mh.1 10 (jn v1))), none, some (.int v5_4), none, none] [] mh) h (fun v5_4 h => ?_) (fun J5 hJ5 h => ?_)
      · refine V_iload_n (pc := 145) C dX5_came_145 rfl rfl ?_
        refine V_iload_n (pc := 146) C dX5_came_146 rfl rfl ?_
        refine V_bipush (pc := 147) C (v := 8) dX5_came_147 (by decide) ?_
        refine V_irem (pc := 149) C dX5_came_149 (by decide) ?_
        refine V_isub (pc := 150) C dX5_came_150 ?_
        refine V_iload (pc := 151) C dX5_came_151 rfl ?_
        refine V_bipush (pc := 153) C (v := 7) dX5_came_153 (by decide) ?_
        refine V_callSi (pc := 155) (rest := [.int ((mh.1 10 (jn v1)) - (jr (mh.1 10 (jn v1)) 8))]) C cs_X5_186 (c_X5_held (d + 0) v5_4 7 mh) (by omega) (by decide) rfl rfl (Nat.le_of_ble_eq_true rfl) dX5_came_155 ?_
        refine V_iadd (pc := 158) C dX5_came_158 ?_
        exact V_iret (pc := 159) C (gdo h hG) dX5_came_159
      · refine lq3_ok (fun (v4_6 : Int32) (v5_7 : Int32) (v6_8 : Int32) => Vw LC X (d + 1) 8 54 [some (.ref 0), some (.int v1), some (.int v2), some (.int (mh.1 10 (jn v1))), some (.int v4_6), some (.int v5_7), some (.int v6_8), none] [] mh) h (fun rec9 hrec9 v4_6 v5_7 v6_8 h => ?_)
        unfold X5_came_L54 at h
        refine V_iload (pc := 54) C dX5_came_54 rfl ?_
        refine V_iload_n (pc := 56) C dX5_came_56 rfl rfl ?_
        refine V_icmpgt (pc := 57) (tgt := 145) C dX5_came_57 (by decide) (fun hc10 => ?_) (fun hc10 => ?_)
        · have h := it_t h hc10
          refine V_mask [true, true, true, true, false, true, false, true] (lv' := [some (.ref 0), some (.int v1), some (.int v2), some (.int (mh.1 10 (jn v1))), none, some (.int v5_7), none, none]) rfl ?_
          exact hJ5 v5_7 h
        · have h := it_f h hc10
          refine V_iload (pc := 60) C dX5_came_60 rfl ?_
          refine V_bipush (pc := 62) C (v := 12) dX5_came_62 (by decide) ?_
          refine wj1_ok (fun (s11 : Int32) => Vw LC X (d + 1) 8 84 [some (.ref 0), some (.int v1), some (.int v2), some (.int (mh.1 10 (jn v1))), some (.int v4_6), some (.int v5_7), some (.int v6_8), none] [.int s11] mh) h (fun s11 h => ?_) (fun J12 hJ12 h => ?_)
          · refine V_istore (pc := 84) C (lv' := [some (.ref 0), some (.int v1), some (.int v2), some (.int (mh.1 10 (jn v1))), some (.int s11), some (.int v5_7), some (.int v6_8), none]) dX5_came_84 (by decide) (Nat.le_of_ble_eq_true rfl) rfl rfl ?_
            refine V_aload_n (pc := 86) C dX5_came_86 rfl rfl ?_
            refine V_getR (pc := 87) C (r' := 1) CF5 fl_X5_12 LO5 (by decide) rfl dX5_came_87 ?_
            refine V_getR (pc := 90) C (r' := 9) CF0 fl_X5_105 (LO_F isF1) (by decide) rfl dX5_came_90 ?_
            refine V_iload_n (pc := 93) C dX5_came_93 rfl rfl ?_
            refine V_iald (pc := 94) C (LA_F0 isF1) hi3 dX5_came_94 (v := (mh.1 9 (jn v1))) rfl ?_
            refine V_aload_n (pc := 95) C dX5_came_95 rfl rfl ?_
            refine V_getR (pc := 96) C (r' := 1) CF5 fl_X5_12 LO5 (by decide) rfl dX5_came_96 ?_
            refine V_getR (pc := 99) C (r' := 12) CF0 fl_X5_89 (LO_F isF1) (by decide) rfl dX5_came_99 ?_
            refine V_iload_n (pc := 102) C dX5_came_102 rfl rfl ?_
            refine V_iald (pc := 103) C (LA_F3 isF1) hi3 dX5_came_103 (v := (mh.1 12 (jn v1))) rfl ?_
            refine V_iload (pc := 104) C dX5_came_104 rfl ?_
            refine V_callSi (pc := 106) (rest := []) C cs_X5_118 (c_X5_dragsOf (d + 0) (mh.1 9 (jn v1)) (mh.1 12 (jn v1)) s11 mh) (by omega) (by decide) rfl rfl (Nat.le_of_ble_eq_true rfl) dX5_came_106 ?_
            refine V_istore (pc := 109) C (lv' := [some (.ref 0), some (.int v1), some (.int v2), some (.int (mh.1 10 (jn v1))), some (.int s11), some (.int v5_7), some (.int v6_8), some (.int (X5_dragsOf (mh.1 9 (jn v1)) (mh.1 12 (jn v1)) s11))]) dX5_came_109 (by decide) (Nat.le_of_ble_eq_true rfl) rfl rfl ?_
            refine V_iload (pc := 111) C dX5_came_111 rfl ?_
            refine V_aload_n (pc := 113) C dX5_came_113 rfl rfl ?_
            refine V_getR (pc := 114) C (r' := 1) CF5 fl_X5_12 LO5 (by decide) rfl dX5_came_114 ?_
            refine V_getI (pc := 117) C CF0 fl_X5_157 (LO_F isF1) (by decide) rfl dX5_came_117 (v := (mh.1 1 8)) rfl ?_
            refine V_iload (pc := 120) C dX5_came_120 rfl ?_
            refine V_isub (pc := 122) C dX5_came_122 ?_
            refine V_iconst (pc := 123) C (v := 2) dX5_came_123 (by decide) ?_
            refine V_irem (pc := 124) C dX5_came_124 (by decide) ?_
            refine V_ifne (pc := 125) (tgt := 134) C dX5_came_125 (by decide) (fun hc13 => ?_) (fun hc13 => ?_)
            · have h := it_f h hc13
              refine V_iload (pc := 134) C dX5_came_134 rfl ?_
              refine V_iadd (pc := 136) C dX5_came_136 ?_
              refine V_istore (pc := 137) C (lv' := [some (.ref 0), some (.int v1), some (.int v2), some (.int (mh.1 10 (jn v1))), some (.int s11), some (.int (v5_7 + (X5_dragsOf (mh.1 9 (jn v1)) (mh.1 12 (jn v1)) s11))), some (.int v6_8), some (.int (X5_dragsOf (mh.1 9 (jn v1)) (mh.1 12 (jn v1)) s11))]) dX5_came_137 (by decide) (Nat.le_of_ble_eq_true rfl) rfl rfl ?_
              refine V_iinc (pc := 139) C (v := (v6_8 + 1)) (lv' := [some (.ref 0), some (.int v1), some (.int v2), some (.int (mh.1 10 (jn v1))), some (.int s11), some (.int (v5_7 + (X5_dragsOf (mh.1 9 (jn v1)) (mh.1 12 (jn v1)) s11))), some (.int (v6_8 + 1)), some (.int (X5_dragsOf (mh.1 9 (jn v1)) (mh.1 12 (jn v1)) s11))]) dX5_came_139 rfl rfl (by decide) (Nat.le_of_ble_eq_true rfl) rfl rfl ?_
              refine V_goto (pc := 142) (tgt := 54) C dX5_came_142 (by decide) ?_
              refine V_mask [true, true, true, true, true, true, true, false] (lv' := [some (.ref 0), some (.int v1), some (.int v2), some (.int (mh.1 10 (jn v1))), some (.int s11), some (.int (v5_7 + (X5_dragsOf (mh.1 9 (jn v1)) (mh.1 12 (jn v1)) s11))), some (.int (v6_8 + 1)), none]) rfl ?_
              exact hrec9 s11 (v5_7 + (X5_dragsOf (mh.1 9 (jn v1)) (mh.1 12 (jn v1)) s11)) (v6_8 + 1) h
            · have h := it_t h hc13
              refine V_iload (pc := 128) C dX5_came_128 rfl ?_
              refine V_ineg (pc := 130) C dX5_came_130 ?_
              refine V_goto (pc := 131) (tgt := 136) C dX5_came_131 (by decide) ?_
              refine V_iadd (pc := 136) C dX5_came_136 ?_
              refine V_istore (pc := 137) C (lv' := [some (.ref 0), some (.int v1), some (.int v2), some (.int (mh.1 10 (jn v1))), some (.int s11), some (.int (v5_7 + (-(X5_dragsOf (mh.1 9 (jn v1)) (mh.1 12 (jn v1)) s11)))), some (.int v6_8), some (.int (X5_dragsOf (mh.1 9 (jn v1)) (mh.1 12 (jn v1)) s11))]) dX5_came_137 (by decide) (Nat.le_of_ble_eq_true rfl) rfl rfl ?_
              refine V_iinc (pc := 139) C (v := (v6_8 + 1)) (lv' := [some (.ref 0), some (.int v1), some (.int v2), some (.int (mh.1 10 (jn v1))), some (.int s11), some (.int (v5_7 + (-(X5_dragsOf (mh.1 9 (jn v1)) (mh.1 12 (jn v1)) s11)))), some (.int (v6_8 + 1)), some (.int (X5_dragsOf (mh.1 9 (jn v1)) (mh.1 12 (jn v1)) s11))]) dX5_came_139 rfl rfl (by decide) (Nat.le_of_ble_eq_true rfl) rfl rfl ?_
              refine V_goto (pc := 142) (tgt := 54) C dX5_came_142 (by decide) ?_
              refine V_mask [true, true, true, true, true, true, true, false] (lv' := [some (.ref 0), some (.int v1), some (.int v2), some (.int (mh.1 10 (jn v1))), some (.int s11), some (.int (v5_7 + (-(X5_dragsOf (mh.1 9 (jn v1)) (mh.1 12 (jn v1)) s11)))), some (.int (v6_8 + 1)), none]) rfl ?_
              exact hrec9 s11 (v5_7 + (-(X5_dragsOf (mh.1 9 (jn v1)) (mh.1 12 (jn v1)) s11))) (v6_8 + 1) h
          · refine V_icmpgt (pc := 64) (tgt := 75) C dX5_came_64 (by decide) (fun hc14 => ?_) (fun hc14 => ?_)
            · have h := it_t h hc14
              refine V_bipush (pc := 75) C (v := 20) dX5_came_75 (by decide) ?_
              refine V_iload (pc := 77) C dX5_came_77 rfl ?_
              refine V_iconst (pc := 79) C (v := 1) dX5_came_79 (by decide) ?_
              refine V_iadd (pc := 80) C dX5_came_80 ?_
              refine V_min (pc := 81) C ml_X5_175 (Nat.le_of_ble_eq_true rfl) dX5_came_81 ?_
              exact hJ12 (jmin 20 (v4_6 + 1)) h
            · have h := it_f h hc14
              refine V_bipush (pc := 67) C (v := 12) dX5_came_67 (by decide) ?_
              refine V_iload (pc := 69) C dX5_came_69 rfl ?_
              refine V_isub (pc := 71) C dX5_came_71 ?_
              refine V_goto (pc := 72) (tgt := 84) C dX5_came_72 (by decide) ?_
              exact hJ12 (12 - v4_6) h
    · have h := it_t h hc2
      refine V_bipush (pc := 21) C (v := (-2)) dX5_came_21 (by decide) ?_
      exact V_iret (pc := 23) C (gdo h hG) dX5_came_23
def X5_dots (v1 : Int32) (mh : vMH) : Option (Int32) := (if (X5_isCell v1) = 0 then (some (-2)) else ((X0_dotsIn 1 v1 mh).bind fun q2 => (some q2)))
set_option maxRecDepth 100000 in
set_option maxHeartbeats 8000000 in
theorem c_X5_dots (d : Nat) (v1 : Int32) (mh : vMH) {res : Int32} (h : X5_dots v1 mh = some res) : MC LC (d + 3) yX5_dots cX5_dots 2 (some .int) [.ref 0, .int v1] mh (some (.int res)) mh := by
  refine MC_of 0 (by decide) rfl (fun X C hG => ?_)
  replace C : Cx X (d + 3) 2 cX5_dots RX5 (some .int) := C
  show Vw LC X (d + 3) 2 0 [some (.ref 0), some (.int v1)] [] mh
  unfold X5_dots at h
  refine V_iload_n (pc := 0) C dX5_dots_0 rfl rfl ?_
  refine V_callSi (pc := 1) (rest := []) C cs_X5_63 (c_X5_isCell (d + 2) v1 mh) (by omega) (by decide) rfl rfl (Nat.le_of_ble_eq_true rfl) dX5_dots_1 ?_
  refine V_ifne (pc := 4) (tgt := 10) C dX5_dots_4 (by decide) (fun hc1 => ?_) (fun hc1 => ?_)
  · have h := it_f h hc1
    refine V_aload_n (pc := 10) C dX5_dots_10 rfl rfl ?_
    refine V_getR (pc := 11) C (r' := 1) CF5 fl_X5_12 LO5 (by decide) rfl dX5_dots_11 ?_
    refine V_iload_n (pc := 14) C dX5_dots_14 rfl rfl ?_
    obtain ⟨q2, hq3, h⟩ := bnd_ok h
    refine V_callVi (pc := 15) (rest := []) C cs_X5_189 (c_X0_dotsIn (d + 0) isF1 v1 mh hq3) CF0.1 (LO_F isF1) (by omega) (by decide) rfl rfl (Nat.le_of_ble_eq_true rfl) dX5_dots_15 ?_
    exact V_iret (pc := 18) C (gdo h hG) dX5_dots_18
  · have h := it_t h hc1
    refine V_bipush (pc := 7) C (v := (-2)) dX5_dots_7 (by decide) ?_
    exact V_iret (pc := 9) C (gdo h hG) dX5_dots_9
def X5_thick_L6 (mh : vMH) (rec4 : Int32 → Int32 → Int32 → Option (Int32)) (v1_1 : Int32) (v2_2 : Int32) (v3_3 : Int32) : Option (Int32) := (if 48 ≤ v3_3 then (some v1_1) else ((X0_dotsIn 1 v3_3 mh).bind fun q6 => (if q6 ≤ v2_2 then (rec4 v1_1 v2_2 (v3_3 + 1)) else (rec4 v3_3 q6 (v3_3 + 1)))))
def X5_thick (mh : vMH) : Option (Int32) := (lq3 4096 (X5_thick_L6 mh) (-1) 0 0)
set_option maxRecDepth 100000 in
set_option maxHeartbeats 8000000 in
theorem c_X5_thick (d : Nat)  (mh : vMH) {res : Int32} (h : X5_thick mh = some res) : MC LC (d + 3) yX5_thick cX5_thick 5 (some .int) [.ref 0] mh (some (.int res)) mh := by
  refine MC_of 4 (by decide) rfl (fun X C hG => ?_)
  replace C : Cx X (d + 3) 5 cX5_thick RX5 (some .int) := C
  show Vw LC X (d + 3) 5 0 [some (.ref 0), none, none, none, none] [] mh
  unfold X5_thick at h
  refine V_iconst (pc := 0) C (v := (-1)) dX5_thick_0 (by decide) ?_
  refine V_istore_n (pc := 1) C (lv' := [some (.ref 0), some (.int (-1)), none, none, none]) dX5_thick_1 rfl (by decide) (Nat.le_of_ble_eq_true rfl) rfl rfl ?_
  refine V_iconst (pc := 2) C (v := 0) dX5_thick_2 (by decide) ?_
  refine V_istore_n (pc := 3) C (lv' := [some (.ref 0), some (.int (-1)), some (.int 0), none, none]) dX5_thick_3 rfl (by decide) (Nat.le_of_ble_eq_true rfl) rfl rfl ?_
  refine V_iconst (pc := 4) C (v := 0) dX5_thick_4 (by decide) ?_
  refine V_istore_n (pc := 5) C (lv' := [some (.ref 0), some (.int (-1)), some (.int 0), some (.int 0), none]) dX5_thick_5 rfl (by decide) (Nat.le_of_ble_eq_true rfl) rfl rfl ?_
  refine lq3_ok (fun (v1_1 : Int32) (v2_2 : Int32) (v3_3 : Int32) => Vw LC X (d + 3) 5 6 [some (.ref 0), some (.int v1_1), some (.int v2_2), some (.int v3_3), none] [] mh) h (fun rec4 hrec4 v1_1 v2_2 v3_3 h => ?_)
  unfold X5_thick_L6 at h
  refine V_iload_n (pc := 6) C dX5_thick_6 rfl rfl ?_
  refine V_bipush (pc := 7) C (v := 48) dX5_thick_7 (by decide) ?_
  refine V_icmpge (pc := 9) (tgt := 39) C dX5_thick_9 (by decide) (fun hc5 => ?_) (fun hc5 => ?_)
  · have h := it_t h hc5
    refine V_iload_n (pc := 39) C dX5_thick_39 rfl rfl ?_
    exact V_iret (pc := 40) C (gdo h hG) dX5_thick_40
  · have h := it_f h hc5
    refine V_aload_n (pc := 12) C dX5_thick_12 rfl rfl ?_
    refine V_getR (pc := 13) C (r' := 1) CF5 fl_X5_12 LO5 (by decide) rfl dX5_thick_13 ?_
    refine V_iload_n (pc := 16) C dX5_thick_16 rfl rfl ?_
    obtain ⟨q6, hq7, h⟩ := bnd_ok h
    refine V_callVi (pc := 17) (rest := []) C cs_X5_189 (c_X0_dotsIn (d + 0) isF1 v3_3 mh hq7) CF0.1 (LO_F isF1) (by omega) (by decide) rfl rfl (Nat.le_of_ble_eq_true rfl) dX5_thick_17 ?_
    refine V_istore (pc := 20) C (lv' := [some (.ref 0), some (.int v1_1), some (.int v2_2), some (.int v3_3), some (.int q6)]) dX5_thick_20 (by decide) (Nat.le_of_ble_eq_true rfl) rfl rfl ?_
    refine V_iload (pc := 22) C dX5_thick_22 rfl ?_
    refine V_iload_n (pc := 24) C dX5_thick_24 rfl rfl ?_
    refine V_icmple (pc := 25) (tgt := 33) C dX5_thick_25 (by decide) (fun hc8 => ?_) (fun hc8 => ?_)
    · have h := it_t h hc8
      refine V_iinc (pc := 33) C (v := (v3_3 + 1)) (lv' := [some (.ref 0), some (.int v1_1), some (.int v2_2), some (.int (v3_3 + 1)), some (.int q6)]) dX5_thick_33 rfl rfl (by decide) (Nat.le_of_ble_eq_true rfl) rfl rfl ?_
      refine V_goto (pc := 36) (tgt := 6) C dX5_thick_36 (by decide) ?_
      refine V_mask [true, true, true, true, false] (lv' := [some (.ref 0), some (.int v1_1), some (.int v2_2), some (.int (v3_3 + 1)), none]) rfl ?_
      exact hrec4 v1_1 v2_2 (v3_3 + 1) h
    · have h := it_f h hc8
      refine V_iload (pc := 28) C dX5_thick_28 rfl ?_
      refine V_istore_n (pc := 30) C (lv' := [some (.ref 0), some (.int v1_1), some (.int q6), some (.int v3_3), some (.int q6)]) dX5_thick_30 rfl (by decide) (Nat.le_of_ble_eq_true rfl) rfl rfl ?_
      refine V_iload_n (pc := 31) C dX5_thick_31 rfl rfl ?_
      refine V_istore_n (pc := 32) C (lv' := [some (.ref 0), some (.int v3_3), some (.int q6), some (.int v3_3), some (.int q6)]) dX5_thick_32 rfl (by decide) (Nat.le_of_ble_eq_true rfl) rfl rfl ?_
      refine V_iinc (pc := 33) C (v := (v3_3 + 1)) (lv' := [some (.ref 0), some (.int v3_3), some (.int q6), some (.int (v3_3 + 1)), some (.int q6)]) dX5_thick_33 rfl rfl (by decide) (Nat.le_of_ble_eq_true rfl) rfl rfl ?_
      refine V_goto (pc := 36) (tgt := 6) C dX5_thick_36 (by decide) ?_
      refine V_mask [true, true, true, true, false] (lv' := [some (.ref 0), some (.int v3_3), some (.int q6), some (.int (v3_3 + 1)), none]) rfl ?_
      exact hrec4 v3_3 q6 (v3_3 + 1) h
def X5_judge_L42 (v1 : Int32) (mh : vMH) (J8 : Int32 → Int32 → Option (Int32)) (rec13 : Int32 → Int32 → Int32 → Option (Int32)) (v3_10 : Int32) (v4_11 : Int32) (v5_12 : Int32) : Option (Int32) := ((X2_sizeOf v1 mh).bind fun q14 => (if q14 ≤ v5_12 then (J8 v3_10 v4_11) else ((X2_itemOf v1 v5_12 mh).bind fun q17 => ((X0_dotsIn 1 v5_12 mh).bind fun q19 => (if q17 = q19 then (rec13 v3_10 v4_11 (v5_12 + 1)) else (if v3_10 = (-1) then (rec13 v5_12 (v4_11 + 1) (v5_12 + 1)) else (rec13 v3_10 (v4_11 + 1) (v5_12 + 1))))))))
def X5_judge (v1 : Int32) (v2 : Int32) (mh : vMH) : Option (Int32) := (if (X5_isSheet v1) = 0 then (some (-2)) else (if (X5_isWithin v2 0 1) = 0 then (some (-2)) else ((X2_sortOf v1 mh).bind fun q3 => (if q3 = (-1) then (some (-11)) else (wj2 (fun (v3_6 : Int32) (v4_7 : Int32) => (if v2 = 0 then (some v3_6) else (some v4_7))) fun J8 => (lq3 4096 (X5_judge_L42 v1 mh J8) (-1) 0 0))))))
set_option maxRecDepth 100000 in
set_option maxHeartbeats 8000000 in
theorem c_X5_judge (d : Nat) (v1 : Int32) (v2 : Int32) (mh : vMH) {res : Int32} (h : X5_judge v1 v2 mh = some res) : MC LC (d + 4) yX5_judge cX5_judge 6 (some .int) [.ref 0, .int v1, .int v2] mh (some (.int res)) mh := by
  refine MC_of 3 (by decide) rfl (fun X C hG => ?_)
  replace C : Cx X (d + 4) 6 cX5_judge RX5 (some .int) := C
  show Vw LC X (d + 4) 6 0 [some (.ref 0), some (.int v1), some (.int v2), none, none, none] [] mh
  unfold X5_judge at h
  refine V_iload_n (pc := 0) C dX5_judge_0 rfl rfl ?_
  refine V_callSi (pc := 1) (rest := []) C cs_X5_192 (c_X5_isSheet (d + 3) v1 mh) (by omega) (by decide) rfl rfl (Nat.le_of_ble_eq_true rfl) dX5_judge_1 ?_
  refine V_ifeq (pc := 4) (tgt := 16) C dX5_judge_4 (by decide) (fun hc1 => ?_) (fun hc1 => ?_)
  · have h := it_t h hc1
    refine V_bipush (pc := 16) C (v := (-2)) dX5_judge_16 (by decide) ?_
    exact V_iret (pc := 18) C (gdo h hG) dX5_judge_18
  · have h := it_f h hc1
    refine V_iload_n (pc := 7) C dX5_judge_7 rfl rfl ?_
    refine V_iconst (pc := 8) C (v := 0) dX5_judge_8 (by decide) ?_
    refine V_iconst (pc := 9) C (v := 1) dX5_judge_9 (by decide) ?_
    refine V_callSi (pc := 10) (rest := []) C cs_X5_59 (c_X5_isWithin (d + 3) v2 0 1 mh) (by omega) (by decide) rfl rfl (Nat.le_of_ble_eq_true rfl) dX5_judge_10 ?_
    refine V_ifne (pc := 13) (tgt := 19) C dX5_judge_13 (by decide) (fun hc2 => ?_) (fun hc2 => ?_)
    · have h := it_f h hc2
      refine V_aload_n (pc := 19) C dX5_judge_19 rfl rfl ?_
      refine V_getR (pc := 20) C (r' := 8) CF5 fl_X5_51 LO5 (by decide) rfl dX5_judge_20 ?_
      refine V_iload_n (pc := 23) C dX5_judge_23 rfl rfl ?_
      obtain ⟨q3, hq4, h⟩ := bnd_ok h
      refine V_callVi (pc := 24) (rest := []) C cs_X5_195 (c_X2_sortOf (d + 2) v1 mh hq4) CF2.1 LO2 (by omega) (by decide) rfl rfl (Nat.le_of_ble_eq_true rfl) dX5_judge_24 ?_
      refine V_iconst (pc := 27) C (v := (-1)) dX5_judge_27 (by decide) ?_
      refine V_icmpne (pc := 28) (tgt := 34) C dX5_judge_28 (by decide) (fun hc5 => ?_) (fun hc5 => ?_)
      · have h := it_f h hc5
        refine V_iconst (pc := 34) C (v := (-1)) dX5_judge_34 (by decide) ?_
        refine V_istore_n (pc := 35) C (lv' := [some (.ref 0), some (.int v1), some (.int v2), some (.int (-1)), none, none]) dX5_judge_35 rfl (by decide) (Nat.le_of_ble_eq_true rfl) rfl rfl ?_
        refine V_iconst (pc := 36) C (v := 0) dX5_judge_36 (by decide) ?_
        refine V_istore (pc := 37) C (lv' := [some (.ref 0), some (.int v1), some (.int v2), some (.int (-1)), some (.int 0), none]) dX5_judge_37 (by decide) (Nat.le_of_ble_eq_true rfl) rfl rfl ?_
        refine V_iconst (pc := 39) C (v := 0) dX5_judge_39 (by decide) ?_
        refine V_istore (pc := 40) C (lv' := [some (.ref 0), some (.int v1), some (.int v2), some (.int (-1)), some (.int 0), some (.int 0)]) dX5_judge_40 (by decide) (Nat.le_of_ble_eq_true rfl) rfl rfl ?_
        refine wj2_ok (fun (v3_6 : Int32) (v4_7 : Int32) => Vw LC X (d + 4) 6 97 [some (.ref 0), some (.int v1), some (.int v2), some (.int v3_6), some (.int v4_7), none] [] mh) h (fun v3_6 v4_7 h => ?_) (fun J8 hJ8 h => ?_)
        · refine V_iload_n (pc := 97) C dX5_judge_97 rfl rfl ?_
          refine V_ifne (pc := 98) (tgt := 105) C dX5_judge_98 (by decide) (fun hc9 => ?_) (fun hc9 => ?_)
          · have h := it_f h hc9
            refine V_iload (pc := 105) C dX5_judge_105 rfl ?_
            exact V_iret (pc := 107) C (gdo h hG) dX5_judge_107
          · have h := it_t h hc9
            refine V_iload_n (pc := 101) C dX5_judge_101 rfl rfl ?_
            refine V_goto (pc := 102) (tgt := 107) C dX5_judge_102 (by decide) ?_
            exact V_iret (pc := 107) C (gdo h hG) dX5_judge_107
        · refine lq3_ok (fun (v3_10 : Int32) (v4_11 : Int32) (v5_12 : Int32) => Vw LC X (d + 4) 6 42 [some (.ref 0), some (.int v1), some (.int v2), some (.int v3_10), some (.int v4_11), some (.int v5_12)] [] mh) h (fun rec13 hrec13 v3_10 v4_11 v5_12 h => ?_)
          unfold X5_judge_L42 at h
          refine V_iload (pc := 42) C dX5_judge_42 rfl ?_
          refine V_aload_n (pc := 44) C dX5_judge_44 rfl rfl ?_
          refine V_getR (pc := 45) C (r' := 8) CF5 fl_X5_51 LO5 (by decide) rfl dX5_judge_45 ?_
          refine V_iload_n (pc := 48) C dX5_judge_48 rfl rfl ?_
          obtain ⟨q14, hq15, h⟩ := bnd_ok h
          refine V_callVi (pc := 49) (rest := [.int v5_12]) C cs_X5_198 (c_X2_sizeOf (d + 2) v1 mh hq15) CF2.1 LO2 (by omega) (by decide) rfl rfl (Nat.le_of_ble_eq_true rfl) dX5_judge_49 ?_
          refine V_icmpge (pc := 52) (tgt := 97) C dX5_judge_52 (by decide) (fun hc16 => ?_) (fun hc16 => ?_)
          · have h := it_t h hc16
            refine V_mask [true, true, true, true, true, false] (lv' := [some (.ref 0), some (.int v1), some (.int v2), some (.int v3_10), some (.int v4_11), none]) rfl ?_
            exact hJ8 v3_10 v4_11 h
          · have h := it_f h hc16
            refine V_aload_n (pc := 55) C dX5_judge_55 rfl rfl ?_
            refine V_getR (pc := 56) C (r' := 8) CF5 fl_X5_51 LO5 (by decide) rfl dX5_judge_56 ?_
            refine V_iload_n (pc := 59) C dX5_judge_59 rfl rfl ?_
            refine V_iload (pc := 60) C dX5_judge_60 rfl ?_
            obtain ⟨q17, hq18, h⟩ := bnd_ok h
            refine V_callVi (pc := 62) (rest := []) C cs_X5_201 (c_X2_itemOf (d + 0) v1 v5_12 mh hq18) CF2.1 LO2 (by omega) (by decide) rfl rfl (Nat.le_of_ble_eq_true rfl) dX5_judge_62 ?_
            refine V_aload_n (pc := 65) C dX5_judge_65 rfl rfl ?_
            refine V_getR (pc := 66) C (r' := 1) CF5 fl_X5_12 LO5 (by decide) rfl dX5_judge_66 ?_
            refine V_iload (pc := 69) C dX5_judge_69 rfl ?_
            obtain ⟨q19, hq20, h⟩ := bnd_ok h
            refine V_callVi (pc := 71) (rest := [.int q17]) C cs_X5_189 (c_X0_dotsIn (d + 1) isF1 v5_12 mh hq20) CF0.1 (LO_F isF1) (by omega) (by decide) rfl rfl (Nat.le_of_ble_eq_true rfl) dX5_judge_71 ?_
            refine V_icmpne (pc := 74) (tgt := 80) C dX5_judge_74 (by decide) (fun hc21 => ?_) (fun hc21 => ?_)
            · have h := it_f h hc21
              refine V_iinc (pc := 80) C (v := (v4_11 + 1)) (lv' := [some (.ref 0), some (.int v1), some (.int v2), some (.int v3_10), some (.int (v4_11 + 1)), some (.int v5_12)]) dX5_judge_80 rfl rfl (by decide) (Nat.le_of_ble_eq_true rfl) rfl rfl ?_
              refine V_iload_n (pc := 83) C dX5_judge_83 rfl rfl ?_
              refine V_iconst (pc := 84) C (v := (-1)) dX5_judge_84 (by decide) ?_
              refine V_icmpne (pc := 85) (tgt := 91) C dX5_judge_85 (by decide) (fun hc22 => ?_) (fun hc22 => ?_)
              · have h := it_f h hc22
                refine V_iinc (pc := 91) C (v := (v5_12 + 1)) (lv' := [some (.ref 0), some (.int v1), some (.int v2), some (.int v3_10), some (.int (v4_11 + 1)), some (.int (v5_12 + 1))]) dX5_judge_91 rfl rfl (by decide) (Nat.le_of_ble_eq_true rfl) rfl rfl ?_
                refine V_goto (pc := 94) (tgt := 42) C dX5_judge_94 (by decide) ?_
                exact hrec13 v3_10 (v4_11 + 1) (v5_12 + 1) h
              · have h := it_t h hc22
                refine V_iload (pc := 88) C dX5_judge_88 rfl ?_
                refine V_istore_n (pc := 90) C (lv' := [some (.ref 0), some (.int v1), some (.int v2), some (.int v5_12), some (.int (v4_11 + 1)), some (.int v5_12)]) dX5_judge_90 rfl (by decide) (Nat.le_of_ble_eq_true rfl) rfl rfl ?_
                refine V_iinc (pc := 91) C (v := (v5_12 + 1)) (lv' := [some (.ref 0), some (.int v1), some (.int v2), some (.int v5_12), some (.int (v4_11 + 1)), some (.int (v5_12 + 1))]) dX5_judge_91 rfl rfl (by decide) (Nat.le_of_ble_eq_true rfl) rfl rfl ?_
                refine V_goto (pc := 94) (tgt := 42) C dX5_judge_94 (by decide) ?_
                exact hrec13 v5_12 (v4_11 + 1) (v5_12 + 1) h
            · have h := it_t h hc21
              refine V_goto (pc := 77) (tgt := 91) C dX5_judge_77 (by decide) ?_
              refine V_iinc (pc := 91) C (v := (v5_12 + 1)) (lv' := [some (.ref 0), some (.int v1), some (.int v2), some (.int v3_10), some (.int v4_11), some (.int (v5_12 + 1))]) dX5_judge_91 rfl rfl (by decide) (Nat.le_of_ble_eq_true rfl) rfl rfl ?_
              refine V_goto (pc := 94) (tgt := 42) C dX5_judge_94 (by decide) ?_
              exact hrec13 v3_10 v4_11 (v5_12 + 1) h
      · have h := it_t h hc5
        refine V_bipush (pc := 31) C (v := (-11)) dX5_judge_31 (by decide) ?_
        exact V_iret (pc := 33) C (gdo h hG) dX5_judge_33
    · have h := it_t h hc2
      refine V_bipush (pc := 16) C (v := (-2)) dX5_judge_16 (by decide) ?_
      exact V_iret (pc := 18) C (gdo h hG) dX5_judge_18
def X5_unseen (mh : vMH) : Option (Int32) := ((X0_stripsWithFinds 1 mh).bind fun q1 => (some (q1 &&& ((mh.1 1 9) ^^^ (-1)))))
set_option maxRecDepth 100000 in
set_option maxHeartbeats 8000000 in
theorem c_X5_unseen (d : Nat)  (mh : vMH) {res : Int32} (h : X5_unseen mh = some res) : MC LC (d + 3) yX5_unseen cX5_unseen 1 (some .int) [.ref 0] mh (some (.int res)) mh := by
  refine MC_of 0 (by decide) rfl (fun X C hG => ?_)
  replace C : Cx X (d + 3) 1 cX5_unseen RX5 (some .int) := C
  show Vw LC X (d + 3) 1 0 [some (.ref 0)] [] mh
  unfold X5_unseen at h
  refine V_aload_n (pc := 0) C dX5_unseen_0 rfl rfl ?_
  refine V_getR (pc := 1) C (r' := 1) CF5 fl_X5_12 LO5 (by decide) rfl dX5_unseen_1 ?_
  obtain ⟨q1, hq2, h⟩ := bnd_ok h
  refine V_callVi (pc := 4) (rest := []) C cs_X5_204 (c_X0_stripsWithFinds (d + 0) isF1 mh hq2) CF0.1 (LO_F isF1) (by omega) (by decide) rfl rfl (Nat.le_of_ble_eq_true rfl) dX5_unseen_4 ?_
  refine V_aload_n (pc := 7) C dX5_unseen_7 rfl rfl ?_
  refine V_getR (pc := 8) C (r' := 1) CF5 fl_X5_12 LO5 (by decide) rfl dX5_unseen_8 ?_
  refine V_getI (pc := 11) C CF0 fl_X5_148 (LO_F isF1) (by decide) rfl dX5_unseen_11 (v := (mh.1 1 9)) rfl ?_
  refine V_iconst (pc := 14) C (v := (-1)) dX5_unseen_14 (by decide) ?_
  refine V_ixor (pc := 15) C dX5_unseen_15 ?_
  refine V_iand (pc := 16) C dX5_unseen_16 ?_
  exact V_iret (pc := 17) C (gdo h hG) dX5_unseen_17
def X5_neverHeard_L15 (J3 : Int32 → vMH → Option (Int32 × vMH)) (rec7 : Int32 → Int32 → vMH → Option (Int32 × vMH)) (v1_4 : Int32) (v2_5 : Int32) (mh6 : vMH) : Option (Int32 × vMH) := (if 9 < v2_5 then (J3 v1_4 mh6) else ((X4_dugIfHeard 4 (v_up mh6 4 7 v2_5)).bind fun q9 => (rec7 (v1_4 ||| q9.1) (v2_5 + 1) q9.2)))
def X5_neverHeard (mh : vMH) : Option (Int32 × vMH) := (wj2 (fun (v1_1 : Int32) (mh2 : vMH) => (some (((X0_lying 1 mh2) - (J6_bitCount_0f7a4 v1_1)), mh2))) fun J3 => (lq3 4096 (X5_neverHeard_L15 J3) 0 1 (X0_become 4 1 mh)))
set_option maxRecDepth 100000 in
set_option maxHeartbeats 8000000 in
theorem c_X5_neverHeard (d : Nat)  (mh : vMH) {res : Int32 × vMH} (h : X5_neverHeard mh = some res) : MC LC (d + 4) yX5_neverHeard cX5_neverHeard 3 (some .int) [.ref 0] mh (some (.int res.1)) res.2 := by
  refine MC_of 2 (by decide) rfl (fun X C hG => ?_)
  replace C : Cx X (d + 4) 3 cX5_neverHeard RX5 (some .int) := C
  show Vw LC X (d + 4) 3 0 [some (.ref 0), none, none] [] mh
  unfold X5_neverHeard at h
  refine V_aload_n (pc := 0) C dX5_neverHeard_0 rfl rfl ?_
  refine V_getR (pc := 1) C (r' := 4) CF5 fl_X5_22 LO5 (by decide) rfl dX5_neverHeard_1 ?_
  refine V_aload_n (pc := 4) C dX5_neverHeard_4 rfl rfl ?_
  refine V_getR (pc := 5) C (r' := 1) CF5 fl_X5_12 LO5 (by decide) rfl dX5_neverHeard_5 ?_
  refine V_callVv (pc := 8) (rest := []) C cs_X5_166 (c_X0_become (d + 1) isF4 isF1 mh) CF0.1 (LO_F isF4) (by omega) (by decide) rfl rfl (Nat.le_of_ble_eq_true rfl) dX5_neverHeard_8 ?_
  refine V_iconst (pc := 11) C (v := 0) dX5_neverHeard_11 (by decide) ?_
  refine V_istore_n (pc := 12) C (lv' := [some (.ref 0), some (.int 0), none]) dX5_neverHeard_12 rfl (by decide) (Nat.le_of_ble_eq_true rfl) rfl rfl ?_
  refine V_iconst (pc := 13) C (v := 1) dX5_neverHeard_13 (by decide) ?_
  refine V_istore_n (pc := 14) C (lv' := [some (.ref 0), some (.int 0), some (.int 1)]) dX5_neverHeard_14 rfl (by decide) (Nat.le_of_ble_eq_true rfl) rfl rfl ?_
  refine wj2_ok (fun (v1_1 : Int32) (mh2 : vMH) => Vw LC X (d + 4) 3 49 [some (.ref 0), some (.int v1_1), none] [] mh2) h (fun v1_1 mh2 h => ?_) (fun J3 hJ3 h => ?_)
  · refine V_aload_n (pc := 49) C dX5_neverHeard_49 rfl rfl ?_
    refine V_getR (pc := 50) C (r' := 1) CF5 fl_X5_12 LO5 (by decide) rfl dX5_neverHeard_50 ?_
    refine V_callVi (pc := 53) (rest := []) C cs_X5_207 (c_X0_lying (d + 2) isF1 mh2) CF0.1 (LO_F isF1) (by omega) (by decide) rfl rfl (Nat.le_of_ble_eq_true rfl) dX5_neverHeard_53 ?_
    refine V_iload_n (pc := 56) C dX5_neverHeard_56 rfl rfl ?_
    refine V_callSi (pc := 57) (rest := [.int (X0_lying 1 mh2)]) C cs_X5_170 (c_J6_bitCount_0f7a4 (d + 3) v1_1 mh2 (L := LC)) (by omega) (by decide) rfl rfl (Nat.le_of_ble_eq_true rfl) dX5_neverHeard_57 ?_
    refine V_isub (pc := 60) C dX5_neverHeard_60 ?_
    exact V_iret (pc := 61) C (gdow h hG) dX5_neverHeard_61
  · refine lq3_ok (fun (v1_4 : Int32) (v2_5 : Int32) (mh6 : vMH) => Vw LC X (d + 4) 3 15 [some (.ref 0), some (.int v1_4), some (.int v2_5)] [] mh6) h (fun rec7 hrec7 v1_4 v2_5 mh6 h => ?_)
    unfold X5_neverHeard_L15 at h
    refine V_iload_n (pc := 15) C dX5_neverHeard_15 rfl rfl ?_
    refine V_bipush (pc := 16) C (v := 9) dX5_neverHeard_16 (by decide) ?_
    refine V_icmpgt (pc := 18) (tgt := 49) C dX5_neverHeard_18 (by decide) (fun hc8 => ?_) (fun hc8 => ?_)
    · have h := it_t h hc8
      refine V_mask [true, true, false] (lv' := [some (.ref 0), some (.int v1_4), none]) rfl ?_
      exact hJ3 v1_4 mh6 h
    · have h := it_f h hc8
      refine V_aload_n (pc := 21) C dX5_neverHeard_21 rfl rfl ?_
      refine V_getR (pc := 22) C (r' := 4) CF5 fl_X5_22 LO5 (by decide) rfl dX5_neverHeard_22 ?_
      refine V_iload_n (pc := 25) C dX5_neverHeard_25 rfl rfl ?_
      refine V_putI (pc := 26) C CF0 fl_X5_96 (LO_F isF4) (by decide) rfl rfl rfl dX5_neverHeard_26 ?_
      refine V_iload_n (pc := 29) C dX5_neverHeard_29 rfl rfl ?_
      refine V_aload_n (pc := 30) C dX5_neverHeard_30 rfl rfl ?_
      refine V_getR (pc := 31) C (r' := 7) CF5 fl_X5_44 LO5 (by decide) rfl dX5_neverHeard_31 ?_
      refine V_aload_n (pc := 34) C dX5_neverHeard_34 rfl rfl ?_
      refine V_getR (pc := 35) C (r' := 4) CF5 fl_X5_22 LO5 (by decide) rfl dX5_neverHeard_35 ?_
      obtain ⟨q9, hq10, h⟩ := bnd_ok h
      refine V_callVi (pc := 38) (rest := [.int v1_4]) C cs_X5_213 (c_X4_dugIfHeard (d + 0) isF4 (v_up mh6 4 7 v2_5) hq10) CF4.1 LO4 (by omega) (by decide) rfl rfl (Nat.le_of_ble_eq_true rfl) dX5_neverHeard_38 ?_
      refine V_ior (pc := 41) C dX5_neverHeard_41 ?_
      refine V_istore_n (pc := 42) C (lv' := [some (.ref 0), some (.int (v1_4 ||| q9.1)), some (.int v2_5)]) dX5_neverHeard_42 rfl (by decide) (Nat.le_of_ble_eq_true rfl) rfl rfl ?_
      refine V_iinc (pc := 43) C (v := (v2_5 + 1)) (lv' := [some (.ref 0), some (.int (v1_4 ||| q9.1)), some (.int (v2_5 + 1))]) dX5_neverHeard_43 rfl rfl (by decide) (Nat.le_of_ble_eq_true rfl) rfl rfl ?_
      refine V_goto (pc := 46) (tgt := 15) C dX5_neverHeard_46 (by decide) ?_
      exact hrec7 (v1_4 ||| q9.1) (v2_5 + 1) q9.2 h
def X5_left (v1 : Int32) (mh : vMH) : Option (Int32 × vMH) := (if (X5_isWithin v1 0 1) = 0 then (some ((-2), mh)) else (if v1 = 0 then (some ((X0_lying 1 mh), mh)) else ((X5_neverHeard mh).bind fun q3 => (some (q3.1, q3.2)))))
set_option maxRecDepth 100000 in
set_option maxHeartbeats 8000000 in
theorem c_X5_left (d : Nat) (v1 : Int32) (mh : vMH) {res : Int32 × vMH} (h : X5_left v1 mh = some res) : MC LC (d + 5) yX5_left cX5_left 2 (some .int) [.ref 0, .int v1] mh (some (.int res.1)) res.2 := by
  refine MC_of 0 (by decide) rfl (fun X C hG => ?_)
  replace C : Cx X (d + 5) 2 cX5_left RX5 (some .int) := C
  show Vw LC X (d + 5) 2 0 [some (.ref 0), some (.int v1)] [] mh
  unfold X5_left at h
  refine V_iload_n (pc := 0) C dX5_left_0 rfl rfl ?_
  refine V_iconst (pc := 1) C (v := 0) dX5_left_1 (by decide) ?_
  refine V_iconst (pc := 2) C (v := 1) dX5_left_2 (by decide) ?_
  refine V_callSi (pc := 3) (rest := []) C cs_X5_59 (c_X5_isWithin (d + 4) v1 0 1 mh) (by omega) (by decide) rfl rfl (Nat.le_of_ble_eq_true rfl) dX5_left_3 ?_
  refine V_ifne (pc := 6) (tgt := 12) C dX5_left_6 (by decide) (fun hc1 => ?_) (fun hc1 => ?_)
  · have h := it_f h hc1
    refine V_iload_n (pc := 12) C dX5_left_12 rfl rfl ?_
    refine V_ifne (pc := 13) (tgt := 26) C dX5_left_13 (by decide) (fun hc2 => ?_) (fun hc2 => ?_)
    · have h := it_f h hc2
      refine V_aload_n (pc := 26) C dX5_left_26 rfl rfl ?_
      obtain ⟨q3, hq4, h⟩ := bnd_ok h
      refine V_callVi (pc := 27) (rest := []) C cs_X5_210 (c_X5_neverHeard (d + 0) mh hq4) CF5.1 LO5 (by omega) (by decide) rfl rfl (Nat.le_of_ble_eq_true rfl) dX5_left_27 ?_
      exact V_iret (pc := 30) C (gdow h hG) dX5_left_30
    · have h := it_t h hc2
      refine V_aload_n (pc := 16) C dX5_left_16 rfl rfl ?_
      refine V_getR (pc := 17) C (r' := 1) CF5 fl_X5_12 LO5 (by decide) rfl dX5_left_17 ?_
      refine V_callVi (pc := 20) (rest := []) C cs_X5_207 (c_X0_lying (d + 3) isF1 mh) CF0.1 (LO_F isF1) (by omega) (by decide) rfl rfl (Nat.le_of_ble_eq_true rfl) dX5_left_20 ?_
      refine V_goto (pc := 23) (tgt := 30) C dX5_left_23 (by decide) ?_
      exact V_iret (pc := 30) C (gdow h hG) dX5_left_30
  · have h := it_t h hc1
    refine V_bipush (pc := 9) C (v := (-2)) dX5_left_9 (by decide) ?_
    exact V_iret (pc := 11) C (gdow h hG) dX5_left_11
def X5_foundIfDrawn (v1 : Int32) (mh : vMH) : Option (Int32 × vMH) := ((X0_scatter 4 v1 (X0_become 4 1 mh)).bind fun q1 => ((X4_walkStrips 4 63 q1).bind fun q3 => (some (q3.1, q3.2))))
set_option maxRecDepth 100000 in
set_option maxHeartbeats 8000000 in
theorem c_X5_foundIfDrawn (d : Nat) (v1 : Int32) (mh : vMH) {res : Int32 × vMH} (h : X5_foundIfDrawn v1 mh = some res) : MC LC (d + 6) yX5_foundIfDrawn cX5_foundIfDrawn 2 (some .int) [.ref 0, .int v1] mh (some (.int res.1)) res.2 := by
  refine MC_of 0 (by decide) rfl (fun X C hG => ?_)
  replace C : Cx X (d + 6) 2 cX5_foundIfDrawn RX5 (some .int) := C
  show Vw LC X (d + 6) 2 0 [some (.ref 0), some (.int v1)] [] mh
  unfold X5_foundIfDrawn at h
  refine V_aload_n (pc := 0) C dX5_foundIfDrawn_0 rfl rfl ?_
  refine V_getR (pc := 1) C (r' := 4) CF5 fl_X5_22 LO5 (by decide) rfl dX5_foundIfDrawn_1 ?_
  refine V_aload_n (pc := 4) C dX5_foundIfDrawn_4 rfl rfl ?_
  refine V_getR (pc := 5) C (r' := 1) CF5 fl_X5_12 LO5 (by decide) rfl dX5_foundIfDrawn_5 ?_
  refine V_callVv (pc := 8) (rest := []) C cs_X5_166 (c_X0_become (d + 3) isF4 isF1 mh) CF0.1 (LO_F isF4) (by omega) (by decide) rfl rfl (Nat.le_of_ble_eq_true rfl) dX5_foundIfDrawn_8 ?_
  refine V_aload_n (pc := 11) C dX5_foundIfDrawn_11 rfl rfl ?_
  refine V_getR (pc := 12) C (r' := 4) CF5 fl_X5_22 LO5 (by decide) rfl dX5_foundIfDrawn_12 ?_
  refine V_iload_n (pc := 15) C dX5_foundIfDrawn_15 rfl rfl ?_
  obtain ⟨q1, hq2, h⟩ := bnd_ok h
  refine V_callVv (pc := 16) (rest := []) C cs_X5_220 (c_X0_scatter (d + 3) isF4 v1 (X0_become 4 1 mh) hq2) CF0.1 (LO_F isF4) (by omega) (by decide) rfl rfl (Nat.le_of_ble_eq_true rfl) dX5_foundIfDrawn_16 ?_
  refine V_aload_n (pc := 19) C dX5_foundIfDrawn_19 rfl rfl ?_
  refine V_getR (pc := 20) C (r' := 7) CF5 fl_X5_44 LO5 (by decide) rfl dX5_foundIfDrawn_20 ?_
  refine V_aload_n (pc := 23) C dX5_foundIfDrawn_23 rfl rfl ?_
  refine V_getR (pc := 24) C (r' := 4) CF5 fl_X5_22 LO5 (by decide) rfl dX5_foundIfDrawn_24 ?_
  refine V_bipush (pc := 27) C (v := 63) dX5_foundIfDrawn_27 (by decide) ?_
  obtain ⟨q3, hq4, h⟩ := bnd_ok h
  refine V_callVi (pc := 29) (rest := []) C cs_X5_151 (c_X4_walkStrips (d + 0) isF4 63 q1 hq4) CF4.1 LO4 (by omega) (by decide) rfl rfl (Nat.le_of_ble_eq_true rfl) dX5_foundIfDrawn_29 ?_
  exact V_iret (pc := 32) C (gdow h hG) dX5_foundIfDrawn_32
def X5_drawn (v1 : Int32) (mh : vMH) : Option (Int32 × vMH) := ((X5_foundIfDrawn v1 mh).bind fun q1 => (some (q1.1, q1.2)))
set_option maxRecDepth 100000 in
set_option maxHeartbeats 8000000 in
theorem c_X5_drawn (d : Nat) (v1 : Int32) (mh : vMH) {res : Int32 × vMH} (h : X5_drawn v1 mh = some res) : MC LC (d + 7) yX5_drawn cX5_drawn 2 (some .int) [.ref 0, .int v1] mh (some (.int res.1)) res.2 := by
  refine MC_of 0 (by decide) rfl (fun X C hG => ?_)
  replace C : Cx X (d + 7) 2 cX5_drawn RX5 (some .int) := C
  show Vw LC X (d + 7) 2 0 [some (.ref 0), some (.int v1)] [] mh
  unfold X5_drawn at h
  refine V_aload_n (pc := 0) C dX5_drawn_0 rfl rfl ?_
  refine V_iload_n (pc := 1) C dX5_drawn_1 rfl rfl ?_
  obtain ⟨q1, hq2, h⟩ := bnd_ok h
  refine V_callVi (pc := 2) (rest := []) C cs_X5_217 (c_X5_foundIfDrawn (d + 0) v1 mh hq2) CF5.1 LO5 (by omega) (by decide) rfl rfl (Nat.le_of_ble_eq_true rfl) dX5_drawn_2 ?_
  exact V_iret (pc := 5) C (gdow h hG) dX5_drawn_5
def X5_lowered_L6 (v0 : Int32) (v1 : Int32) (J2 : Int32 → Option (Int32)) (rec5 : Int32 → Option (Int32)) (v2_4 : Int32) : Option (Int32) := (if v2_4 ≤ 1 then (some v0) else (chk (¬ v2_4 = 0) (if (jr v0 v2_4) = 0 then (if (jr v1 v2_4) = 0 then (J2 v2_4) else (rec5 (v2_4 + (-1)))) else (rec5 (v2_4 + (-1))))))
def X5_lowered (v0 : Int32) (v1 : Int32) : Option (Int32) := (wj1 (fun (v2_1 : Int32) => (chk (¬ v2_1 = 0) (some (v0 / v2_1)))) fun J2 => (lq1 4096 (X5_lowered_L6 v0 v1 J2) (jmax v0 v1)))
set_option maxRecDepth 100000 in
set_option maxHeartbeats 8000000 in
theorem c_X5_lowered (d : Nat) (v0 : Int32) (v1 : Int32) (mh : vMH) {res : Int32} (h : X5_lowered v0 v1 = some res) : MC LC (d + 1) yX5_lowered cX5_lowered 3 (some .int) [.int v0, .int v1] mh (some (.int res)) mh := by
  refine MC_of 1 (by decide) rfl (fun X C hG => ?_)
  replace C : Cx X (d + 1) 3 cX5_lowered RX5 (some .int) := C
  show Vw LC X (d + 1) 3 0 [some (.int v0), some (.int v1), none] [] mh
  unfold X5_lowered at h
  refine V_iload_n (pc := 0) C dX5_lowered_0 rfl rfl ?_
  refine V_iload_n (pc := 1) C dX5_lowered_1 rfl rfl ?_
  refine V_max (pc := 2) C ml_X5_229 (Nat.le_of_ble_eq_true rfl) dX5_lowered_2 ?_
  refine V_istore_n (pc := 5) C (lv' := [some (.int v0), some (.int v1), some (.int (jmax v0 v1))]) dX5_lowered_5 rfl (by decide) (Nat.le_of_ble_eq_true rfl) rfl rfl ?_
  refine wj1_ok (fun (v2_1 : Int32) => Vw LC X (d + 1) 3 23 [some (.int v0), some (.int v1), some (.int v2_1)] [] mh) h (fun v2_1 h => ?_) (fun J2 hJ2 h => ?_)
  · refine V_iload_n (pc := 23) C dX5_lowered_23 rfl rfl ?_
    refine V_iload_n (pc := 24) C dX5_lowered_24 rfl rfl ?_
    obtain ⟨hi3, h⟩ := chk_ok h
    refine V_idiv (pc := 25) C dX5_lowered_25 hi3 ?_
    exact V_iret (pc := 26) C (gdo h hG) dX5_lowered_26
  · refine lq1_ok (fun (v2_4 : Int32) => Vw LC X (d + 1) 3 6 [some (.int v0), some (.int v1), some (.int v2_4)] [] mh) h (fun rec5 hrec5 v2_4 h => ?_)
    unfold X5_lowered_L6 at h
    refine V_iload_n (pc := 6) C dX5_lowered_6 rfl rfl ?_
    refine V_iconst (pc := 7) C (v := 1) dX5_lowered_7 (by decide) ?_
    refine V_icmple (pc := 8) (tgt := 33) C dX5_lowered_8 (by decide) (fun hc6 => ?_) (fun hc6 => ?_)
    · have h := it_t h hc6
      refine V_iload_n (pc := 33) C dX5_lowered_33 rfl rfl ?_
      exact V_iret (pc := 34) C (gdo h hG) dX5_lowered_34
    · have h := it_f h hc6
      refine V_iload_n (pc := 11) C dX5_lowered_11 rfl rfl ?_
      refine V_iload_n (pc := 12) C dX5_lowered_12 rfl rfl ?_
      obtain ⟨hi7, h⟩ := chk_ok h
      refine V_irem (pc := 13) C dX5_lowered_13 hi7 ?_
      refine V_ifne (pc := 14) (tgt := 27) C dX5_lowered_14 (by decide) (fun hc8 => ?_) (fun hc8 => ?_)
      · have h := it_f h hc8
        refine V_iinc (pc := 27) C (v := (v2_4 + (-1))) (lv' := [some (.int v0), some (.int v1), some (.int (v2_4 + (-1)))]) dX5_lowered_27 rfl rfl (by decide) (Nat.le_of_ble_eq_true rfl) rfl rfl ?_
        refine V_goto (pc := 30) (tgt := 6) C dX5_lowered_30 (by decide) ?_
        exact hrec5 (v2_4 + (-1)) h
      · have h := it_t h hc8
        refine V_iload_n (pc := 17) C dX5_lowered_17 rfl rfl ?_
        refine V_iload_n (pc := 18) C dX5_lowered_18 rfl rfl ?_
        refine V_irem (pc := 19) C dX5_lowered_19 hi7 ?_
        refine V_ifne (pc := 20) (tgt := 27) C dX5_lowered_20 (by decide) (fun hc9 => ?_) (fun hc9 => ?_)
        · have h := it_f h hc9
          refine V_iinc (pc := 27) C (v := (v2_4 + (-1))) (lv' := [some (.int v0), some (.int v1), some (.int (v2_4 + (-1)))]) dX5_lowered_27 rfl rfl (by decide) (Nat.le_of_ble_eq_true rfl) rfl rfl ?_
          refine V_goto (pc := 30) (tgt := 6) C dX5_lowered_30 (by decide) ?_
          exact hrec5 (v2_4 + (-1)) h
        · have h := it_t h hc9
          exact hJ2 v2_4 h
def X5_odds_L40 (v1 : Int32) (v2 : Int32) (v3 : Int32) (J6 : Int32 → vMH → Option (Int64 × vMH)) (rec15 : Int32 → Int32 → vMH → Option (Int64 × vMH)) (v5_12 : Int32) (v6_13 : Int32) (mh14 : vMH) : Option (Int64 × vMH) := (if v2 ≤ v6_13 then (J6 v5_12 mh14) else ((X5_foundIfDrawn (v1 + v6_13) mh14).bind fun q17 => (if q17.1 < v3 then (rec15 v5_12 (v6_13 + 1) q17.2) else (rec15 (v5_12 + 1) (v6_13 + 1) q17.2))))
def X5_odds (v1 : Int32) (v2 : Int32) (v3 : Int32) (v4 : Int32) (mh : vMH) : Option (Int64 × vMH) := (if (X5_isWithin v2 1 20) = 0 then (some ((-4611686018427387904), mh)) else (if (X5_isWithin v3 0 12) = 0 then (some ((-4611686018427387904), mh)) else (if (X5_isWithin v4 0 1) = 0 then (some ((-4611686018427387904), mh)) else (wj2 (fun (v5_4 : Int32) (mh5 : vMH) => (if v4 = 0 then ((X5_lowered v5_4 v2).bind fun q10 => (some ((Int32.toInt64 q10), mh5))) else ((X5_lowered v2 v5_4).bind fun q8 => (some ((Int32.toInt64 q8), mh5))))) fun J6 => (lq3 4096 (X5_odds_L40 v1 v2 v3 J6) 0 0 mh)))))
set_option maxRecDepth 100000 in
set_option maxHeartbeats 8000000 in
theorem c_X5_odds (d : Nat) (v1 : Int32) (v2 : Int32) (v3 : Int32) (v4 : Int32) (mh : vMH) {res : Int64 × vMH} (h : X5_odds v1 v2 v3 v4 mh = some res) : MC LC (d + 7) yX5_odds cX5_odds 7 (some .long) [.ref 0, .int v1, .int v2, .int v3, .int v4] mh (some (.long res.1)) res.2 := by
  refine MC_of 2 (by decide) rfl (fun X C hG => ?_)
  replace C : Cx X (d + 7) 7 cX5_odds RX5 (some .long) := C
  show Vw LC X (d + 7) 7 0 [some (.ref 0), some (.int v1), some (.int v2), some (.int v3), some (.int v4), none, none] [] mh
  unfold X5_odds at h
  refine V_iload_n (pc := 0) C dX5_odds_0 rfl rfl ?_
  refine V_iconst (pc := 1) C (v := 1) dX5_odds_1 (by decide) ?_
  refine V_bipush (pc := 2) C (v := 20) dX5_odds_2 (by decide) ?_
  refine V_callSi (pc := 4) (rest := []) C cs_X5_59 (c_X5_isWithin (d + 6) v2 1 20 mh) (by omega) (by decide) rfl rfl (Nat.le_of_ble_eq_true rfl) dX5_odds_4 ?_
  refine V_ifeq (pc := 7) (tgt := 30) C dX5_odds_7 (by decide) (fun hc1 => ?_) (fun hc1 => ?_)
  · have h := it_t h hc1
    refine V_ldc2 (pc := 30) C dX5_odds_30 kc_X5_224 ?_
    exact V_lret (pc := 33) C (gdoLw h hG) dX5_odds_33
  · have h := it_f h hc1
    refine V_iload_n (pc := 10) C dX5_odds_10 rfl rfl ?_
    refine V_iconst (pc := 11) C (v := 0) dX5_odds_11 (by decide) ?_
    refine V_bipush (pc := 12) C (v := 12) dX5_odds_12 (by decide) ?_
    refine V_callSi (pc := 14) (rest := []) C cs_X5_59 (c_X5_isWithin (d + 6) v3 0 12 mh) (by omega) (by decide) rfl rfl (Nat.le_of_ble_eq_true rfl) dX5_odds_14 ?_
    refine V_ifeq (pc := 17) (tgt := 30) C dX5_odds_17 (by decide) (fun hc2 => ?_) (fun hc2 => ?_)
    · have h := it_t h hc2
      refine V_ldc2 (pc := 30) C dX5_odds_30 kc_X5_224 ?_
      exact V_lret (pc := 33) C (gdoLw h hG) dX5_odds_33
    · have h := it_f h hc2
      refine V_iload (pc := 20) C dX5_odds_20 rfl ?_
      refine V_iconst (pc := 22) C (v := 0) dX5_odds_22 (by decide) ?_
      refine V_iconst (pc := 23) C (v := 1) dX5_odds_23 (by decide) ?_
      refine V_callSi (pc := 24) (rest := []) C cs_X5_59 (c_X5_isWithin (d + 6) v4 0 1 mh) (by omega) (by decide) rfl rfl (Nat.le_of_ble_eq_true rfl) dX5_odds_24 ?_
      refine V_ifne (pc := 27) (tgt := 34) C dX5_odds_27 (by decide) (fun hc3 => ?_) (fun hc3 => ?_)
      · have h := it_f h hc3
        refine V_iconst (pc := 34) C (v := 0) dX5_odds_34 (by decide) ?_
        refine V_istore (pc := 35) C (lv' := [some (.ref 0), some (.int v1), some (.int v2), some (.int v3), some (.int v4), some (.int 0), none]) dX5_odds_35 (by decide) (Nat.le_of_ble_eq_true rfl) rfl rfl ?_
        refine V_iconst (pc := 37) C (v := 0) dX5_odds_37 (by decide) ?_
        refine V_istore (pc := 38) C (lv' := [some (.ref 0), some (.int v1), some (.int v2), some (.int v3), some (.int v4), some (.int 0), some (.int 0)]) dX5_odds_38 (by decide) (Nat.le_of_ble_eq_true rfl) rfl rfl ?_
        refine wj2_ok (fun (v5_4 : Int32) (mh5 : vMH) => Vw LC X (d + 7) 7 67 [some (.ref 0), some (.int v1), some (.int v2), some (.int v3), some (.int v4), some (.int v5_4), none] [] mh5) h (fun v5_4 mh5 h => ?_) (fun J6 hJ6 h => ?_)
        · refine V_iload (pc := 67) C dX5_odds_67 rfl ?_
          refine V_ifne (pc := 69) (tgt := 82) C dX5_odds_69 (by decide) (fun hc7 => ?_) (fun hc7 => ?_)
          · have h := it_f h hc7
            refine V_iload_n (pc := 82) C dX5_odds_82 rfl rfl ?_
            refine V_iload (pc := 83) C dX5_odds_83 rfl ?_
            obtain ⟨q8, hq9, h⟩ := bnd_ok h
            refine V_callSi (pc := 85) (rest := []) C cs_X5_226 (c_X5_lowered (d + 5) v2 v5_4 mh5 hq9) (by omega) (by decide) rfl rfl (Nat.le_of_ble_eq_true rfl) dX5_odds_85 ?_
            refine V_i2l (pc := 88) C dX5_odds_88 ?_
            exact V_lret (pc := 89) C (gdoLw h hG) dX5_odds_89
          · have h := it_t h hc7
            refine V_iload (pc := 72) C dX5_odds_72 rfl ?_
            refine V_iload_n (pc := 74) C dX5_odds_74 rfl rfl ?_
            obtain ⟨q10, hq11, h⟩ := bnd_ok h
            refine V_callSi (pc := 75) (rest := []) C cs_X5_226 (c_X5_lowered (d + 5) v5_4 v2 mh5 hq11) (by omega) (by decide) rfl rfl (Nat.le_of_ble_eq_true rfl) dX5_odds_75 ?_
            refine V_i2l (pc := 78) C dX5_odds_78 ?_
            refine V_goto (pc := 79) (tgt := 89) C dX5_odds_79 (by decide) ?_
            exact V_lret (pc := 89) C (gdoLw h hG) dX5_odds_89
        · refine lq3_ok (fun (v5_12 : Int32) (v6_13 : Int32) (mh14 : vMH) => Vw LC X (d + 7) 7 40 [some (.ref 0), some (.int v1), some (.int v2), some (.int v3), some (.int v4), some (.int v5_12), some (.int v6_13)] [] mh14) h (fun rec15 hrec15 v5_12 v6_13 mh14 h => ?_)
          unfold X5_odds_L40 at h
          refine V_iload (pc := 40) C dX5_odds_40 rfl ?_
          refine V_iload_n (pc := 42) C dX5_odds_42 rfl rfl ?_
          refine V_icmpge (pc := 43) (tgt := 67) C dX5_odds_43 (by decide) (fun hc16 => ?_) (fun hc16 => ?_)
          · have h := it_t h hc16
            refine V_mask [true, true, true, true, true, true, false] (lv' := [some (.ref 0), some (.int v1), some (.int v2), some (.int v3), some (.int v4), some (.int v5_12), none]) rfl ?_
            exact hJ6 v5_12 mh14 h
          · have h := it_f h hc16
            refine V_aload_n (pc := 46) C dX5_odds_46 rfl rfl ?_
            refine V_iload_n (pc := 47) C dX5_odds_47 rfl rfl ?_
            refine V_iload (pc := 48) C dX5_odds_48 rfl ?_
            refine V_iadd (pc := 50) C dX5_odds_50 ?_
            obtain ⟨q17, hq18, h⟩ := bnd_ok h
            refine V_callVi (pc := 51) (rest := []) C cs_X5_217 (c_X5_foundIfDrawn (d + 0) (v1 + v6_13) mh14 hq18) CF5.1 LO5 (by omega) (by decide) rfl rfl (Nat.le_of_ble_eq_true rfl) dX5_odds_51 ?_
            refine V_iload_n (pc := 54) C dX5_odds_54 rfl rfl ?_
            refine V_icmplt (pc := 55) (tgt := 61) C dX5_odds_55 (by decide) (fun hc19 => ?_) (fun hc19 => ?_)
            · have h := it_t h hc19
              refine V_iinc (pc := 61) C (v := (v6_13 + 1)) (lv' := [some (.ref 0), some (.int v1), some (.int v2), some (.int v3), some (.int v4), some (.int v5_12), some (.int (v6_13 + 1))]) dX5_odds_61 rfl rfl (by decide) (Nat.le_of_ble_eq_true rfl) rfl rfl ?_
              refine V_goto (pc := 64) (tgt := 40) C dX5_odds_64 (by decide) ?_
              exact hrec15 v5_12 (v6_13 + 1) q17.2 h
            · have h := it_f h hc19
              refine V_iinc (pc := 58) C (v := (v5_12 + 1)) (lv' := [some (.ref 0), some (.int v1), some (.int v2), some (.int v3), some (.int v4), some (.int (v5_12 + 1)), some (.int v6_13)]) dX5_odds_58 rfl rfl (by decide) (Nat.le_of_ble_eq_true rfl) rfl rfl ?_
              refine V_iinc (pc := 61) C (v := (v6_13 + 1)) (lv' := [some (.ref 0), some (.int v1), some (.int v2), some (.int v3), some (.int v4), some (.int (v5_12 + 1)), some (.int (v6_13 + 1))]) dX5_odds_61 rfl rfl (by decide) (Nat.le_of_ble_eq_true rfl) rfl rfl ?_
              refine V_goto (pc := 64) (tgt := 40) C dX5_odds_64 (by decide) ?_
              exact hrec15 (v5_12 + 1) (v6_13 + 1) q17.2 h
      · have h := it_t h hc3
        refine V_ldc2 (pc := 30) C dX5_odds_30 kc_X5_224 ?_
        exact V_lret (pc := 33) C (gdoLw h hG) dX5_odds_33
def X5_image (mh : vMH) : Int32 × vMH := ((X0_lying 1 (v_up (X0_layAs 2 1 mh) 0 8 1)), (v_up (X0_layAs 2 1 mh) 0 8 1))
set_option maxRecDepth 100000 in
set_option maxHeartbeats 8000000 in
theorem c_X5_image (d : Nat)  (mh : vMH) : MC LC (d + 2) yX5_image cX5_image 1 (some .int) [.ref 0] mh (some (.int (X5_image mh).1)) (X5_image mh).2 := by
  refine MC_of 0 (by decide) rfl (fun X C hG => ?_)
  replace C : Cx X (d + 2) 1 cX5_image RX5 (some .int) := C
  show Vw LC X (d + 2) 1 0 [some (.ref 0)] [] mh
  obtain ⟨res, h⟩ : ∃ res, X5_image mh = res := ⟨_, rfl⟩
  rw [h] at hG
  unfold X5_image at h
  refine V_aload_n (pc := 0) C dX5_image_0 rfl rfl ?_
  refine V_getR (pc := 1) C (r' := 2) CF5 fl_X5_16 LO5 (by decide) rfl dX5_image_1 ?_
  refine V_aload_n (pc := 4) C dX5_image_4 rfl rfl ?_
  refine V_getR (pc := 5) C (r' := 1) CF5 fl_X5_12 LO5 (by decide) rfl dX5_image_5 ?_
  refine V_callVv (pc := 8) (rest := []) C cs_X5_232 (c_X0_layAs (d + 0) isF2 isF1 mh) CF0.1 (LO_F isF2) (by omega) (by decide) rfl rfl (Nat.le_of_ble_eq_true rfl) dX5_image_8 ?_
  refine V_aload_n (pc := 11) C dX5_image_11 rfl rfl ?_
  refine V_iconst (pc := 12) C (v := 1) dX5_image_12 (by decide) ?_
  refine V_putT (pc := 13) C (t0 := .boolean) CF5 fl_X5_55 LO5 (by decide) rfl rfl rfl rfl rfl dX5_image_13 ?_
  refine V_aload_n (pc := 16) C dX5_image_16 rfl rfl ?_
  refine V_getR (pc := 17) C (r' := 1) CF5 fl_X5_12 LO5 (by decide) rfl dX5_image_17 ?_
  refine V_callVi (pc := 20) (rest := []) C cs_X5_207 (c_X0_lying (d + 0) isF1 (v_up (X0_layAs 2 1 mh) 0 8 1)) CF0.1 (LO_F isF1) (by omega) (by decide) rfl rfl (Nat.le_of_ble_eq_true rfl) dX5_image_20 ?_
  exact V_iret (pc := 23) C (gdtw h hG) dX5_image_23
def X5_back (mh : vMH) : Int32 × vMH := (if (mh.1 0 8) = 0 then ((-3), mh) else ((X0_lying 1 (X0_layAs 1 2 mh)), (X0_layAs 1 2 mh)))
set_option maxRecDepth 100000 in
set_option maxHeartbeats 8000000 in
theorem c_X5_back (d : Nat)  (mh : vMH) : MC LC (d + 2) yX5_back cX5_back 1 (some .int) [.ref 0] mh (some (.int (X5_back mh).1)) (X5_back mh).2 := by
  refine MC_of 0 (by decide) rfl (fun X C hG => ?_)
  replace C : Cx X (d + 2) 1 cX5_back RX5 (some .int) := C
  show Vw LC X (d + 2) 1 0 [some (.ref 0)] [] mh
  obtain ⟨res, h⟩ : ∃ res, X5_back mh = res := ⟨_, rfl⟩
  rw [h] at hG
  unfold X5_back at h
  refine V_aload_n (pc := 0) C dX5_back_0 rfl rfl ?_
  refine V_getI (pc := 1) C CF5 fl_X5_55 LO5 (by decide) rfl dX5_back_1 (v := (mh.1 0 8)) rfl ?_
  refine V_ifne (pc := 4) (tgt := 10) C dX5_back_4 (by decide) (fun hc1 => ?_) (fun hc1 => ?_)
  · have h := it_f h hc1
    refine V_aload_n (pc := 10) C dX5_back_10 rfl rfl ?_
    refine V_getR (pc := 11) C (r' := 1) CF5 fl_X5_12 LO5 (by decide) rfl dX5_back_11 ?_
    refine V_aload_n (pc := 14) C dX5_back_14 rfl rfl ?_
    refine V_getR (pc := 15) C (r' := 2) CF5 fl_X5_16 LO5 (by decide) rfl dX5_back_15 ?_
    refine V_callVv (pc := 18) (rest := []) C cs_X5_232 (c_X0_layAs (d + 0) isF1 isF2 mh) CF0.1 (LO_F isF1) (by omega) (by decide) rfl rfl (Nat.le_of_ble_eq_true rfl) dX5_back_18 ?_
    refine V_aload_n (pc := 21) C dX5_back_21 rfl rfl ?_
    refine V_getR (pc := 22) C (r' := 1) CF5 fl_X5_12 LO5 (by decide) rfl dX5_back_22 ?_
    refine V_callVi (pc := 25) (rest := []) C cs_X5_207 (c_X0_lying (d + 0) isF1 (X0_layAs 1 2 mh)) CF0.1 (LO_F isF1) (by omega) (by decide) rfl rfl (Nat.le_of_ble_eq_true rfl) dX5_back_25 ?_
    exact V_iret (pc := 28) C (gdtw h hG) dX5_back_28
  · have h := it_t h hc1
    refine V_bipush (pc := 7) C (v := (-3)) dX5_back_7 (by decide) ?_
    exact V_iret (pc := 9) C (gdtw h hG) dX5_back_9
def X5_count (v1 : Int32) (mh : vMH) : Int32 := (if v1 = 0 then (mh.1 1 4) else (if v1 = 1 then ((mh.1 1 4) - (X0_lying 1 mh)) else (if v1 = 2 then (mh.1 1 6) else (if v1 = 3 then (mh.1 1 7) else (if v1 = 4 then (mh.1 1 8) else (if v1 = 5 then (mh.1 1 9) else (if v1 = 6 then (mh.1 5 0) else (if v1 = 7 then (mh.1 6 0) else (if v1 = 8 then (mh.1 1 10) else (-2))))))))))
set_option maxRecDepth 100000 in
set_option maxHeartbeats 8000000 in
theorem c_X5_count (d : Nat) (v1 : Int32) (mh : vMH) : MC LC (d + 2) yX5_count cX5_count 2 (some .int) [.ref 0, .int v1] mh (some (.int (X5_count v1 mh))) mh := by
  refine MC_of 0 (by decide) rfl (fun X C hG => ?_)
  replace C : Cx X (d + 2) 2 cX5_count RX5 (some .int) := C
  show Vw LC X (d + 2) 2 0 [some (.ref 0), some (.int v1)] [] mh
  obtain ⟨res, h⟩ : ∃ res, X5_count v1 mh = res := ⟨_, rfl⟩
  rw [h] at hG
  unfold X5_count at h
  refine V_iload_n (pc := 0) C dX5_count_0 rfl rfl ?_
  by_cases hc1 : v1 = 0
  · have h := it_t h hc1
    refine V_tab (pc := 1) (tgt := 52) C dX5_count_1 (by decide) (v_tgt_k hc1 (by decide)) ?_
    refine V_aload_n (pc := 52) C dX5_count_52 rfl rfl ?_
    refine V_getR (pc := 53) C (r' := 1) CF5 fl_X5_12 LO5 (by decide) rfl dX5_count_53 ?_
    refine V_getI (pc := 56) C CF0 fl_X5_235 (LO_F isF1) (by decide) rfl dX5_count_56 (v := (mh.1 1 4)) rfl ?_
    exact V_iret (pc := 59) C (gdt h hG) dX5_count_59
  · have h := it_f h hc1
    by_cases hc2 : v1 = 1
    · have h := it_t h hc2
      refine V_tab (pc := 1) (tgt := 60) C dX5_count_1 (by decide) (v_tgt_k hc2 (by decide)) ?_
      refine V_aload_n (pc := 60) C dX5_count_60 rfl rfl ?_
      refine V_getR (pc := 61) C (r' := 1) CF5 fl_X5_12 LO5 (by decide) rfl dX5_count_61 ?_
      refine V_getI (pc := 64) C CF0 fl_X5_235 (LO_F isF1) (by decide) rfl dX5_count_64 (v := (mh.1 1 4)) rfl ?_
      refine V_aload_n (pc := 67) C dX5_count_67 rfl rfl ?_
      refine V_getR (pc := 68) C (r' := 1) CF5 fl_X5_12 LO5 (by decide) rfl dX5_count_68 ?_
      refine V_callVi (pc := 71) (rest := [.int (mh.1 1 4)]) C cs_X5_207 (c_X0_lying (d + 0) isF1 mh) CF0.1 (LO_F isF1) (by omega) (by decide) rfl rfl (Nat.le_of_ble_eq_true rfl) dX5_count_71 ?_
      refine V_isub (pc := 74) C dX5_count_74 ?_
      exact V_iret (pc := 75) C (gdt h hG) dX5_count_75
    · have h := it_f h hc2
      by_cases hc3 : v1 = 2
      · have h := it_t h hc3
        refine V_tab (pc := 1) (tgt := 76) C dX5_count_1 (by decide) (v_tgt_k hc3 (by decide)) ?_
        refine V_aload_n (pc := 76) C dX5_count_76 rfl rfl ?_
        refine V_getR (pc := 77) C (r' := 1) CF5 fl_X5_12 LO5 (by decide) rfl dX5_count_77 ?_
        refine V_getI (pc := 80) C CF0 fl_X5_92 (LO_F isF1) (by decide) rfl dX5_count_80 (v := (mh.1 1 6)) rfl ?_
        exact V_iret (pc := 83) C (gdt h hG) dX5_count_83
      · have h := it_f h hc3
        by_cases hc4 : v1 = 3
        · have h := it_t h hc4
          refine V_tab (pc := 1) (tgt := 84) C dX5_count_1 (by decide) (v_tgt_k hc4 (by decide)) ?_
          refine V_aload_n (pc := 84) C dX5_count_84 rfl rfl ?_
          refine V_getR (pc := 85) C (r' := 1) CF5 fl_X5_12 LO5 (by decide) rfl dX5_count_85 ?_
          refine V_getI (pc := 88) C CF0 fl_X5_96 (LO_F isF1) (by decide) rfl dX5_count_88 (v := (mh.1 1 7)) rfl ?_
          exact V_iret (pc := 91) C (gdt h hG) dX5_count_91
        · have h := it_f h hc4
          by_cases hc5 : v1 = 4
          · have h := it_t h hc5
            refine V_tab (pc := 1) (tgt := 92) C dX5_count_1 (by decide) (v_tgt_k hc5 (by decide)) ?_
            refine V_aload_n (pc := 92) C dX5_count_92 rfl rfl ?_
            refine V_getR (pc := 93) C (r' := 1) CF5 fl_X5_12 LO5 (by decide) rfl dX5_count_93 ?_
            refine V_getI (pc := 96) C CF0 fl_X5_157 (LO_F isF1) (by decide) rfl dX5_count_96 (v := (mh.1 1 8)) rfl ?_
            exact V_iret (pc := 99) C (gdt h hG) dX5_count_99
          · have h := it_f h hc5
            by_cases hc6 : v1 = 5
            · have h := it_t h hc6
              refine V_tab (pc := 1) (tgt := 100) C dX5_count_1 (by decide) (v_tgt_k hc6 (by decide)) ?_
              refine V_aload_n (pc := 100) C dX5_count_100 rfl rfl ?_
              refine V_getR (pc := 101) C (r' := 1) CF5 fl_X5_12 LO5 (by decide) rfl dX5_count_101 ?_
              refine V_getI (pc := 104) C CF0 fl_X5_148 (LO_F isF1) (by decide) rfl dX5_count_104 (v := (mh.1 1 9)) rfl ?_
              exact V_iret (pc := 107) C (gdt h hG) dX5_count_107
            · have h := it_f h hc6
              by_cases hc7 : v1 = 6
              · have h := it_t h hc7
                refine V_tab (pc := 1) (tgt := 108) C dX5_count_1 (by decide) (v_tgt_k hc7 (by decide)) ?_
                refine V_aload_n (pc := 108) C dX5_count_108 rfl rfl ?_
                refine V_getR (pc := 109) C (r' := 5) CF5 fl_X5_28 LO5 (by decide) rfl dX5_count_109 ?_
                refine V_getI (pc := 112) C CF3 fl_X5_238 LO3 (by decide) rfl dX5_count_112 (v := (mh.1 5 0)) rfl ?_
                exact V_iret (pc := 115) C (gdt h hG) dX5_count_115
              · have h := it_f h hc7
                by_cases hc8 : v1 = 7
                · have h := it_t h hc8
                  refine V_tab (pc := 1) (tgt := 116) C dX5_count_1 (by decide) (v_tgt_k hc8 (by decide)) ?_
                  refine V_aload_n (pc := 116) C dX5_count_116 rfl rfl ?_
                  refine V_getR (pc := 117) C (r' := 6) CF5 fl_X5_37 LO5 (by decide) rfl dX5_count_117 ?_
                  refine V_getI (pc := 120) C CF1 fl_X5_239 LO1 (by decide) rfl dX5_count_120 (v := (mh.1 6 0)) rfl ?_
                  exact V_iret (pc := 123) C (gdt h hG) dX5_count_123
                · have h := it_f h hc8
                  by_cases hc9 : v1 = 8
                  · have h := it_t h hc9
                    refine V_tab (pc := 1) (tgt := 124) C dX5_count_1 (by decide) (v_tgt_k hc9 (by decide)) ?_
                    refine V_aload_n (pc := 124) C dX5_count_124 rfl rfl ?_
                    refine V_getR (pc := 125) C (r' := 1) CF5 fl_X5_12 LO5 (by decide) rfl dX5_count_125 ?_
                    refine V_getI (pc := 128) C CF0 fl_X5_141 (LO_F isF1) (by decide) rfl dX5_count_128 (v := (mh.1 1 10)) rfl ?_
                    exact V_iret (pc := 131) C (gdt h hG) dX5_count_131
                  · have h := it_f h hc9
                    refine V_tab (pc := 1) (tgt := 132) C dX5_count_1 (by decide) (v_tgt_d ⟨.inr (fun e => hc1 (e.trans (by decide))), .inr (fun e => hc2 (e.trans (by decide))), .inr (fun e => hc3 (e.trans (by decide))), .inr (fun e => hc4 (e.trans (by decide))), .inr (fun e => hc5 (e.trans (by decide))), .inr (fun e => hc6 (e.trans (by decide))), .inr (fun e => hc7 (e.trans (by decide))), .inr (fun e => hc8 (e.trans (by decide))), .inr (fun e => hc9 (e.trans (by decide))), trivial⟩ (by decide)) ?_
                    refine V_bipush (pc := 132) C (v := (-2)) dX5_count_132 (by decide) ?_
                    exact V_iret (pc := 134) C (gdt h hG) dX5_count_134
def X5_sheet (v1 : Int32) (v2 : Int32) (v3 : Int32) (mh : vMH) : Option (Int32 × vMH) := (if (X5_isSheet v1) = 0 then (some ((-2), mh)) else (if (X5_isWithin v2 (-1) 2) = 0 then (some ((-2), mh)) else (if v2 = (-1) then ((X2_remove v1 mh).bind fun q8 => (some (1, q8))) else (if v3 ≤ 40 then (if 0 ≤ v3 then ((X2_make v1 v2 v3 mh).bind fun q6 => (some (1, q6))) else (some ((-14), mh))) else (some ((-2), mh))))))
set_option maxRecDepth 100000 in
set_option maxHeartbeats 8000000 in
theorem c_X5_sheet (d : Nat) (v1 : Int32) (v2 : Int32) (v3 : Int32) (mh : vMH) {res : Int32 × vMH} (h : X5_sheet v1 v2 v3 mh = some res) : MC LC (d + 3) yX5_sheet cX5_sheet 4 (some .int) [.ref 0, .int v1, .int v2, .int v3] mh (some (.int res.1)) res.2 := by
  refine MC_of 0 (by decide) rfl (fun X C hG => ?_)
  replace C : Cx X (d + 3) 4 cX5_sheet RX5 (some .int) := C
  show Vw LC X (d + 3) 4 0 [some (.ref 0), some (.int v1), some (.int v2), some (.int v3)] [] mh
  unfold X5_sheet at h
  refine V_iload_n (pc := 0) C dX5_sheet_0 rfl rfl ?_
  refine V_callSi (pc := 1) (rest := []) C cs_X5_192 (c_X5_isSheet (d + 2) v1 mh) (by omega) (by decide) rfl rfl (Nat.le_of_ble_eq_true rfl) dX5_sheet_1 ?_
  refine V_ifeq (pc := 4) (tgt := 16) C dX5_sheet_4 (by decide) (fun hc1 => ?_) (fun hc1 => ?_)
  · have h := it_t h hc1
    refine V_bipush (pc := 16) C (v := (-2)) dX5_sheet_16 (by decide) ?_
    exact V_iret (pc := 18) C (gdow h hG) dX5_sheet_18
  · have h := it_f h hc1
    refine V_iload_n (pc := 7) C dX5_sheet_7 rfl rfl ?_
    refine V_iconst (pc := 8) C (v := (-1)) dX5_sheet_8 (by decide) ?_
    refine V_iconst (pc := 9) C (v := 2) dX5_sheet_9 (by decide) ?_
    refine V_callSi (pc := 10) (rest := []) C cs_X5_59 (c_X5_isWithin (d + 2) v2 (-1) 2 mh) (by omega) (by decide) rfl rfl (Nat.le_of_ble_eq_true rfl) dX5_sheet_10 ?_
    refine V_ifne (pc := 13) (tgt := 19) C dX5_sheet_13 (by decide) (fun hc2 => ?_) (fun hc2 => ?_)
    · have h := it_f h hc2
      refine V_iload_n (pc := 19) C dX5_sheet_19 rfl rfl ?_
      refine V_iconst (pc := 20) C (v := (-1)) dX5_sheet_20 (by decide) ?_
      refine V_icmpne (pc := 21) (tgt := 34) C dX5_sheet_21 (by decide) (fun hc3 => ?_) (fun hc3 => ?_)
      · have h := it_f h hc3
        refine V_iload_n (pc := 34) C dX5_sheet_34 rfl rfl ?_
        refine V_bipush (pc := 35) C (v := 40) dX5_sheet_35 (by decide) ?_
        refine V_icmple (pc := 37) (tgt := 43) C dX5_sheet_37 (by decide) (fun hc4 => ?_) (fun hc4 => ?_)
        · have h := it_t h hc4
          refine V_iload_n (pc := 43) C dX5_sheet_43 rfl rfl ?_
          refine V_ifge (pc := 44) (tgt := 50) C dX5_sheet_44 (by decide) (fun hc5 => ?_) (fun hc5 => ?_)
          · have h := it_t h hc5
            refine V_aload_n (pc := 50) C dX5_sheet_50 rfl rfl ?_
            refine V_getR (pc := 51) C (r' := 8) CF5 fl_X5_51 LO5 (by decide) rfl dX5_sheet_51 ?_
            refine V_iload_n (pc := 54) C dX5_sheet_54 rfl rfl ?_
            refine V_iload_n (pc := 55) C dX5_sheet_55 rfl rfl ?_
            refine V_iload_n (pc := 56) C dX5_sheet_56 rfl rfl ?_
            obtain ⟨q6, hq7, h⟩ := bnd_ok h
            refine V_callVv (pc := 57) (rest := []) C cs_X5_244 (c_X2_make (d + 1) v1 v2 v3 mh hq7) CF2.1 LO2 (by omega) (by decide) rfl rfl (Nat.le_of_ble_eq_true rfl) dX5_sheet_57 ?_
            refine V_iconst (pc := 60) C (v := 1) dX5_sheet_60 (by decide) ?_
            exact V_iret (pc := 61) C (gdow h hG) dX5_sheet_61
          · have h := it_f h hc5
            refine V_bipush (pc := 47) C (v := (-14)) dX5_sheet_47 (by decide) ?_
            exact V_iret (pc := 49) C (gdow h hG) dX5_sheet_49
        · have h := it_f h hc4
          refine V_bipush (pc := 40) C (v := (-2)) dX5_sheet_40 (by decide) ?_
          exact V_iret (pc := 42) C (gdow h hG) dX5_sheet_42
      · have h := it_t h hc3
        refine V_aload_n (pc := 24) C dX5_sheet_24 rfl rfl ?_
        refine V_getR (pc := 25) C (r' := 8) CF5 fl_X5_51 LO5 (by decide) rfl dX5_sheet_25 ?_
        refine V_iload_n (pc := 28) C dX5_sheet_28 rfl rfl ?_
        obtain ⟨q8, hq9, h⟩ := bnd_ok h
        refine V_callVv (pc := 29) (rest := []) C cs_X5_241 (c_X2_remove (d + 0) v1 mh hq9) CF2.1 LO2 (by omega) (by decide) rfl rfl (Nat.le_of_ble_eq_true rfl) dX5_sheet_29 ?_
        refine V_iconst (pc := 32) C (v := 1) dX5_sheet_32 (by decide) ?_
        exact V_iret (pc := 33) C (gdow h hG) dX5_sheet_33
    · have h := it_t h hc2
      refine V_bipush (pc := 16) C (v := (-2)) dX5_sheet_16 (by decide) ?_
      exact V_iret (pc := 18) C (gdow h hG) dX5_sheet_18
def X5_cell (v1 : Int32) (v2 : Int32) (v3 : Int32) (mh : vMH) : Option (Int32 × vMH) := (if (X5_isSheet v1) = 0 then (some ((-2), mh)) else ((X2_sortOf v1 mh).bind fun q2 => (if q2 = (-1) then (some ((-11), mh)) else (if v2 < 0 then (some ((-12), mh)) else ((X2_sizeOf v1 mh).bind fun q6 => (if v2 < q6 then ((X2_put v1 v2 v3 mh).bind fun q9 => (some (1, q9))) else (some ((-12), mh))))))))
set_option maxRecDepth 100000 in
set_option maxHeartbeats 8000000 in
theorem c_X5_cell (d : Nat) (v1 : Int32) (v2 : Int32) (v3 : Int32) (mh : vMH) {res : Int32 × vMH} (h : X5_cell v1 v2 v3 mh = some res) : MC LC (d + 4) yX5_cell cX5_cell 4 (some .int) [.ref 0, .int v1, .int v2, .int v3] mh (some (.int res.1)) res.2 := by
  refine MC_of 0 (by decide) rfl (fun X C hG => ?_)
  replace C : Cx X (d + 4) 4 cX5_cell RX5 (some .int) := C
  show Vw LC X (d + 4) 4 0 [some (.ref 0), some (.int v1), some (.int v2), some (.int v3)] [] mh
  unfold X5_cell at h
  refine V_iload_n (pc := 0) C dX5_cell_0 rfl rfl ?_
  refine V_callSi (pc := 1) (rest := []) C cs_X5_192 (c_X5_isSheet (d + 3) v1 mh) (by omega) (by decide) rfl rfl (Nat.le_of_ble_eq_true rfl) dX5_cell_1 ?_
  refine V_ifne (pc := 4) (tgt := 10) C dX5_cell_4 (by decide) (fun hc1 => ?_) (fun hc1 => ?_)
  · have h := it_f h hc1
    refine V_aload_n (pc := 10) C dX5_cell_10 rfl rfl ?_
    refine V_getR (pc := 11) C (r' := 8) CF5 fl_X5_51 LO5 (by decide) rfl dX5_cell_11 ?_
    refine V_iload_n (pc := 14) C dX5_cell_14 rfl rfl ?_
    obtain ⟨q2, hq3, h⟩ := bnd_ok h
    refine V_callVi (pc := 15) (rest := []) C cs_X5_195 (c_X2_sortOf (d + 2) v1 mh hq3) CF2.1 LO2 (by omega) (by decide) rfl rfl (Nat.le_of_ble_eq_true rfl) dX5_cell_15 ?_
    refine V_iconst (pc := 18) C (v := (-1)) dX5_cell_18 (by decide) ?_
    refine V_icmpne (pc := 19) (tgt := 25) C dX5_cell_19 (by decide) (fun hc4 => ?_) (fun hc4 => ?_)
    · have h := it_f h hc4
      refine V_iload_n (pc := 25) C dX5_cell_25 rfl rfl ?_
      refine V_iflt (pc := 26) (tgt := 41) C dX5_cell_26 (by decide) (fun hc5 => ?_) (fun hc5 => ?_)
      · have h := it_t h hc5
        refine V_bipush (pc := 41) C (v := (-12)) dX5_cell_41 (by decide) ?_
        exact V_iret (pc := 43) C (gdow h hG) dX5_cell_43
      · have h := it_f h hc5
        refine V_iload_n (pc := 29) C dX5_cell_29 rfl rfl ?_
        refine V_aload_n (pc := 30) C dX5_cell_30 rfl rfl ?_
        refine V_getR (pc := 31) C (r' := 8) CF5 fl_X5_51 LO5 (by decide) rfl dX5_cell_31 ?_
        refine V_iload_n (pc := 34) C dX5_cell_34 rfl rfl ?_
        obtain ⟨q6, hq7, h⟩ := bnd_ok h
        refine V_callVi (pc := 35) (rest := [.int v2]) C cs_X5_198 (c_X2_sizeOf (d + 2) v1 mh hq7) CF2.1 LO2 (by omega) (by decide) rfl rfl (Nat.le_of_ble_eq_true rfl) dX5_cell_35 ?_
        refine V_icmplt (pc := 38) (tgt := 44) C dX5_cell_38 (by decide) (fun hc8 => ?_) (fun hc8 => ?_)
        · have h := it_t h hc8
          refine V_aload_n (pc := 44) C dX5_cell_44 rfl rfl ?_
          refine V_getR (pc := 45) C (r' := 8) CF5 fl_X5_51 LO5 (by decide) rfl dX5_cell_45 ?_
          refine V_iload_n (pc := 48) C dX5_cell_48 rfl rfl ?_
          refine V_iload_n (pc := 49) C dX5_cell_49 rfl rfl ?_
          refine V_iload_n (pc := 50) C dX5_cell_50 rfl rfl ?_
          obtain ⟨q9, hq10, h⟩ := bnd_ok h
          refine V_callVv (pc := 51) (rest := []) C cs_X5_248 (c_X2_put (d + 0) v1 v2 v3 mh hq10) CF2.1 LO2 (by omega) (by decide) rfl rfl (Nat.le_of_ble_eq_true rfl) dX5_cell_51 ?_
          refine V_iconst (pc := 54) C (v := 1) dX5_cell_54 (by decide) ?_
          exact V_iret (pc := 55) C (gdow h hG) dX5_cell_55
        · have h := it_f h hc8
          refine V_bipush (pc := 41) C (v := (-12)) dX5_cell_41 (by decide) ?_
          exact V_iret (pc := 43) C (gdow h hG) dX5_cell_43
    · have h := it_t h hc4
      refine V_bipush (pc := 22) C (v := (-11)) dX5_cell_22 (by decide) ?_
      exact V_iret (pc := 24) C (gdow h hG) dX5_cell_24
  · have h := it_t h hc1
    refine V_bipush (pc := 7) C (v := (-2)) dX5_cell_7 (by decide) ?_
    exact V_iret (pc := 9) C (gdow h hG) dX5_cell_9
def X5_copy (v1 : Int32) (v2 : Int32) (v3 : Int32) (v4 : Int32) (v5 : Int32) (mh : vMH) : Option (Int32 × vMH) := (if (X5_isSheet v1) = 0 then (some ((-2), mh)) else (if (X5_isSheet v3) = 0 then (some ((-2), mh)) else ((X2_sortOf v1 mh).bind fun q3 => (if q3 = (-1) then (some ((-11), mh)) else ((X2_sortOf v3 mh).bind fun q6 => (if q6 = (-1) then (some ((-11), mh)) else ((X2_sortOf v1 mh).bind fun q9 => ((X2_sortOf v3 mh).bind fun q11 => (if q9 = q11 then ((X2_hasRange v1 v2 v5 mh).bind fun q14 => (if q14 = 0 then (some ((-12), mh)) else ((X2_hasRange v3 v4 v5 mh).bind fun q17 => (if q17 = 0 then (some ((-12), mh)) else ((X2_move v1 v2 v3 v4 v5 mh).bind fun q20 => (some (v5, q20))))))) else (some ((-13), mh)))))))))))
set_option maxRecDepth 100000 in
set_option maxHeartbeats 8000000 in
theorem c_X5_copy (d : Nat) (v1 : Int32) (v2 : Int32) (v3 : Int32) (v4 : Int32) (v5 : Int32) (mh : vMH) {res : Int32 × vMH} (h : X5_copy v1 v2 v3 v4 v5 mh = some res) : MC LC (d + 4) yX5_copy cX5_copy 6 (some .int) [.ref 0, .int v1, .int v2, .int v3, .int v4, .int v5] mh (some (.int res.1)) res.2 := by
  refine MC_of 0 (by decide) rfl (fun X C hG => ?_)
  replace C : Cx X (d + 4) 6 cX5_copy RX5 (some .int) := C
  show Vw LC X (d + 4) 6 0 [some (.ref 0), some (.int v1), some (.int v2), some (.int v3), some (.int v4), some (.int v5)] [] mh
  unfold X5_copy at h
  refine V_iload_n (pc := 0) C dX5_copy_0 rfl rfl ?_
  refine V_callSi (pc := 1) (rest := []) C cs_X5_192 (c_X5_isSheet (d + 3) v1 mh) (by omega) (by decide) rfl rfl (Nat.le_of_ble_eq_true rfl) dX5_copy_1 ?_
  refine V_ifeq (pc := 4) (tgt := 14) C dX5_copy_4 (by decide) (fun hc1 => ?_) (fun hc1 => ?_)
  · have h := it_t h hc1
    refine V_bipush (pc := 14) C (v := (-2)) dX5_copy_14 (by decide) ?_
    exact V_iret (pc := 16) C (gdow h hG) dX5_copy_16
  · have h := it_f h hc1
    refine V_iload_n (pc := 7) C dX5_copy_7 rfl rfl ?_
    refine V_callSi (pc := 8) (rest := []) C cs_X5_192 (c_X5_isSheet (d + 3) v3 mh) (by omega) (by decide) rfl rfl (Nat.le_of_ble_eq_true rfl) dX5_copy_8 ?_
    refine V_ifne (pc := 11) (tgt := 17) C dX5_copy_11 (by decide) (fun hc2 => ?_) (fun hc2 => ?_)
    · have h := it_f h hc2
      refine V_aload_n (pc := 17) C dX5_copy_17 rfl rfl ?_
      refine V_getR (pc := 18) C (r' := 8) CF5 fl_X5_51 LO5 (by decide) rfl dX5_copy_18 ?_
      refine V_iload_n (pc := 21) C dX5_copy_21 rfl rfl ?_
      obtain ⟨q3, hq4, h⟩ := bnd_ok h
      refine V_callVi (pc := 22) (rest := []) C cs_X5_195 (c_X2_sortOf (d + 2) v1 mh hq4) CF2.1 LO2 (by omega) (by decide) rfl rfl (Nat.le_of_ble_eq_true rfl) dX5_copy_22 ?_
      refine V_iconst (pc := 25) C (v := (-1)) dX5_copy_25 (by decide) ?_
      refine V_icmpeq (pc := 26) (tgt := 41) C dX5_copy_26 (by decide) (fun hc5 => ?_) (fun hc5 => ?_)
      · have h := it_t h hc5
        refine V_bipush (pc := 41) C (v := (-11)) dX5_copy_41 (by decide) ?_
        exact V_iret (pc := 43) C (gdow h hG) dX5_copy_43
      · have h := it_f h hc5
        refine V_aload_n (pc := 29) C dX5_copy_29 rfl rfl ?_
        refine V_getR (pc := 30) C (r' := 8) CF5 fl_X5_51 LO5 (by decide) rfl dX5_copy_30 ?_
        refine V_iload_n (pc := 33) C dX5_copy_33 rfl rfl ?_
        obtain ⟨q6, hq7, h⟩ := bnd_ok h
        refine V_callVi (pc := 34) (rest := []) C cs_X5_195 (c_X2_sortOf (d + 2) v3 mh hq7) CF2.1 LO2 (by omega) (by decide) rfl rfl (Nat.le_of_ble_eq_true rfl) dX5_copy_34 ?_
        refine V_iconst (pc := 37) C (v := (-1)) dX5_copy_37 (by decide) ?_
        refine V_icmpne (pc := 38) (tgt := 44) C dX5_copy_38 (by decide) (fun hc8 => ?_) (fun hc8 => ?_)
        · have h := it_f h hc8
          refine V_aload_n (pc := 44) C dX5_copy_44 rfl rfl ?_
          refine V_getR (pc := 45) C (r' := 8) CF5 fl_X5_51 LO5 (by decide) rfl dX5_copy_45 ?_
          refine V_iload_n (pc := 48) C dX5_copy_48 rfl rfl ?_
          obtain ⟨q9, hq10, h⟩ := bnd_ok h
          refine V_callVi (pc := 49) (rest := []) C cs_X5_195 (c_X2_sortOf (d + 2) v1 mh hq10) CF2.1 LO2 (by omega) (by decide) rfl rfl (Nat.le_of_ble_eq_true rfl) dX5_copy_49 ?_
          refine V_aload_n (pc := 52) C dX5_copy_52 rfl rfl ?_
          refine V_getR (pc := 53) C (r' := 8) CF5 fl_X5_51 LO5 (by decide) rfl dX5_copy_53 ?_
          refine V_iload_n (pc := 56) C dX5_copy_56 rfl rfl ?_
          obtain ⟨q11, hq12, h⟩ := bnd_ok h
          refine V_callVi (pc := 57) (rest := [.int q9]) C cs_X5_195 (c_X2_sortOf (d + 2) v3 mh hq12) CF2.1 LO2 (by omega) (by decide) rfl rfl (Nat.le_of_ble_eq_true rfl) dX5_copy_57 ?_
          refine V_icmpeq (pc := 60) (tgt := 66) C dX5_copy_60 (by decide) (fun hc13 => ?_) (fun hc13 => ?_)
          · have h := it_t h hc13
            refine V_aload_n (pc := 66) C dX5_copy_66 rfl rfl ?_
            refine V_getR (pc := 67) C (r' := 8) CF5 fl_X5_51 LO5 (by decide) rfl dX5_copy_67 ?_
            refine V_iload_n (pc := 70) C dX5_copy_70 rfl rfl ?_
            refine V_iload_n (pc := 71) C dX5_copy_71 rfl rfl ?_
            refine V_iload (pc := 72) C dX5_copy_72 rfl ?_
            obtain ⟨q14, hq15, h⟩ := bnd_ok h
            refine V_callVi (pc := 74) (rest := []) C cs_X5_251 (c_X2_hasRange (d + 1) v1 v2 v5 mh hq15) CF2.1 LO2 (by omega) (by decide) rfl rfl (Nat.le_of_ble_eq_true rfl) dX5_copy_74 ?_
            refine V_ifeq (pc := 77) (tgt := 95) C dX5_copy_77 (by decide) (fun hc16 => ?_) (fun hc16 => ?_)
            · have h := it_t h hc16
              refine V_bipush (pc := 95) C (v := (-12)) dX5_copy_95 (by decide) ?_
              exact V_iret (pc := 97) C (gdow h hG) dX5_copy_97
            · have h := it_f h hc16
              refine V_aload_n (pc := 80) C dX5_copy_80 rfl rfl ?_
              refine V_getR (pc := 81) C (r' := 8) CF5 fl_X5_51 LO5 (by decide) rfl dX5_copy_81 ?_
              refine V_iload_n (pc := 84) C dX5_copy_84 rfl rfl ?_
              refine V_iload (pc := 85) C dX5_copy_85 rfl ?_
              refine V_iload (pc := 87) C dX5_copy_87 rfl ?_
              obtain ⟨q17, hq18, h⟩ := bnd_ok h
              refine V_callVi (pc := 89) (rest := []) C cs_X5_251 (c_X2_hasRange (d + 1) v3 v4 v5 mh hq18) CF2.1 LO2 (by omega) (by decide) rfl rfl (Nat.le_of_ble_eq_true rfl) dX5_copy_89 ?_
              refine V_ifne (pc := 92) (tgt := 98) C dX5_copy_92 (by decide) (fun hc19 => ?_) (fun hc19 => ?_)
              · have h := it_f h hc19
                refine V_aload_n (pc := 98) C dX5_copy_98 rfl rfl ?_
                refine V_getR (pc := 99) C (r' := 8) CF5 fl_X5_51 LO5 (by decide) rfl dX5_copy_99 ?_
                refine V_iload_n (pc := 102) C dX5_copy_102 rfl rfl ?_
                refine V_iload_n (pc := 103) C dX5_copy_103 rfl rfl ?_
                refine V_iload_n (pc := 104) C dX5_copy_104 rfl rfl ?_
                refine V_iload (pc := 105) C dX5_copy_105 rfl ?_
                refine V_iload (pc := 107) C dX5_copy_107 rfl ?_
                obtain ⟨q20, hq21, h⟩ := bnd_ok h
                refine V_callVv (pc := 109) (rest := []) C cs_X5_254 (c_X2_move (d + 0) v1 v2 v3 v4 v5 mh hq21) CF2.1 LO2 (by omega) (by decide) rfl rfl (Nat.le_of_ble_eq_true rfl) dX5_copy_109 ?_
                refine V_iload (pc := 112) C dX5_copy_112 rfl ?_
                exact V_iret (pc := 114) C (gdow h hG) dX5_copy_114
              · have h := it_t h hc19
                refine V_bipush (pc := 95) C (v := (-12)) dX5_copy_95 (by decide) ?_
                exact V_iret (pc := 97) C (gdow h hG) dX5_copy_97
          · have h := it_f h hc13
            refine V_bipush (pc := 63) C (v := (-13)) dX5_copy_63 (by decide) ?_
            exact V_iret (pc := 65) C (gdow h hG) dX5_copy_65
        · have h := it_t h hc8
          refine V_bipush (pc := 41) C (v := (-11)) dX5_copy_41 (by decide) ?_
          exact V_iret (pc := 43) C (gdow h hG) dX5_copy_43
    · have h := it_t h hc2
      refine V_bipush (pc := 14) C (v := (-2)) dX5_copy_14 (by decide) ?_
      exact V_iret (pc := 16) C (gdow h hG) dX5_copy_16
def X5_finds_L64 (v1 : Int32) (v3 : Int32) (v4 : Int32) (rec11 : Int32 → Int32 → vMH → Option (Int32 × vMH)) (v6_8 : Int32) (v7_9 : Int32) (mh10 : vMH) : Option (Int32 × vMH) := (if v4 ≤ v7_9 then (some (v6_8, mh10)) else ((X2_hasRange v1 (v3 + (3 * v7_9)) 3 mh10).bind fun q13 => (if q13 = 0 then (some ((-12), mh10)) else ((X2_itemOf v1 (v3 + (3 * v7_9)) mh10).bind fun q16 => ((X2_itemOf v1 ((v3 + (3 * v7_9)) + 1) mh10).bind fun q18 => ((X2_itemOf v1 ((v3 + (3 * v7_9)) + 2) mh10).bind fun q20 => ((X5_find q16 q18 q20 mh10).bind fun q22 => (if q22.1 < 0 then (rec11 v6_8 (v7_9 + 1) q22.2) else (rec11 (v6_8 + 1) (v7_9 + 1) q22.2)))))))))
def X5_finds (v1 : Int32) (v2 : Int32) (v3 : Int32) (v4 : Int32) (mh : vMH) : Option (Int32 × vMH) := (if (X5_isSheet v1) = 0 then (some ((-2), mh)) else (if (X5_isWithin v2 0 2) = 0 then (some ((-2), mh)) else (if (X5_isWithin v4 0 12) = 0 then (some ((-2), mh)) else ((X2_sortOf v1 mh).bind fun q4 => (if q4 = (-1) then (some ((-11), mh)) else (if q4 = v2 then (lq3 4096 (X5_finds_L64 v1 v3 v4) 0 0 mh) else (some ((-13), mh))))))))
set_option maxRecDepth 100000 in
set_option maxHeartbeats 8000000 in
theorem c_X5_finds (d : Nat) (v1 : Int32) (v2 : Int32) (v3 : Int32) (v4 : Int32) (mh : vMH) {res : Int32 × vMH} (h : X5_finds v1 v2 v3 v4 mh = some res) : MC LC (d + 4) yX5_finds cX5_finds 10 (some .int) [.ref 0, .int v1, .int v2, .int v3, .int v4] mh (some (.int res.1)) res.2 := by
  refine MC_of 5 (by decide) rfl (fun X C hG => ?_)
  replace C : Cx X (d + 4) 10 cX5_finds RX5 (some .int) := C
  show Vw LC X (d + 4) 10 0 [some (.ref 0), some (.int v1), some (.int v2), some (.int v3), some (.int v4), none, none, none, none, none] [] mh
  unfold X5_finds at h
  refine V_iload_n (pc := 0) C dX5_finds_0 rfl rfl ?_
  refine V_callSi (pc := 1) (rest := []) C cs_X5_192 (c_X5_isSheet (d + 3) v1 mh) (by omega) (by decide) rfl rfl (Nat.le_of_ble_eq_true rfl) dX5_finds_1 ?_
  refine V_ifeq (pc := 4) (tgt := 27) C dX5_finds_4 (by decide) (fun hc1 => ?_) (fun hc1 => ?_)
  · have h := it_t h hc1
    refine V_bipush (pc := 27) C (v := (-2)) dX5_finds_27 (by decide) ?_
    exact V_iret (pc := 29) C (gdow h hG) dX5_finds_29
  · have h := it_f h hc1
    refine V_iload_n (pc := 7) C dX5_finds_7 rfl rfl ?_
    refine V_iconst (pc := 8) C (v := 0) dX5_finds_8 (by decide) ?_
    refine V_iconst (pc := 9) C (v := 2) dX5_finds_9 (by decide) ?_
    refine V_callSi (pc := 10) (rest := []) C cs_X5_59 (c_X5_isWithin (d + 3) v2 0 2 mh) (by omega) (by decide) rfl rfl (Nat.le_of_ble_eq_true rfl) dX5_finds_10 ?_
    refine V_ifeq (pc := 13) (tgt := 27) C dX5_finds_13 (by decide) (fun hc2 => ?_) (fun hc2 => ?_)
    · have h := it_t h hc2
      refine V_bipush (pc := 27) C (v := (-2)) dX5_finds_27 (by decide) ?_
      exact V_iret (pc := 29) C (gdow h hG) dX5_finds_29
    · have h := it_f h hc2
      refine V_iload (pc := 16) C dX5_finds_16 rfl ?_
      refine V_iconst (pc := 18) C (v := 0) dX5_finds_18 (by decide) ?_
      refine V_bipush (pc := 19) C (v := 12) dX5_finds_19 (by decide) ?_
      refine V_callSi (pc := 21) (rest := []) C cs_X5_59 (c_X5_isWithin (d + 3) v4 0 12 mh) (by omega) (by decide) rfl rfl (Nat.le_of_ble_eq_true rfl) dX5_finds_21 ?_
      refine V_ifne (pc := 24) (tgt := 30) C dX5_finds_24 (by decide) (fun hc3 => ?_) (fun hc3 => ?_)
      · have h := it_f h hc3
        refine V_aload_n (pc := 30) C dX5_finds_30 rfl rfl ?_
        refine V_getR (pc := 31) C (r' := 8) CF5 fl_X5_51 LO5 (by decide) rfl dX5_finds_31 ?_
        refine V_iload_n (pc := 34) C dX5_finds_34 rfl rfl ?_
        obtain ⟨q4, hq5, h⟩ := bnd_ok h
        refine V_callVi (pc := 35) (rest := []) C cs_X5_195 (c_X2_sortOf (d + 2) v1 mh hq5) CF2.1 LO2 (by omega) (by decide) rfl rfl (Nat.le_of_ble_eq_true rfl) dX5_finds_35 ?_
        refine V_istore (pc := 38) C (lv' := [some (.ref 0), some (.int v1), some (.int v2), some (.int v3), some (.int v4), some (.int q4), none, none, none, none]) dX5_finds_38 (by decide) (Nat.le_of_ble_eq_true rfl) rfl rfl ?_
        refine V_iload (pc := 40) C dX5_finds_40 rfl ?_
        refine V_iconst (pc := 42) C (v := (-1)) dX5_finds_42 (by decide) ?_
        refine V_icmpne (pc := 43) (tgt := 49) C dX5_finds_43 (by decide) (fun hc6 => ?_) (fun hc6 => ?_)
        · have h := it_f h hc6
          refine V_iload (pc := 49) C dX5_finds_49 rfl ?_
          refine V_iload_n (pc := 51) C dX5_finds_51 rfl rfl ?_
          refine V_icmpeq (pc := 52) (tgt := 58) C dX5_finds_52 (by decide) (fun hc7 => ?_) (fun hc7 => ?_)
          · have h := it_t h hc7
            refine V_iconst (pc := 58) C (v := 0) dX5_finds_58 (by decide) ?_
            refine V_istore (pc := 59) C (lv' := [some (.ref 0), some (.int v1), some (.int v2), some (.int v3), some (.int v4), some (.int q4), some (.int 0), none, none, none]) dX5_finds_59 (by decide) (Nat.le_of_ble_eq_true rfl) rfl rfl ?_
            refine V_iconst (pc := 61) C (v := 0) dX5_finds_61 (by decide) ?_
            refine V_istore (pc := 62) C (lv' := [some (.ref 0), some (.int v1), some (.int v2), some (.int v3), some (.int v4), some (.int q4), some (.int 0), some (.int 0), none, none]) dX5_finds_62 (by decide) (Nat.le_of_ble_eq_true rfl) rfl rfl ?_
            refine lq3_ok (fun (v6_8 : Int32) (v7_9 : Int32) (mh10 : vMH) => Vw LC X (d + 4) 10 64 [some (.ref 0), some (.int v1), some (.int v2), some (.int v3), some (.int v4), some (.int q4), some (.int v6_8), some (.int v7_9), none, none] [] mh10) h (fun rec11 hrec11 v6_8 v7_9 mh10 h => ?_)
            unfold X5_finds_L64 at h
            refine V_iload (pc := 64) C dX5_finds_64 rfl ?_
            refine V_iload (pc := 66) C dX5_finds_66 rfl ?_
            refine V_icmpge (pc := 68) (tgt := 150) C dX5_finds_68 (by decide) (fun hc12 => ?_) (fun hc12 => ?_)
            · have h := it_t h hc12
              refine V_iload (pc := 150) C dX5_finds_150 rfl ?_
              exact V_iret (pc := 152) C (gdow h hG) dX5_finds_152
            · have h := it_f h hc12
              refine V_iload_n (pc := 71) C dX5_finds_71 rfl rfl ?_
              refine V_iconst (pc := 72) C (v := 3) dX5_finds_72 (by decide) ?_
              refine V_iload (pc := 73) C dX5_finds_73 rfl ?_
              refine V_imul (pc := 75) C dX5_finds_75 ?_
              refine V_iadd (pc := 76) C dX5_finds_76 ?_
              refine V_istore (pc := 77) C (lv' := [some (.ref 0), some (.int v1), some (.int v2), some (.int v3), some (.int v4), some (.int q4), some (.int v6_8), some (.int v7_9), some (.int (v3 + (3 * v7_9))), none]) dX5_finds_77 (by decide) (Nat.le_of_ble_eq_true rfl) rfl rfl ?_
              refine V_aload_n (pc := 79) C dX5_finds_79 rfl rfl ?_
              refine V_getR (pc := 80) C (r' := 8) CF5 fl_X5_51 LO5 (by decide) rfl dX5_finds_80 ?_
              refine V_iload_n (pc := 83) C dX5_finds_83 rfl rfl ?_
              refine V_iload (pc := 84) C dX5_finds_84 rfl ?_
              refine V_iconst (pc := 86) C (v := 3) dX5_finds_86 (by decide) ?_
              obtain ⟨q13, hq14, h⟩ := bnd_ok h
              refine V_callVi (pc := 87) (rest := []) C cs_X5_251 (c_X2_hasRange (d + 1) v1 (v3 + (3 * v7_9)) 3 mh10 hq14) CF2.1 LO2 (by omega) (by decide) rfl rfl (Nat.le_of_ble_eq_true rfl) dX5_finds_87 ?_
              refine V_ifne (pc := 90) (tgt := 96) C dX5_finds_90 (by decide) (fun hc15 => ?_) (fun hc15 => ?_)
              · have h := it_f h hc15
                refine V_aload_n (pc := 96) C dX5_finds_96 rfl rfl ?_
                refine V_aload_n (pc := 97) C dX5_finds_97 rfl rfl ?_
                refine V_getR (pc := 98) C (r' := 8) CF5 fl_X5_51 LO5 (by decide) rfl dX5_finds_98 ?_
                refine V_iload_n (pc := 101) C dX5_finds_101 rfl rfl ?_
                refine V_iload (pc := 102) C dX5_finds_102 rfl ?_
                obtain ⟨q16, hq17, h⟩ := bnd_ok h
                refine V_callVi (pc := 104) (rest := [.ref 0]) C cs_X5_201 (c_X2_itemOf (d + 0) v1 (v3 + (3 * v7_9)) mh10 hq17) CF2.1 LO2 (by omega) (by decide) rfl rfl (Nat.le_of_ble_eq_true rfl) dX5_finds_104 ?_
                refine V_aload_n (pc := 107) C dX5_finds_107 rfl rfl ?_
                refine V_getR (pc := 108) C (r' := 8) CF5 fl_X5_51 LO5 (by decide) rfl dX5_finds_108 ?_
                refine V_iload_n (pc := 111) C dX5_finds_111 rfl rfl ?_
                refine V_iload (pc := 112) C dX5_finds_112 rfl ?_
                refine V_iconst (pc := 114) C (v := 1) dX5_finds_114 (by decide) ?_
                refine V_iadd (pc := 115) C dX5_finds_115 ?_
                obtain ⟨q18, hq19, h⟩ := bnd_ok h
                refine V_callVi (pc := 116) (rest := [.int q16, .ref 0]) C cs_X5_201 (c_X2_itemOf (d + 0) v1 ((v3 + (3 * v7_9)) + 1) mh10 hq19) CF2.1 LO2 (by omega) (by decide) rfl rfl (Nat.le_of_ble_eq_true rfl) dX5_finds_116 ?_
                refine V_aload_n (pc := 119) C dX5_finds_119 rfl rfl ?_
                refine V_getR (pc := 120) C (r' := 8) CF5 fl_X5_51 LO5 (by decide) rfl dX5_finds_120 ?_
                refine V_iload_n (pc := 123) C dX5_finds_123 rfl rfl ?_
                refine V_iload (pc := 124) C dX5_finds_124 rfl ?_
                refine V_iconst (pc := 126) C (v := 2) dX5_finds_126 (by decide) ?_
                refine V_iadd (pc := 127) C dX5_finds_127 ?_
                obtain ⟨q20, hq21, h⟩ := bnd_ok h
                refine V_callVi (pc := 128) (rest := [.int q18, .int q16, .ref 0]) C cs_X5_201 (c_X2_itemOf (d + 0) v1 ((v3 + (3 * v7_9)) + 2) mh10 hq21) CF2.1 LO2 (by omega) (by decide) rfl rfl (Nat.le_of_ble_eq_true rfl) dX5_finds_128 ?_
                obtain ⟨q22, hq23, h⟩ := bnd_ok h
                refine V_callVi (pc := 131) (rest := []) C cs_X5_258 (c_X5_find (d + 2) q16 q18 q20 mh10 hq23) CF5.1 LO5 (by omega) (by decide) rfl rfl (Nat.le_of_ble_eq_true rfl) dX5_finds_131 ?_
                refine V_istore (pc := 134) C (lv' := [some (.ref 0), some (.int v1), some (.int v2), some (.int v3), some (.int v4), some (.int q4), some (.int v6_8), some (.int v7_9), some (.int (v3 + (3 * v7_9))), some (.int q22.1)]) dX5_finds_134 (by decide) (Nat.le_of_ble_eq_true rfl) rfl rfl ?_
                refine V_iload (pc := 136) C dX5_finds_136 rfl ?_
                refine V_iflt (pc := 138) (tgt := 144) C dX5_finds_138 (by decide) (fun hc24 => ?_) (fun hc24 => ?_)
                · have h := it_t h hc24
                  refine V_iinc (pc := 144) C (v := (v7_9 + 1)) (lv' := [some (.ref 0), some (.int v1), some (.int v2), some (.int v3), some (.int v4), some (.int q4), some (.int v6_8), some (.int (v7_9 + 1)), some (.int (v3 + (3 * v7_9))), some (.int q22.1)]) dX5_finds_144 rfl rfl (by decide) (Nat.le_of_ble_eq_true rfl) rfl rfl ?_
                  refine V_goto (pc := 147) (tgt := 64) C dX5_finds_147 (by decide) ?_
                  refine V_mask [true, true, true, true, true, true, true, true, false, false] (lv' := [some (.ref 0), some (.int v1), some (.int v2), some (.int v3), some (.int v4), some (.int q4), some (.int v6_8), some (.int (v7_9 + 1)), none, none]) rfl ?_
                  exact hrec11 v6_8 (v7_9 + 1) q22.2 h
                · have h := it_f h hc24
                  refine V_iinc (pc := 141) C (v := (v6_8 + 1)) (lv' := [some (.ref 0), some (.int v1), some (.int v2), some (.int v3), some (.int v4), some (.int q4), some (.int (v6_8 + 1)), some (.int v7_9), some (.int (v3 + (3 * v7_9))), some (.int q22.1)]) dX5_finds_141 rfl rfl (by decide) (Nat.le_of_ble_eq_true rfl) rfl rfl ?_
                  refine V_iinc (pc := 144) C (v := (v7_9 + 1)) (lv' := [some (.ref 0), some (.int v1), some (.int v2), some (.int v3), some (.int v4), some (.int q4), some (.int (v6_8 + 1)), some (.int (v7_9 + 1)), some (.int (v3 + (3 * v7_9))), some (.int q22.1)]) dX5_finds_144 rfl rfl (by decide) (Nat.le_of_ble_eq_true rfl) rfl rfl ?_
                  refine V_goto (pc := 147) (tgt := 64) C dX5_finds_147 (by decide) ?_
                  refine V_mask [true, true, true, true, true, true, true, true, false, false] (lv' := [some (.ref 0), some (.int v1), some (.int v2), some (.int v3), some (.int v4), some (.int q4), some (.int (v6_8 + 1)), some (.int (v7_9 + 1)), none, none]) rfl ?_
                  exact hrec11 (v6_8 + 1) (v7_9 + 1) q22.2 h
              · have h := it_t h hc15
                refine V_bipush (pc := 93) C (v := (-12)) dX5_finds_93 (by decide) ?_
                exact V_iret (pc := 95) C (gdow h hG) dX5_finds_95
          · have h := it_f h hc7
            refine V_bipush (pc := 55) C (v := (-13)) dX5_finds_55 (by decide) ?_
            exact V_iret (pc := 57) C (gdow h hG) dX5_finds_57
        · have h := it_t h hc6
          refine V_bipush (pc := 46) C (v := (-11)) dX5_finds_46 (by decide) ?_
          exact V_iret (pc := 48) C (gdow h hG) dX5_finds_48
      · have h := it_t h hc3
        refine V_bipush (pc := 27) C (v := (-2)) dX5_finds_27 (by decide) ?_
        exact V_iret (pc := 29) C (gdow h hG) dX5_finds_29
