def X6_says (v1 : Int32) (v2 : Int32) (v3 : Int32) (mh : vMH) : Option (Int32 × vMH) := ((X6_tone v2 mh).bind fun q1 => (chk (inb v2 12) ((X6_read (mh.1 0 4) v1 (v_up (v_up (v_up (v_up (v_up (v_up mh 0 17 q1) 0 18 v3) 0 19 (mh.1 0 13)) 0 20 (mh.1 0 14)) 0 21 ((mh.1 5 (jn v2)) / 8)) 0 22 (jr (mh.1 5 (jn v2)) 8))).bind fun q4 => (some (q4.1, q4.2)))))
set_option maxRecDepth 100000 in
set_option maxHeartbeats 8000000 in
theorem c_X6_says (d : Nat) (v1 : Int32) (v2 : Int32) (v3 : Int32) (mh : vMH) {res : Int32 × vMH} (h : X6_says v1 v2 v3 mh = some res) : MC LM (d + 71) yX6_says cX6_says 4 (some .int) [.ref 0, .int v1, .int v2, .int v3] mh (some (.int res.1)) res.2 := by
  refine MC_of 0 (by decide) rfl (fun X C hG => ?_)
  replace C : Cx X (d + 71) 4 cX6_says RX6 (some .int) := C
  show Vw LM X (d + 71) 4 0 [some (.ref 0), some (.int v1), some (.int v2), some (.int v3)] [] mh
  unfold X6_says at h
  refine V_aload_n (pc := 0) C dX6_says_0 rfl rfl ?_
  refine V_aload_n (pc := 1) C dX6_says_1 rfl rfl ?_
  refine V_iload_n (pc := 2) C dX6_says_2 rfl rfl ?_
  obtain ⟨q1, hq2, h⟩ := bnd_ok h
  refine V_callVi (pc := 3) (rest := [.ref 0]) C cs_X6_112 (c_X6_tone (d + 70) v2 mh hq2) CF6.1 LO6 (by omega) (by decide) rfl rfl (Nat.le_of_ble_eq_true rfl) dX6_says_3 ?_
  refine V_putI (pc := 6) C CF6 fl_X6_187 LO6 (by decide) rfl rfl rfl dX6_says_6 ?_
  refine V_aload_n (pc := 9) C dX6_says_9 rfl rfl ?_
  refine V_iload_n (pc := 10) C dX6_says_10 rfl rfl ?_
  refine V_putI (pc := 11) C CF6 fl_X6_190 LO6 (by decide) rfl rfl rfl dX6_says_11 ?_
  refine V_aload_n (pc := 14) C dX6_says_14 rfl rfl ?_
  refine V_aload_n (pc := 15) C dX6_says_15 rfl rfl ?_
  refine V_getI (pc := 16) C CF6 fl_X6_105 LO6 (by decide) rfl dX6_says_16 (v := (mh.1 0 13)) ((rd_k (by decide)).trans (rd_k (by decide))) ?_
  refine V_putI (pc := 19) C CF6 fl_X6_193 LO6 (by decide) rfl rfl rfl dX6_says_19 ?_
  refine V_aload_n (pc := 22) C dX6_says_22 rfl rfl ?_
  refine V_aload_n (pc := 23) C dX6_says_23 rfl rfl ?_
  refine V_getI (pc := 24) C CF6 fl_X6_35 LO6 (by decide) rfl dX6_says_24 (v := (mh.1 0 14)) ((rd_k (by decide)).trans ((rd_k (by decide)).trans (rd_k (by decide)))) ?_
  refine V_putI (pc := 27) C CF6 fl_X6_196 LO6 (by decide) rfl rfl rfl dX6_says_27 ?_
  refine V_aload_n (pc := 30) C dX6_says_30 rfl rfl ?_
  refine V_aload_n (pc := 31) C dX6_says_31 rfl rfl ?_
  refine V_getR (pc := 32) C (r' := 5) CF6 fl_X6_26 LO6 (by decide) rfl dX6_says_32 ?_
  refine V_iload_n (pc := 35) C dX6_says_35 rfl rfl ?_
  obtain ⟨hi3, h⟩ := chk_ok h
  refine V_iald (pc := 36) C LAM5 hi3 dX6_says_36 (v := (mh.1 5 (jn v2))) ((rd_ao LO6 LAM5).trans ((rd_ao LO6 LAM5).trans ((rd_ao LO6 LAM5).trans (rd_ao LO6 LAM5)))) ?_
  refine V_bipush (pc := 37) C (v := 8) dX6_says_37 (by decide) ?_
  refine V_idiv (pc := 39) C dX6_says_39 (by decide) ?_
  refine V_putI (pc := 40) C CF6 fl_X6_199 LO6 (by decide) rfl rfl rfl dX6_says_40 ?_
  refine V_aload_n (pc := 43) C dX6_says_43 rfl rfl ?_
  refine V_aload_n (pc := 44) C dX6_says_44 rfl rfl ?_
  refine V_getR (pc := 45) C (r' := 5) CF6 fl_X6_26 LO6 (by decide) rfl dX6_says_45 ?_
  refine V_iload_n (pc := 48) C dX6_says_48 rfl rfl ?_
  refine V_iald (pc := 49) C LAM5 hi3 dX6_says_49 (v := (mh.1 5 (jn v2))) ((rd_ao LO6 LAM5).trans ((rd_ao LO6 LAM5).trans ((rd_ao LO6 LAM5).trans ((rd_ao LO6 LAM5).trans (rd_ao LO6 LAM5))))) ?_
  refine V_bipush (pc := 50) C (v := 8) dX6_says_50 (by decide) ?_
  refine V_irem (pc := 52) C dX6_says_52 (by decide) ?_
  refine V_putI (pc := 53) C CF6 fl_X6_202 LO6 (by decide) rfl rfl rfl dX6_says_53 ?_
  refine V_aload_n (pc := 56) C dX6_says_56 rfl rfl ?_
  refine V_aload_n (pc := 57) C dX6_says_57 rfl rfl ?_
  refine V_getI (pc := 58) C CF6 fl_X6_245 LO6 (by decide) rfl dX6_says_58 (v := (mh.1 0 4)) ((rd_k (by decide)).trans ((rd_k (by decide)).trans ((rd_k (by decide)).trans ((rd_k (by decide)).trans ((rd_k (by decide)).trans (rd_k (by decide))))))) ?_
  refine V_iload_n (pc := 61) C dX6_says_61 rfl rfl ?_
  obtain ⟨q4, hq5, h⟩ := bnd_ok h
  refine V_callVi (pc := 62) (rest := []) C cs_X6_242 (c_X6_read (d + 0) (mh.1 0 4) v1 (v_up (v_up (v_up (v_up (v_up (v_up mh 0 17 q1) 0 18 v3) 0 19 (mh.1 0 13)) 0 20 (mh.1 0 14)) 0 21 ((mh.1 5 (jn v2)) / 8)) 0 22 (jr (mh.1 5 (jn v2)) 8)) hq5) CF6.1 LO6 (by omega) (by decide) rfl rfl (Nat.le_of_ble_eq_true rfl) dX6_says_62 ?_
  exact V_iret (pc := 65) C (gdow h hG) dX6_says_65
def X6_worth (v1 : Int32) (v2 : Int32) (mh : vMH) : Option (Int32 × vMH) := ((X6_says 2 v1 v2 mh).bind fun q1 => (some ((X6_within q1.1 0 99), q1.2)))
set_option maxRecDepth 100000 in
set_option maxHeartbeats 8000000 in
theorem c_X6_worth (d : Nat) (v1 : Int32) (v2 : Int32) (mh : vMH) {res : Int32 × vMH} (h : X6_worth v1 v2 mh = some res) : MC LM (d + 72) yX6_worth cX6_worth 3 (some .int) [.ref 0, .int v1, .int v2] mh (some (.int res.1)) res.2 := by
  refine MC_of 0 (by decide) rfl (fun X C hG => ?_)
  replace C : Cx X (d + 72) 3 cX6_worth RX6 (some .int) := C
  show Vw LM X (d + 72) 3 0 [some (.ref 0), some (.int v1), some (.int v2)] [] mh
  unfold X6_worth at h
  refine V_aload_n (pc := 0) C dX6_worth_0 rfl rfl ?_
  refine V_iconst (pc := 1) C (v := 2) dX6_worth_1 (by decide) ?_
  refine V_iload_n (pc := 2) C dX6_worth_2 rfl rfl ?_
  refine V_iload_n (pc := 3) C dX6_worth_3 rfl rfl ?_
  obtain ⟨q1, hq2, h⟩ := bnd_ok h
  refine V_callVi (pc := 4) (rest := []) C cs_X6_248 (c_X6_says (d + 0) 2 v1 v2 mh hq2) CF6.1 LO6 (by omega) (by decide) rfl rfl (Nat.le_of_ble_eq_true rfl) dX6_worth_4 ?_
  refine V_iconst (pc := 7) C (v := 0) dX6_worth_7 (by decide) ?_
  refine V_bipush (pc := 8) C (v := 99) dX6_worth_8 (by decide) ?_
  refine V_callSi (pc := 10) (rest := []) C cs_X6_251 (c_X6_within (d + 71) q1.1 0 99 q1.2) (by omega) (by decide) rfl rfl (Nat.le_of_ble_eq_true rfl) dX6_worth_10 ?_
  exact V_iret (pc := 13) C (gdow h hG) dX6_worth_13
def X6_told (v1 : Int32) (v2 : Int32) (mh : vMH) : Option (Int32 × vMH) := (if (X6_isFind v1 mh) = 0 then (some ((-2), mh)) else (if (X6_in (Int32.toInt64 v2) 0 9) = 0 then (some ((-2), mh)) else (if 4 ≤ v2 then (if 6 ≤ v2 then (if 8 ≤ v2 then (if v2 = 8 then (chk (inb v1 12) (some ((X6_dragsAt (mh.1 4 (jn v1)) (mh.1 7 (jn v1)) (mh.1 6 (jn v1))), mh))) else ((X6_loud v1 mh).bind fun q7 => ((X6_worth v1 q7 mh).bind fun q9 => (some (q9.1, q9.2))))) else (if v2 = 6 then ((X6_loud v1 mh).bind fun q16 => (some (q16, mh))) else (if (X6_lies v1 mh) = 0 then (some (0, mh)) else ((X6_heard v1 mh).bind fun q14 => (some (q14, mh)))))) else (if v2 = 4 then (some (((js (mh.1 0 12) v1) &&& 1), mh)) else ((X6_tone v1 mh).bind fun q19 => (some (q19, mh))))) else (if v2 = 0 then (chk (inb v1 12) (some ((mh.1 4 (jn v1)), mh))) else (if v2 = 1 then (chk (inb v1 12) (some ((mh.1 5 (jn v1)), mh))) else (if v2 = 2 then (chk (inb v1 12) (some ((mh.1 6 (jn v1)), mh))) else (chk (inb v1 12) (some ((mh.1 7 (jn v1)), mh)))))))))
set_option maxRecDepth 100000 in
set_option maxHeartbeats 8000000 in
theorem c_X6_told (d : Nat) (v1 : Int32) (v2 : Int32) (mh : vMH) {res : Int32 × vMH} (h : X6_told v1 v2 mh = some res) : MC LM (d + 73) yX6_told cX6_told 3 (some .int) [.ref 0, .int v1, .int v2] mh (some (.int res.1)) res.2 := by
  refine MC_of 0 (by decide) rfl (fun X C hG => ?_)
  replace C : Cx X (d + 73) 3 cX6_told RX6 (some .int) := C
  show Vw LM X (d + 73) 3 0 [some (.ref 0), some (.int v1), some (.int v2)] [] mh
  unfold X6_told at h
  refine V_aload_n (pc := 0) C dX6_told_0 rfl rfl ?_
  refine V_iload_n (pc := 1) C dX6_told_1 rfl rfl ?_
  refine V_callVi (pc := 2) (rest := []) C cs_X6_95 (c_X6_isFind (d + 71) v1 mh) CF6.1 LO6 (by omega) (by decide) rfl rfl (Nat.le_of_ble_eq_true rfl) dX6_told_2 ?_
  refine V_ifeq (pc := 5) (tgt := 20) C dX6_told_5 (by decide) (fun hc1 => ?_) (fun hc1 => ?_)
  · have h := it_t h hc1
    refine V_bipush (pc := 20) C (v := (-2)) dX6_told_20 (by decide) ?_
    exact V_iret (pc := 22) C (gdow h hG) dX6_told_22
  · have h := it_f h hc1
    refine V_iload_n (pc := 8) C dX6_told_8 rfl rfl ?_
    refine V_i2l (pc := 9) C dX6_told_9 ?_
    refine V_lconst (pc := 10) C (v := 0) dX6_told_10 (by decide) ?_
    refine V_ldc2 (pc := 11) C dX6_told_11 kc_X6_100 ?_
    refine V_callSi (pc := 14) (rest := []) C cs_X6_76 (c_X6_in (d + 72) (Int32.toInt64 v2) 0 9 mh) (by omega) (by decide) rfl rfl (Nat.le_of_ble_eq_true rfl) dX6_told_14 ?_
    refine V_ifne (pc := 17) (tgt := 23) C dX6_told_17 (by decide) (fun hc2 => ?_) (fun hc2 => ?_)
    · have h := it_f h hc2
      refine V_iload_n (pc := 23) C dX6_told_23 rfl rfl ?_
      refine V_iconst (pc := 24) C (v := 4) dX6_told_24 (by decide) ?_
      refine V_icmpge (pc := 25) (tgt := 76) C dX6_told_25 (by decide) (fun hc3 => ?_) (fun hc3 => ?_)
      · have h := it_t h hc3
        refine V_iload_n (pc := 76) C dX6_told_76 rfl rfl ?_
        refine V_bipush (pc := 77) C (v := 6) dX6_told_77 (by decide) ?_
        refine V_icmpge (pc := 79) (tgt := 104) C dX6_told_79 (by decide) (fun hc4 => ?_) (fun hc4 => ?_)
        · have h := it_t h hc4
          refine V_iload_n (pc := 104) C dX6_told_104 rfl rfl ?_
          refine V_bipush (pc := 105) C (v := 8) dX6_told_105 (by decide) ?_
          refine V_icmpge (pc := 107) (tgt := 142) C dX6_told_107 (by decide) (fun hc5 => ?_) (fun hc5 => ?_)
          · have h := it_t h hc5
            refine V_iload_n (pc := 142) C dX6_told_142 rfl rfl ?_
            refine V_bipush (pc := 143) C (v := 8) dX6_told_143 (by decide) ?_
            refine V_icmpne (pc := 145) (tgt := 172) C dX6_told_145 (by decide) (fun hc6 => ?_) (fun hc6 => ?_)
            · have h := it_f h hc6
              refine V_aload_n (pc := 172) C dX6_told_172 rfl rfl ?_
              refine V_iload_n (pc := 173) C dX6_told_173 rfl rfl ?_
              refine V_aload_n (pc := 174) C dX6_told_174 rfl rfl ?_
              refine V_iload_n (pc := 175) C dX6_told_175 rfl rfl ?_
              obtain ⟨q7, hq8, h⟩ := bnd_ok h
              refine V_callVi (pc := 176) (rest := [.int v1, .ref 0]) C cs_X6_108 (c_X6_loud (d + 72) v1 mh hq8) CF6.1 LO6 (by omega) (by decide) rfl rfl (Nat.le_of_ble_eq_true rfl) dX6_told_176 ?_
              obtain ⟨q9, hq10, h⟩ := bnd_ok h
              refine V_callVi (pc := 179) (rest := []) C cs_X6_122 (c_X6_worth (d + 0) v1 q7 mh hq10) CF6.1 LO6 (by omega) (by decide) rfl rfl (Nat.le_of_ble_eq_true rfl) dX6_told_179 ?_
              exact V_iret (pc := 182) C (gdow h hG) dX6_told_182
            · have h := it_t h hc6
              refine V_aload_n (pc := 148) C dX6_told_148 rfl rfl ?_
              refine V_getR (pc := 149) C (r' := 4) CF6 fl_X6_23 LO6 (by decide) rfl dX6_told_149 ?_
              refine V_iload_n (pc := 152) C dX6_told_152 rfl rfl ?_
              obtain ⟨hi11, h⟩ := chk_ok h
              refine V_iald (pc := 153) C LAM4 hi11 dX6_told_153 (v := (mh.1 4 (jn v1))) rfl ?_
              refine V_aload_n (pc := 154) C dX6_told_154 rfl rfl ?_
              refine V_getR (pc := 155) C (r' := 7) CF6 fl_X6_32 LO6 (by decide) rfl dX6_told_155 ?_
              refine V_iload_n (pc := 158) C dX6_told_158 rfl rfl ?_
              refine V_iald (pc := 159) C LAM7 hi11 dX6_told_159 (v := (mh.1 7 (jn v1))) rfl ?_
              refine V_aload_n (pc := 160) C dX6_told_160 rfl rfl ?_
              refine V_getR (pc := 161) C (r' := 6) CF6 fl_X6_29 LO6 (by decide) rfl dX6_told_161 ?_
              refine V_iload_n (pc := 164) C dX6_told_164 rfl rfl ?_
              refine V_iald (pc := 165) C LAM6 hi11 dX6_told_165 (v := (mh.1 6 (jn v1))) rfl ?_
              refine V_callSi (pc := 166) (rest := []) C cs_X6_118 (c_X6_dragsAt (d + 72) (mh.1 4 (jn v1)) (mh.1 7 (jn v1)) (mh.1 6 (jn v1)) mh) (by omega) (by decide) rfl rfl (Nat.le_of_ble_eq_true rfl) dX6_told_166 ?_
              refine V_goto (pc := 169) (tgt := 182) C dX6_told_169 (by decide) ?_
              exact V_iret (pc := 182) C (gdow h hG) dX6_told_182
          · have h := it_f h hc5
            refine V_iload_n (pc := 110) C dX6_told_110 rfl rfl ?_
            refine V_bipush (pc := 111) C (v := 6) dX6_told_111 (by decide) ?_
            refine V_icmpne (pc := 113) (tgt := 124) C dX6_told_113 (by decide) (fun hc12 => ?_) (fun hc12 => ?_)
            · have h := it_f h hc12
              refine V_aload_n (pc := 124) C dX6_told_124 rfl rfl ?_
              refine V_iload_n (pc := 125) C dX6_told_125 rfl rfl ?_
              refine V_callVi (pc := 126) (rest := []) C cs_X6_102 (c_X6_lies (d + 72) v1 mh) CF6.1 LO6 (by omega) (by decide) rfl rfl (Nat.le_of_ble_eq_true rfl) dX6_told_126 ?_
              refine V_ifeq (pc := 129) (tgt := 140) C dX6_told_129 (by decide) (fun hc13 => ?_) (fun hc13 => ?_)
              · have h := it_t h hc13
                refine V_iconst (pc := 140) C (v := 0) dX6_told_140 (by decide) ?_
                exact V_iret (pc := 141) C (gdow h hG) dX6_told_141
              · have h := it_f h hc13
                refine V_aload_n (pc := 132) C dX6_told_132 rfl rfl ?_
                refine V_iload_n (pc := 133) C dX6_told_133 rfl rfl ?_
                obtain ⟨q14, hq15, h⟩ := bnd_ok h
                refine V_callVi (pc := 134) (rest := []) C cs_X6_115 (c_X6_heard (d + 71) v1 mh hq15) CF6.1 LO6 (by omega) (by decide) rfl rfl (Nat.le_of_ble_eq_true rfl) dX6_told_134 ?_
                refine V_goto (pc := 137) (tgt := 141) C dX6_told_137 (by decide) ?_
                exact V_iret (pc := 141) C (gdow h hG) dX6_told_141
            · have h := it_t h hc12
              refine V_aload_n (pc := 116) C dX6_told_116 rfl rfl ?_
              refine V_iload_n (pc := 117) C dX6_told_117 rfl rfl ?_
              obtain ⟨q16, hq17, h⟩ := bnd_ok h
              refine V_callVi (pc := 118) (rest := []) C cs_X6_108 (c_X6_loud (d + 72) v1 mh hq17) CF6.1 LO6 (by omega) (by decide) rfl rfl (Nat.le_of_ble_eq_true rfl) dX6_told_118 ?_
              refine V_goto (pc := 121) (tgt := 141) C dX6_told_121 (by decide) ?_
              exact V_iret (pc := 141) C (gdow h hG) dX6_told_141
        · have h := it_f h hc4
          refine V_iload_n (pc := 82) C dX6_told_82 rfl rfl ?_
          refine V_iconst (pc := 83) C (v := 4) dX6_told_83 (by decide) ?_
          refine V_icmpne (pc := 84) (tgt := 98) C dX6_told_84 (by decide) (fun hc18 => ?_) (fun hc18 => ?_)
          · have h := it_f h hc18
            refine V_aload_n (pc := 98) C dX6_told_98 rfl rfl ?_
            refine V_iload_n (pc := 99) C dX6_told_99 rfl rfl ?_
            obtain ⟨q19, hq20, h⟩ := bnd_ok h
            refine V_callVi (pc := 100) (rest := []) C cs_X6_112 (c_X6_tone (d + 72) v1 mh hq20) CF6.1 LO6 (by omega) (by decide) rfl rfl (Nat.le_of_ble_eq_true rfl) dX6_told_100 ?_
            exact V_iret (pc := 103) C (gdow h hG) dX6_told_103
          · have h := it_t h hc18
            refine V_aload_n (pc := 87) C dX6_told_87 rfl rfl ?_
            refine V_getI (pc := 88) C CF6 fl_X6_80 LO6 (by decide) rfl dX6_told_88 (v := (mh.1 0 12)) rfl ?_
            refine V_iload_n (pc := 91) C dX6_told_91 rfl rfl ?_
            refine V_ishr (pc := 92) C dX6_told_92 ?_
            refine V_iconst (pc := 93) C (v := 1) dX6_told_93 (by decide) ?_
            refine V_iand (pc := 94) C dX6_told_94 ?_
            refine V_goto (pc := 95) (tgt := 103) C dX6_told_95 (by decide) ?_
            exact V_iret (pc := 103) C (gdow h hG) dX6_told_103
      · have h := it_f h hc3
        refine V_iload_n (pc := 28) C dX6_told_28 rfl rfl ?_
        refine V_ifne (pc := 29) (tgt := 41) C dX6_told_29 (by decide) (fun hc21 => ?_) (fun hc21 => ?_)
        · have h := it_f h hc21
          refine V_iload_n (pc := 41) C dX6_told_41 rfl rfl ?_
          refine V_iconst (pc := 42) C (v := 1) dX6_told_42 (by decide) ?_
          refine V_icmpne (pc := 43) (tgt := 55) C dX6_told_43 (by decide) (fun hc22 => ?_) (fun hc22 => ?_)
          · have h := it_f h hc22
            refine V_iload_n (pc := 55) C dX6_told_55 rfl rfl ?_
            refine V_iconst (pc := 56) C (v := 2) dX6_told_56 (by decide) ?_
            refine V_icmpne (pc := 57) (tgt := 69) C dX6_told_57 (by decide) (fun hc23 => ?_) (fun hc23 => ?_)
            · have h := it_f h hc23
              refine V_aload_n (pc := 69) C dX6_told_69 rfl rfl ?_
              refine V_getR (pc := 70) C (r' := 7) CF6 fl_X6_32 LO6 (by decide) rfl dX6_told_70 ?_
              refine V_iload_n (pc := 73) C dX6_told_73 rfl rfl ?_
              obtain ⟨hi24, h⟩ := chk_ok h
              refine V_iald (pc := 74) C LAM7 hi24 dX6_told_74 (v := (mh.1 7 (jn v1))) rfl ?_
              exact V_iret (pc := 75) C (gdow h hG) dX6_told_75
            · have h := it_t h hc23
              refine V_aload_n (pc := 60) C dX6_told_60 rfl rfl ?_
              refine V_getR (pc := 61) C (r' := 6) CF6 fl_X6_29 LO6 (by decide) rfl dX6_told_61 ?_
              refine V_iload_n (pc := 64) C dX6_told_64 rfl rfl ?_
              obtain ⟨hi25, h⟩ := chk_ok h
              refine V_iald (pc := 65) C LAM6 hi25 dX6_told_65 (v := (mh.1 6 (jn v1))) rfl ?_
              refine V_goto (pc := 66) (tgt := 75) C dX6_told_66 (by decide) ?_
              exact V_iret (pc := 75) C (gdow h hG) dX6_told_75
          · have h := it_t h hc22
            refine V_aload_n (pc := 46) C dX6_told_46 rfl rfl ?_
            refine V_getR (pc := 47) C (r' := 5) CF6 fl_X6_26 LO6 (by decide) rfl dX6_told_47 ?_
            refine V_iload_n (pc := 50) C dX6_told_50 rfl rfl ?_
            obtain ⟨hi26, h⟩ := chk_ok h
            refine V_iald (pc := 51) C LAM5 hi26 dX6_told_51 (v := (mh.1 5 (jn v1))) rfl ?_
            refine V_goto (pc := 52) (tgt := 75) C dX6_told_52 (by decide) ?_
            exact V_iret (pc := 75) C (gdow h hG) dX6_told_75
        · have h := it_t h hc21
          refine V_aload_n (pc := 32) C dX6_told_32 rfl rfl ?_
          refine V_getR (pc := 33) C (r' := 4) CF6 fl_X6_23 LO6 (by decide) rfl dX6_told_33 ?_
          refine V_iload_n (pc := 36) C dX6_told_36 rfl rfl ?_
          obtain ⟨hi27, h⟩ := chk_ok h
          refine V_iald (pc := 37) C LAM4 hi27 dX6_told_37 (v := (mh.1 4 (jn v1))) rfl ?_
          refine V_goto (pc := 38) (tgt := 75) C dX6_told_38 (by decide) ?_
          exact V_iret (pc := 75) C (gdow h hG) dX6_told_75
    · have h := it_t h hc2
      refine V_bipush (pc := 20) C (v := (-2)) dX6_told_20 (by decide) ?_
      exact V_iret (pc := 22) C (gdow h hG) dX6_told_22
def X6_feed (v1 : Int32) (mh : vMH) : Option (Int32 × vMH) := (if (X6_in (Int32.toInt64 v1) 0 255) = 0 then (some ((-2), mh)) else (if (mh.1 0 6) = 160 then (some ((-4), mh)) else (chk (inb (mh.1 0 6) 160) (some (((mh.1 0 6) + 1), (v_up (v_up mh 3 (jn (mh.1 0 6)) v1) 0 6 ((mh.1 0 6) + 1)))))))
set_option maxRecDepth 100000 in
set_option maxHeartbeats 8000000 in
theorem c_X6_feed (d : Nat) (v1 : Int32) (mh : vMH) {res : Int32 × vMH} (h : X6_feed v1 mh = some res) : MC LM (d + 1) yX6_feed cX6_feed 2 (some .int) [.ref 0, .int v1] mh (some (.int res.1)) res.2 := by
  refine MC_of 0 (by decide) rfl (fun X C hG => ?_)
  replace C : Cx X (d + 1) 2 cX6_feed RX6 (some .int) := C
  show Vw LM X (d + 1) 2 0 [some (.ref 0), some (.int v1)] [] mh
  unfold X6_feed at h
  refine V_iload_n (pc := 0) C dX6_feed_0 rfl rfl ?_
  refine V_i2l (pc := 1) C dX6_feed_1 ?_
  refine V_lconst (pc := 2) C (v := 0) dX6_feed_2 (by decide) ?_
  refine V_ldc2 (pc := 3) C dX6_feed_3 kc_X6_126 ?_
  refine V_callSi (pc := 6) (rest := []) C cs_X6_76 (c_X6_in (d + 0) (Int32.toInt64 v1) 0 255 mh) (by omega) (by decide) rfl rfl (Nat.le_of_ble_eq_true rfl) dX6_feed_6 ?_
  refine V_ifne (pc := 9) (tgt := 15) C dX6_feed_9 (by decide) (fun hc1 => ?_) (fun hc1 => ?_)
  · have h := it_f h hc1
    refine V_aload_n (pc := 15) C dX6_feed_15 rfl rfl ?_
    refine V_getI (pc := 16) C CF6 fl_X6_128 LO6 (by decide) rfl dX6_feed_16 (v := (mh.1 0 6)) rfl ?_
    refine V_sipush (pc := 19) C (v := 160) dX6_feed_19 (by decide) ?_
    refine V_icmpne (pc := 22) (tgt := 28) C dX6_feed_22 (by decide) (fun hc2 => ?_) (fun hc2 => ?_)
    · have h := it_f h hc2
      refine V_aload_n (pc := 28) C dX6_feed_28 rfl rfl ?_
      refine V_getR (pc := 29) C (r' := 3) CF6 fl_X6_20 LO6 (by decide) rfl dX6_feed_29 ?_
      refine V_aload_n (pc := 32) C dX6_feed_32 rfl rfl ?_
      refine V_getI (pc := 33) C CF6 fl_X6_128 LO6 (by decide) rfl dX6_feed_33 (v := (mh.1 0 6)) rfl ?_
      refine V_iload_n (pc := 36) C dX6_feed_36 rfl rfl ?_
      obtain ⟨hi3, h⟩ := chk_ok h
      refine V_iast (pc := 37) C LAM3 hi3 dX6_feed_37 ?_
      refine V_aload_n (pc := 38) C dX6_feed_38 rfl rfl ?_
      refine V_dup (pc := 39) C dX6_feed_39 rfl ?_
      refine V_getI (pc := 40) C CF6 fl_X6_128 LO6 (by decide) rfl dX6_feed_40 (v := (mh.1 0 6)) (rd_oa LO6 LAM3) ?_
      refine V_iconst (pc := 43) C (v := 1) dX6_feed_43 (by decide) ?_
      refine V_iadd (pc := 44) C dX6_feed_44 ?_
      refine V_putI (pc := 45) C CF6 fl_X6_128 LO6 (by decide) rfl rfl rfl dX6_feed_45 ?_
      refine V_aload_n (pc := 48) C dX6_feed_48 rfl rfl ?_
      refine V_getI (pc := 49) C CF6 fl_X6_128 LO6 (by decide) rfl dX6_feed_49 (v := ((mh.1 0 6) + 1)) rd_eq ?_
      exact V_iret (pc := 52) C (gdow h hG) dX6_feed_52
    · have h := it_t h hc2
      refine V_bipush (pc := 25) C (v := (-4)) dX6_feed_25 (by decide) ?_
      exact V_iret (pc := 27) C (gdow h hG) dX6_feed_27
  · have h := it_t h hc1
    refine V_bipush (pc := 12) C (v := (-2)) dX6_feed_12 (by decide) ?_
    exact V_iret (pc := 14) C (gdow h hG) dX6_feed_14
def X6_text_L14 (J3 : vMH → Option (Int32 × vMH)) (rec10 : Int32 → vMH → Option (Int32 × vMH)) (v1_8 : Int32) (mh9 : vMH) : Option (Int32 × vMH) := (if (mh9.1 0 6) ≤ v1_8 then (J3 mh9) else (chk (inb v1_8 160) (chk (inb ((160 * (mh9.1 0 3)) + v1_8) 960) (rec10 (v1_8 + 1) (v_up mh9 1 (jn ((160 * (mh9.1 0 3)) + v1_8)) (mh9.1 3 (jn v1_8)))))))
def X6_text (mh : vMH) : Option (Int32 × vMH) := (if (mh.1 0 3) = 6 then (some ((-4), mh)) else (wj1 (fun (mh2 : vMH) => (chk (inb (mh2.1 0 3) 6) ((X6_read (mh2.1 0 3) 0 (v_up (v_up mh2 2 (jn (mh2.1 0 3)) (mh2.1 0 6)) 0 6 0)).bind fun q5 => (if (q5.2.1 0 30) = 0 then (some ((((q5.2.1 0 3) + 1) - 1), (v_up q5.2 0 3 ((q5.2.1 0 3) + 1)))) else (some (((-100) - (q5.2.1 0 31)), q5.2)))))) fun J3 => (lq2 4096 (X6_text_L14 J3) 0 mh)))
set_option maxRecDepth 100000 in
set_option maxHeartbeats 8000000 in
theorem c_X6_text (d : Nat)  (mh : vMH) {res : Int32 × vMH} (h : X6_text mh = some res) : MC LM (d + 71) yX6_text cX6_text 2 (some .int) [.ref 0] mh (some (.int res.1)) res.2 := by
  refine MC_of 1 (by decide) rfl (fun X C hG => ?_)
  replace C : Cx X (d + 71) 2 cX6_text RX6 (some .int) := C
  show Vw LM X (d + 71) 2 0 [some (.ref 0), none] [] mh
  unfold X6_text at h
  refine V_aload_n (pc := 0) C dX6_text_0 rfl rfl ?_
  refine V_getI (pc := 1) C CF6 fl_X6_70 LO6 (by decide) rfl dX6_text_1 (v := (mh.1 0 3)) rfl ?_
  refine V_bipush (pc := 4) C (v := 6) dX6_text_4 (by decide) ?_
  refine V_icmpne (pc := 6) (tgt := 12) C dX6_text_6 (by decide) (fun hc1 => ?_) (fun hc1 => ?_)
  · have h := it_f h hc1
    refine V_iconst (pc := 12) C (v := 0) dX6_text_12 (by decide) ?_
    refine V_istore_n (pc := 13) C (lv' := [some (.ref 0), some (.int 0)]) dX6_text_13 rfl (by decide) (Nat.le_of_ble_eq_true rfl) rfl rfl ?_
    refine wj1_ok (fun (mh2 : vMH) => Vw LM X (d + 71) 2 49 [some (.ref 0), none] [] mh2) h (fun mh2 h => ?_) (fun J3 hJ3 h => ?_)
    · refine V_aload_n (pc := 49) C dX6_text_49 rfl rfl ?_
      refine V_getR (pc := 50) C (r' := 2) CF6 fl_X6_17 LO6 (by decide) rfl dX6_text_50 ?_
      refine V_aload_n (pc := 53) C dX6_text_53 rfl rfl ?_
      refine V_getI (pc := 54) C CF6 fl_X6_70 LO6 (by decide) rfl dX6_text_54 (v := (mh2.1 0 3)) rfl ?_
      refine V_aload_n (pc := 57) C dX6_text_57 rfl rfl ?_
      refine V_getI (pc := 58) C CF6 fl_X6_128 LO6 (by decide) rfl dX6_text_58 (v := (mh2.1 0 6)) rfl ?_
      obtain ⟨hi4, h⟩ := chk_ok h
      refine V_iast (pc := 61) C LAM2 hi4 dX6_text_61 ?_
      refine V_aload_n (pc := 62) C dX6_text_62 rfl rfl ?_
      refine V_iconst (pc := 63) C (v := 0) dX6_text_63 (by decide) ?_
      refine V_putI (pc := 64) C CF6 fl_X6_128 LO6 (by decide) rfl rfl rfl dX6_text_64 ?_
      refine V_aload_n (pc := 67) C dX6_text_67 rfl rfl ?_
      refine V_aload_n (pc := 68) C dX6_text_68 rfl rfl ?_
      refine V_getI (pc := 69) C CF6 fl_X6_70 LO6 (by decide) rfl dX6_text_69 (v := (mh2.1 0 3)) ((rd_k (by decide)).trans (rd_oa LO6 LAM2)) ?_
      refine V_iconst (pc := 72) C (v := 0) dX6_text_72 (by decide) ?_
      obtain ⟨q5, hq6, h⟩ := bnd_ok h
      refine V_callVi (pc := 73) (rest := []) C cs_X6_242 (c_X6_read (d + 0) (mh2.1 0 3) 0 (v_up (v_up mh2 2 (jn (mh2.1 0 3)) (mh2.1 0 6)) 0 6 0) hq6) CF6.1 LO6 (by omega) (by decide) rfl rfl (Nat.le_of_ble_eq_true rfl) dX6_text_73 ?_
      refine V_istore_n (pc := 76) C (lv' := [some (.ref 0), some (.int q5.1)]) dX6_text_76 rfl (by decide) (Nat.le_of_ble_eq_true rfl) rfl rfl ?_
      refine V_aload_n (pc := 77) C dX6_text_77 rfl rfl ?_
      refine V_getI (pc := 78) C CF6 fl_X6_163 LO6 (by decide) rfl dX6_text_78 (v := (q5.2.1 0 30)) rfl ?_
      refine V_ifeq (pc := 81) (tgt := 92) C dX6_text_81 (by decide) (fun hc7 => ?_) (fun hc7 => ?_)
      · have h := it_t h hc7
        refine V_aload_n (pc := 92) C dX6_text_92 rfl rfl ?_
        refine V_dup (pc := 93) C dX6_text_93 rfl ?_
        refine V_getI (pc := 94) C CF6 fl_X6_70 LO6 (by decide) rfl dX6_text_94 (v := (q5.2.1 0 3)) rfl ?_
        refine V_iconst (pc := 97) C (v := 1) dX6_text_97 (by decide) ?_
        refine V_iadd (pc := 98) C dX6_text_98 ?_
        refine V_putI (pc := 99) C CF6 fl_X6_70 LO6 (by decide) rfl rfl rfl dX6_text_99 ?_
        refine V_aload_n (pc := 102) C dX6_text_102 rfl rfl ?_
        refine V_getI (pc := 103) C CF6 fl_X6_70 LO6 (by decide) rfl dX6_text_103 (v := ((q5.2.1 0 3) + 1)) rd_eq ?_
        refine V_iconst (pc := 106) C (v := 1) dX6_text_106 (by decide) ?_
        refine V_isub (pc := 107) C dX6_text_107 ?_
        exact V_iret (pc := 108) C (gdow h hG) dX6_text_108
      · have h := it_f h hc7
        refine V_bipush (pc := 84) C (v := (-100)) dX6_text_84 (by decide) ?_
        refine V_aload_n (pc := 86) C dX6_text_86 rfl rfl ?_
        refine V_getI (pc := 87) C CF6 fl_X6_167 LO6 (by decide) rfl dX6_text_87 (v := (q5.2.1 0 31)) rfl ?_
        refine V_isub (pc := 90) C dX6_text_90 ?_
        exact V_iret (pc := 91) C (gdow h hG) dX6_text_91
    · refine lq2_ok (fun (v1_8 : Int32) (mh9 : vMH) => Vw LM X (d + 71) 2 14 [some (.ref 0), some (.int v1_8)] [] mh9) h (fun rec10 hrec10 v1_8 mh9 h => ?_)
      unfold X6_text_L14 at h
      refine V_iload_n (pc := 14) C dX6_text_14 rfl rfl ?_
      refine V_aload_n (pc := 15) C dX6_text_15 rfl rfl ?_
      refine V_getI (pc := 16) C CF6 fl_X6_128 LO6 (by decide) rfl dX6_text_16 (v := (mh9.1 0 6)) rfl ?_
      refine V_icmpge (pc := 19) (tgt := 49) C dX6_text_19 (by decide) (fun hc11 => ?_) (fun hc11 => ?_)
      · have h := it_t h hc11
        refine V_mask [true, false] (lv' := [some (.ref 0), none]) rfl ?_
        exact hJ3 mh9 h
      · have h := it_f h hc11
        refine V_aload_n (pc := 22) C dX6_text_22 rfl rfl ?_
        refine V_getR (pc := 23) C (r' := 1) CF6 fl_X6_13 LO6 (by decide) rfl dX6_text_23 ?_
        refine V_sipush (pc := 26) C (v := 160) dX6_text_26 (by decide) ?_
        refine V_aload_n (pc := 29) C dX6_text_29 rfl rfl ?_
        refine V_getI (pc := 30) C CF6 fl_X6_70 LO6 (by decide) rfl dX6_text_30 (v := (mh9.1 0 3)) rfl ?_
        refine V_imul (pc := 33) C dX6_text_33 ?_
        refine V_iload_n (pc := 34) C dX6_text_34 rfl rfl ?_
        refine V_iadd (pc := 35) C dX6_text_35 ?_
        refine V_aload_n (pc := 36) C dX6_text_36 rfl rfl ?_
        refine V_getR (pc := 37) C (r' := 3) CF6 fl_X6_20 LO6 (by decide) rfl dX6_text_37 ?_
        refine V_iload_n (pc := 40) C dX6_text_40 rfl rfl ?_
        obtain ⟨hi12, h⟩ := chk_ok h
        refine V_iald (pc := 41) C LAM3 hi12 dX6_text_41 (v := (mh9.1 3 (jn v1_8))) rfl ?_
        obtain ⟨hi13, h⟩ := chk_ok h
        refine V_iast (pc := 42) C LAM1 hi13 dX6_text_42 ?_
        refine V_iinc (pc := 43) C (v := (v1_8 + 1)) (lv' := [some (.ref 0), some (.int (v1_8 + 1))]) dX6_text_43 rfl rfl (by decide) (Nat.le_of_ble_eq_true rfl) rfl rfl ?_
        refine V_goto (pc := 46) (tgt := 14) C dX6_text_46 (by decide) ?_
        exact hrec10 (v1_8 + 1) (v_up mh9 1 (jn ((160 * (mh9.1 0 3)) + v1_8)) (mh9.1 3 (jn v1_8))) h
  · have h := it_t h hc1
    refine V_bipush (pc := 9) C (v := (-4)) dX6_text_9 (by decide) ?_
    exact V_iret (pc := 11) C (gdow h hG) dX6_text_11
def X6_force (v1 : Int32) (mh : vMH) : Int32 × vMH := (if (X6_in (Int32.toInt64 v1) 0 (Int32.toInt64 ((mh.1 0 3) - 1))) = 0 then ((-2), mh) else ((mh.1 0 4), (v_up mh 0 4 v1)))
set_option maxRecDepth 100000 in
set_option maxHeartbeats 8000000 in
theorem c_X6_force (d : Nat) (v1 : Int32) (mh : vMH) : MC LM (d + 1) yX6_force cX6_force 3 (some .int) [.ref 0, .int v1] mh (some (.int (X6_force v1 mh).1)) (X6_force v1 mh).2 := by
  refine MC_of 1 (by decide) rfl (fun X C hG => ?_)
  replace C : Cx X (d + 1) 3 cX6_force RX6 (some .int) := C
  show Vw LM X (d + 1) 3 0 [some (.ref 0), some (.int v1), none] [] mh
  obtain ⟨res, h⟩ : ∃ res, X6_force v1 mh = res := ⟨_, rfl⟩
  rw [h] at hG
  unfold X6_force at h
  refine V_iload_n (pc := 0) C dX6_force_0 rfl rfl ?_
  refine V_i2l (pc := 1) C dX6_force_1 ?_
  refine V_lconst (pc := 2) C (v := 0) dX6_force_2 (by decide) ?_
  refine V_aload_n (pc := 3) C dX6_force_3 rfl rfl ?_
  refine V_getI (pc := 4) C CF6 fl_X6_70 LO6 (by decide) rfl dX6_force_4 (v := (mh.1 0 3)) rfl ?_
  refine V_iconst (pc := 7) C (v := 1) dX6_force_7 (by decide) ?_
  refine V_isub (pc := 8) C dX6_force_8 ?_
  refine V_i2l (pc := 9) C dX6_force_9 ?_
  refine V_callSi (pc := 10) (rest := []) C cs_X6_76 (c_X6_in (d + 0) (Int32.toInt64 v1) 0 (Int32.toInt64 ((mh.1 0 3) - 1)) mh) (by omega) (by decide) rfl rfl (Nat.le_of_ble_eq_true rfl) dX6_force_10 ?_
  refine V_ifne (pc := 13) (tgt := 19) C dX6_force_13 (by decide) (fun hc1 => ?_) (fun hc1 => ?_)
  · have h := it_f h hc1
    refine V_aload_n (pc := 19) C dX6_force_19 rfl rfl ?_
    refine V_getI (pc := 20) C CF6 fl_X6_245 LO6 (by decide) rfl dX6_force_20 (v := (mh.1 0 4)) rfl ?_
    refine V_istore_n (pc := 23) C (lv' := [some (.ref 0), some (.int v1), some (.int (mh.1 0 4))]) dX6_force_23 rfl (by decide) (Nat.le_of_ble_eq_true rfl) rfl rfl ?_
    refine V_aload_n (pc := 24) C dX6_force_24 rfl rfl ?_
    refine V_iload_n (pc := 25) C dX6_force_25 rfl rfl ?_
    refine V_putI (pc := 26) C CF6 fl_X6_245 LO6 (by decide) rfl rfl rfl dX6_force_26 ?_
    refine V_iload_n (pc := 29) C dX6_force_29 rfl rfl ?_
    exact V_iret (pc := 30) C (gdtw h hG) dX6_force_30
  · have h := it_t h hc1
    refine V_bipush (pc := 16) C (v := (-2)) dX6_force_16 (by decide) ?_
    exact V_iret (pc := 18) C (gdtw h hG) dX6_force_18
def X6_isHeard (v1 : Int32) (mh : vMH) : Option (Int32 × vMH) := ((X6_heard v1 mh).bind fun q1 => ((X6_says 1 v1 q1 mh).bind fun q3 => (if q1 < (X6_within q3.1 0 99) then (some (0, q3.2)) else (some (1, q3.2)))))
set_option maxRecDepth 100000 in
set_option maxHeartbeats 8000000 in
theorem c_X6_isHeard (d : Nat) (v1 : Int32) (mh : vMH) {res : Int32 × vMH} (h : X6_isHeard v1 mh = some res) : MC LM (d + 72) yX6_isHeard cX6_isHeard 3 (some .boolean) [.ref 0, .int v1] mh (some (.int res.1)) res.2 := by
  refine MC_of 1 (by decide) rfl (fun X C hG => ?_)
  replace C : Cx X (d + 72) 3 cX6_isHeard RX6 (some .boolean) := C
  show Vw LM X (d + 72) 3 0 [some (.ref 0), some (.int v1), none] [] mh
  unfold X6_isHeard at h
  refine V_aload_n (pc := 0) C dX6_isHeard_0 rfl rfl ?_
  refine V_iload_n (pc := 1) C dX6_isHeard_1 rfl rfl ?_
  obtain ⟨q1, hq2, h⟩ := bnd_ok h
  refine V_callVi (pc := 2) (rest := []) C cs_X6_115 (c_X6_heard (d + 70) v1 mh hq2) CF6.1 LO6 (by omega) (by decide) rfl rfl (Nat.le_of_ble_eq_true rfl) dX6_isHeard_2 ?_
  refine V_istore_n (pc := 5) C (lv' := [some (.ref 0), some (.int v1), some (.int q1)]) dX6_isHeard_5 rfl (by decide) (Nat.le_of_ble_eq_true rfl) rfl rfl ?_
  refine V_iload_n (pc := 6) C dX6_isHeard_6 rfl rfl ?_
  refine V_aload_n (pc := 7) C dX6_isHeard_7 rfl rfl ?_
  refine V_iconst (pc := 8) C (v := 1) dX6_isHeard_8 (by decide) ?_
  refine V_iload_n (pc := 9) C dX6_isHeard_9 rfl rfl ?_
  refine V_iload_n (pc := 10) C dX6_isHeard_10 rfl rfl ?_
  obtain ⟨q3, hq4, h⟩ := bnd_ok h
  refine V_callVi (pc := 11) (rest := [.int q1]) C cs_X6_248 (c_X6_says (d + 0) 1 v1 q1 mh hq4) CF6.1 LO6 (by omega) (by decide) rfl rfl (Nat.le_of_ble_eq_true rfl) dX6_isHeard_11 ?_
  refine V_iconst (pc := 14) C (v := 0) dX6_isHeard_14 (by decide) ?_
  refine V_bipush (pc := 15) C (v := 99) dX6_isHeard_15 (by decide) ?_
  refine V_callSi (pc := 17) (rest := [.int q1]) C cs_X6_251 (c_X6_within (d + 71) q3.1 0 99 q3.2) (by omega) (by decide) rfl rfl (Nat.le_of_ble_eq_true rfl) dX6_isHeard_17 ?_
  refine V_icmplt (pc := 20) (tgt := 27) C dX6_isHeard_20 (by decide) (fun hc5 => ?_) (fun hc5 => ?_)
  · have h := it_t h hc5
    refine V_iconst (pc := 27) C (v := 0) dX6_isHeard_27 (by decide) ?_
    exact V_zret (pc := 28) C rfl (gdow h hG) dX6_isHeard_28
  · have h := it_f h hc5
    refine V_iconst (pc := 23) C (v := 1) dX6_isHeard_23 (by decide) ?_
    refine V_goto (pc := 24) (tgt := 28) C dX6_isHeard_24 (by decide) ?_
    exact V_zret (pc := 28) C rfl (gdow h hG) dX6_isHeard_28
def X6_beepOf_L7 (v1 : Int32) (rec5 : Int32 → Int32 → Int32 → vMH → Option (Int32 × vMH)) (v2_1 : Int32) (v3_2 : Int32) (v4_3 : Int32) (mh4 : vMH) : Option (Int32 × vMH) := (if (mh4.1 0 11) ≤ v4_3 then (some (v2_1, mh4)) else (if (X6_lies v4_3 mh4) = 0 then (rec5 v2_1 v3_2 (v4_3 + 1) mh4) else (chk (inb v4_3 12) (if (mh4.1 5 (jn v4_3)) = v1 then ((X6_isHeard v4_3 mh4).bind fun q10 => (if q10.1 = 0 then (rec5 v2_1 v3_2 (v4_3 + 1) q10.2) else (wj0 ((X6_heard v4_3 q10.2).bind fun q14 => (rec5 v4_3 q14 (v4_3 + 1) q10.2)) fun J13 => (if v2_1 = (-1) then J13 else ((X6_heard v4_3 q10.2).bind fun q17 => (if q17 ≤ v3_2 then (rec5 v2_1 v3_2 (v4_3 + 1) q10.2) else J13)))))) else (rec5 v2_1 v3_2 (v4_3 + 1) mh4)))))
def X6_beepOf (v1 : Int32) (mh : vMH) : Option (Int32 × vMH) := (lq4 4096 (X6_beepOf_L7 v1) (-1) 0 0 mh)
set_option maxRecDepth 100000 in
set_option maxHeartbeats 8000000 in
theorem c_X6_beepOf (d : Nat) (v1 : Int32) (mh : vMH) {res : Int32 × vMH} (h : X6_beepOf v1 mh = some res) : MC LM (d + 73) yX6_beepOf cX6_beepOf 5 (some .int) [.ref 0, .int v1] mh (some (.int res.1)) res.2 := by
  refine MC_of 3 (by decide) rfl (fun X C hG => ?_)
  replace C : Cx X (d + 73) 5 cX6_beepOf RX6 (some .int) := C
  show Vw LM X (d + 73) 5 0 [some (.ref 0), some (.int v1), none, none, none] [] mh
  unfold X6_beepOf at h
  refine V_iconst (pc := 0) C (v := (-1)) dX6_beepOf_0 (by decide) ?_
  refine V_istore_n (pc := 1) C (lv' := [some (.ref 0), some (.int v1), some (.int (-1)), none, none]) dX6_beepOf_1 rfl (by decide) (Nat.le_of_ble_eq_true rfl) rfl rfl ?_
  refine V_iconst (pc := 2) C (v := 0) dX6_beepOf_2 (by decide) ?_
  refine V_istore_n (pc := 3) C (lv' := [some (.ref 0), some (.int v1), some (.int (-1)), some (.int 0), none]) dX6_beepOf_3 rfl (by decide) (Nat.le_of_ble_eq_true rfl) rfl rfl ?_
  refine V_iconst (pc := 4) C (v := 0) dX6_beepOf_4 (by decide) ?_
  refine V_istore (pc := 5) C (lv' := [some (.ref 0), some (.int v1), some (.int (-1)), some (.int 0), some (.int 0)]) dX6_beepOf_5 (by decide) (Nat.le_of_ble_eq_true rfl) rfl rfl ?_
  refine lq4_ok (fun (v2_1 : Int32) (v3_2 : Int32) (v4_3 : Int32) (mh4 : vMH) => Vw LM X (d + 73) 5 7 [some (.ref 0), some (.int v1), some (.int v2_1), some (.int v3_2), some (.int v4_3)] [] mh4) h (fun rec5 hrec5 v2_1 v3_2 v4_3 mh4 h => ?_)
  unfold X6_beepOf_L7 at h
  refine V_iload (pc := 7) C dX6_beepOf_7 rfl ?_
  refine V_aload_n (pc := 9) C dX6_beepOf_9 rfl rfl ?_
  refine V_getI (pc := 10) C CF6 fl_X6_73 LO6 (by decide) rfl dX6_beepOf_10 (v := (mh4.1 0 11)) rfl ?_
  refine V_icmpge (pc := 13) (tgt := 76) C dX6_beepOf_13 (by decide) (fun hc6 => ?_) (fun hc6 => ?_)
  · have h := it_t h hc6
    refine V_iload_n (pc := 76) C dX6_beepOf_76 rfl rfl ?_
    exact V_iret (pc := 77) C (gdow h hG) dX6_beepOf_77
  · have h := it_f h hc6
    refine V_aload_n (pc := 16) C dX6_beepOf_16 rfl rfl ?_
    refine V_iload (pc := 17) C dX6_beepOf_17 rfl ?_
    refine V_callVi (pc := 19) (rest := []) C cs_X6_102 (c_X6_lies (d + 72) v4_3 mh4) CF6.1 LO6 (by omega) (by decide) rfl rfl (Nat.le_of_ble_eq_true rfl) dX6_beepOf_19 ?_
    refine V_ifeq (pc := 22) (tgt := 70) C dX6_beepOf_22 (by decide) (fun hc7 => ?_) (fun hc7 => ?_)
    · have h := it_t h hc7
      refine V_iinc (pc := 70) C (v := (v4_3 + 1)) (lv' := [some (.ref 0), some (.int v1), some (.int v2_1), some (.int v3_2), some (.int (v4_3 + 1))]) dX6_beepOf_70 rfl rfl (by decide) (Nat.le_of_ble_eq_true rfl) rfl rfl ?_
      refine V_goto (pc := 73) (tgt := 7) C dX6_beepOf_73 (by decide) ?_
      exact hrec5 v2_1 v3_2 (v4_3 + 1) mh4 h
    · have h := it_f h hc7
      refine V_aload_n (pc := 25) C dX6_beepOf_25 rfl rfl ?_
      refine V_getR (pc := 26) C (r' := 5) CF6 fl_X6_26 LO6 (by decide) rfl dX6_beepOf_26 ?_
      refine V_iload (pc := 29) C dX6_beepOf_29 rfl ?_
      obtain ⟨hi8, h⟩ := chk_ok h
      refine V_iald (pc := 31) C LAM5 hi8 dX6_beepOf_31 (v := (mh4.1 5 (jn v4_3))) rfl ?_
      refine V_iload_n (pc := 32) C dX6_beepOf_32 rfl rfl ?_
      refine V_icmpne (pc := 33) (tgt := 70) C dX6_beepOf_33 (by decide) (fun hc9 => ?_) (fun hc9 => ?_)
      · have h := it_f h hc9
        refine V_iinc (pc := 70) C (v := (v4_3 + 1)) (lv' := [some (.ref 0), some (.int v1), some (.int v2_1), some (.int v3_2), some (.int (v4_3 + 1))]) dX6_beepOf_70 rfl rfl (by decide) (Nat.le_of_ble_eq_true rfl) rfl rfl ?_
        refine V_goto (pc := 73) (tgt := 7) C dX6_beepOf_73 (by decide) ?_
        exact hrec5 v2_1 v3_2 (v4_3 + 1) mh4 h
      · have h := it_t h hc9
        refine V_aload_n (pc := 36) C dX6_beepOf_36 rfl rfl ?_
        refine V_iload (pc := 37) C dX6_beepOf_37 rfl ?_
        obtain ⟨q10, hq11, h⟩ := bnd_ok h
        refine V_callVi (pc := 39) (rest := []) C cs_X6_254 (c_X6_isHeard (d + 0) v4_3 mh4 hq11) CF6.1 LO6 (by omega) (by decide) rfl rfl (Nat.le_of_ble_eq_true rfl) dX6_beepOf_39 ?_
        refine V_ifeq (pc := 42) (tgt := 70) C dX6_beepOf_42 (by decide) (fun hc12 => ?_) (fun hc12 => ?_)
        · have h := it_t h hc12
          refine V_iinc (pc := 70) C (v := (v4_3 + 1)) (lv' := [some (.ref 0), some (.int v1), some (.int v2_1), some (.int v3_2), some (.int (v4_3 + 1))]) dX6_beepOf_70 rfl rfl (by decide) (Nat.le_of_ble_eq_true rfl) rfl rfl ?_
          refine V_goto (pc := 73) (tgt := 7) C dX6_beepOf_73 (by decide) ?_
          exact hrec5 v2_1 v3_2 (v4_3 + 1) q10.2 h
        · have h := it_f h hc12
          refine V_iload_n (pc := 45) C dX6_beepOf_45 rfl rfl ?_
          refine V_iconst (pc := 46) C (v := (-1)) dX6_beepOf_46 (by decide) ?_
          refine wj0_ok (Vw LM X (d + 73) 5 60 [some (.ref 0), some (.int v1), some (.int v2_1), some (.int v3_2), some (.int v4_3)] [] q10.2) h (fun h => ?_) (fun J13 hJ13 h => ?_)
          · refine V_iload (pc := 60) C dX6_beepOf_60 rfl ?_
            refine V_istore_n (pc := 62) C (lv' := [some (.ref 0), some (.int v1), some (.int v4_3), some (.int v3_2), some (.int v4_3)]) dX6_beepOf_62 rfl (by decide) (Nat.le_of_ble_eq_true rfl) rfl rfl ?_
            refine V_aload_n (pc := 63) C dX6_beepOf_63 rfl rfl ?_
            refine V_iload (pc := 64) C dX6_beepOf_64 rfl ?_
            obtain ⟨q14, hq15, h⟩ := bnd_ok h
            refine V_callVi (pc := 66) (rest := []) C cs_X6_115 (c_X6_heard (d + 71) v4_3 q10.2 hq15) CF6.1 LO6 (by omega) (by decide) rfl rfl (Nat.le_of_ble_eq_true rfl) dX6_beepOf_66 ?_
            refine V_istore_n (pc := 69) C (lv' := [some (.ref 0), some (.int v1), some (.int v4_3), some (.int q14), some (.int v4_3)]) dX6_beepOf_69 rfl (by decide) (Nat.le_of_ble_eq_true rfl) rfl rfl ?_
            refine V_iinc (pc := 70) C (v := (v4_3 + 1)) (lv' := [some (.ref 0), some (.int v1), some (.int v4_3), some (.int q14), some (.int (v4_3 + 1))]) dX6_beepOf_70 rfl rfl (by decide) (Nat.le_of_ble_eq_true rfl) rfl rfl ?_
            refine V_goto (pc := 73) (tgt := 7) C dX6_beepOf_73 (by decide) ?_
            exact hrec5 v4_3 q14 (v4_3 + 1) q10.2 h
          · refine V_icmpeq (pc := 47) (tgt := 60) C dX6_beepOf_47 (by decide) (fun hc16 => ?_) (fun hc16 => ?_)
            · have h := it_t h hc16
              exact hJ13 h
            · have h := it_f h hc16
              refine V_aload_n (pc := 50) C dX6_beepOf_50 rfl rfl ?_
              refine V_iload (pc := 51) C dX6_beepOf_51 rfl ?_
              obtain ⟨q17, hq18, h⟩ := bnd_ok h
              refine V_callVi (pc := 53) (rest := []) C cs_X6_115 (c_X6_heard (d + 71) v4_3 q10.2 hq18) CF6.1 LO6 (by omega) (by decide) rfl rfl (Nat.le_of_ble_eq_true rfl) dX6_beepOf_53 ?_
              refine V_iload_n (pc := 56) C dX6_beepOf_56 rfl rfl ?_
              refine V_icmple (pc := 57) (tgt := 70) C dX6_beepOf_57 (by decide) (fun hc19 => ?_) (fun hc19 => ?_)
              · have h := it_t h hc19
                refine V_iinc (pc := 70) C (v := (v4_3 + 1)) (lv' := [some (.ref 0), some (.int v1), some (.int v2_1), some (.int v3_2), some (.int (v4_3 + 1))]) dX6_beepOf_70 rfl rfl (by decide) (Nat.le_of_ble_eq_true rfl) rfl rfl ?_
                refine V_goto (pc := 73) (tgt := 7) C dX6_beepOf_73 (by decide) ?_
                exact hrec5 v2_1 v3_2 (v4_3 + 1) q10.2 h
              · have h := it_f h hc19
                exact hJ13 h
def X6_beep (v1 : Int32) (mh : vMH) : Option (Int32 × vMH) := (if (X6_isCell v1) = 0 then (some ((-2), mh)) else ((X6_beepOf v1 mh).bind fun q2 => (some (q2.1, q2.2))))
set_option maxRecDepth 100000 in
set_option maxHeartbeats 8000000 in
theorem c_X6_beep (d : Nat) (v1 : Int32) (mh : vMH) {res : Int32 × vMH} (h : X6_beep v1 mh = some res) : MC LM (d + 74) yX6_beep cX6_beep 2 (some .int) [.ref 0, .int v1] mh (some (.int res.1)) res.2 := by
  refine MC_of 0 (by decide) rfl (fun X C hG => ?_)
  replace C : Cx X (d + 74) 2 cX6_beep RX6 (some .int) := C
  show Vw LM X (d + 74) 2 0 [some (.ref 0), some (.int v1)] [] mh
  unfold X6_beep at h
  refine V_iload_n (pc := 0) C dX6_beep_0 rfl rfl ?_
  refine V_callSi (pc := 1) (rest := []) C cs_X6_87 (c_X6_isCell (d + 72) v1 mh) (by omega) (by decide) rfl rfl (Nat.le_of_ble_eq_true rfl) dX6_beep_1 ?_
  refine V_ifeq (pc := 4) (tgt := 15) C dX6_beep_4 (by decide) (fun hc1 => ?_) (fun hc1 => ?_)
  · have h := it_t h hc1
    refine V_bipush (pc := 15) C (v := (-2)) dX6_beep_15 (by decide) ?_
    exact V_iret (pc := 17) C (gdow h hG) dX6_beep_17
  · have h := it_f h hc1
    refine V_aload_n (pc := 7) C dX6_beep_7 rfl rfl ?_
    refine V_iload_n (pc := 8) C dX6_beep_8 rfl rfl ?_
    obtain ⟨q2, hq3, h⟩ := bnd_ok h
    refine V_callVi (pc := 9) (rest := []) C cs_X6_257 (c_X6_beepOf (d + 0) v1 mh hq3) CF6.1 LO6 (by omega) (by decide) rfl rfl (Nat.le_of_ble_eq_true rfl) dX6_beep_9 ?_
    refine V_goto (pc := 12) (tgt := 17) C dX6_beep_12 (by decide) ?_
    exact V_iret (pc := 17) C (gdow h hG) dX6_beep_17
def X6_digs_L6 (v1 : Int32) (rec5 : Int32 → vMH → Option (vMH)) (v2_3 : Int32) (mh4 : vMH) : Option (vMH) := (if v2_3 = (-1) then (some mh4) else (chk (inb v2_3 12) (if 10 < (mh4.1 6 (jn v2_3)) then (some mh4) else ((X6_heard v2_3 mh4).bind fun q9 => ((X6_says 0 v2_3 q9 mh4).bind fun q11 => (if q11.1 = 0 then (some q11.2) else ((X6_heard v2_3 (v_up q11.2 0 32 ((q11.2.1 0 32) + 1))).bind fun q14 => ((X6_worth v2_3 q14 (v_up q11.2 0 32 ((q11.2.1 0 32) + 1))).bind fun q16 => ((X6_beepOf v1 (v_up (v_up q16.2 0 33 ((q11.2.1 0 33) + q16.1)) 0 12 ((q16.2.1 0 12) ||| (jl 1 v2_3)))).bind fun q18 => (rec5 q18.1 q18.2))))))))))
def X6_digs (v1 : Int32) (mh : vMH) : Option (vMH) := ((X6_beepOf v1 mh).bind fun q1 => (lq2 4096 (X6_digs_L6 v1) q1.1 q1.2))
set_option maxRecDepth 100000 in
set_option maxHeartbeats 8000000 in
theorem c_X6_digs (d : Nat) (v1 : Int32) (mh : vMH) {res : vMH} (h : X6_digs v1 mh = some res) : MC LM (d + 74) yX6_digs cX6_digs 3 none [.ref 0, .int v1] mh none res := by
  refine MC_of 1 (by decide) rfl (fun X C hG => ?_)
  replace C : Cx X (d + 74) 3 cX6_digs RX6 none := C
  show Vw LM X (d + 74) 3 0 [some (.ref 0), some (.int v1), none] [] mh
  unfold X6_digs at h
  refine V_aload_n (pc := 0) C dX6_digs_0 rfl rfl ?_
  refine V_iload_n (pc := 1) C dX6_digs_1 rfl rfl ?_
  obtain ⟨q1, hq2, h⟩ := bnd_ok h
  refine V_callVi (pc := 2) (rest := []) C cs_X6_257 (c_X6_beepOf (d + 0) v1 mh hq2) CF6.1 LO6 (by omega) (by decide) rfl rfl (Nat.le_of_ble_eq_true rfl) dX6_digs_2 ?_
  refine V_istore_n (pc := 5) C (lv' := [some (.ref 0), some (.int v1), some (.int q1.1)]) dX6_digs_5 rfl (by decide) (Nat.le_of_ble_eq_true rfl) rfl rfl ?_
  refine lq2_ok (fun (v2_3 : Int32) (mh4 : vMH) => Vw LM X (d + 74) 3 6 [some (.ref 0), some (.int v1), some (.int v2_3)] [] mh4) h (fun rec5 hrec5 v2_3 mh4 h => ?_)
  unfold X6_digs_L6 at h
  refine V_iload_n (pc := 6) C dX6_digs_6 rfl rfl ?_
  refine V_iconst (pc := 7) C (v := (-1)) dX6_digs_7 (by decide) ?_
  refine V_icmpeq (pc := 8) (tgt := 86) C dX6_digs_8 (by decide) (fun hc6 => ?_) (fun hc6 => ?_)
  · have h := it_t h hc6
    exact V_ret0 (pc := 86) C (gdov h hG) dX6_digs_86
  · have h := it_f h hc6
    refine V_aload_n (pc := 11) C dX6_digs_11 rfl rfl ?_
    refine V_getR (pc := 12) C (r' := 6) CF6 fl_X6_29 LO6 (by decide) rfl dX6_digs_12 ?_
    refine V_iload_n (pc := 15) C dX6_digs_15 rfl rfl ?_
    obtain ⟨hi7, h⟩ := chk_ok h
    refine V_iald (pc := 16) C LAM6 hi7 dX6_digs_16 (v := (mh4.1 6 (jn v2_3))) rfl ?_
    refine V_bipush (pc := 17) C (v := 10) dX6_digs_17 (by decide) ?_
    refine V_icmpgt (pc := 19) (tgt := 86) C dX6_digs_19 (by decide) (fun hc8 => ?_) (fun hc8 => ?_)
    · have h := it_t h hc8
      exact V_ret0 (pc := 86) C (gdov h hG) dX6_digs_86
    · have h := it_f h hc8
      refine V_aload_n (pc := 22) C dX6_digs_22 rfl rfl ?_
      refine V_iconst (pc := 23) C (v := 0) dX6_digs_23 (by decide) ?_
      refine V_iload_n (pc := 24) C dX6_digs_24 rfl rfl ?_
      refine V_aload_n (pc := 25) C dX6_digs_25 rfl rfl ?_
      refine V_iload_n (pc := 26) C dX6_digs_26 rfl rfl ?_
      obtain ⟨q9, hq10, h⟩ := bnd_ok h
      refine V_callVi (pc := 27) (rest := [.int v2_3, .int 0, .ref 0]) C cs_X6_115 (c_X6_heard (d + 72) v2_3 mh4 hq10) CF6.1 LO6 (by omega) (by decide) rfl rfl (Nat.le_of_ble_eq_true rfl) dX6_digs_27 ?_
      obtain ⟨q11, hq12, h⟩ := bnd_ok h
      refine V_callVi (pc := 30) (rest := []) C cs_X6_248 (c_X6_says (d + 2) 0 v2_3 q9 mh4 hq12) CF6.1 LO6 (by omega) (by decide) rfl rfl (Nat.le_of_ble_eq_true rfl) dX6_digs_30 ?_
      refine V_ifeq (pc := 33) (tgt := 86) C dX6_digs_33 (by decide) (fun hc13 => ?_) (fun hc13 => ?_)
      · have h := it_t h hc13
        exact V_ret0 (pc := 86) C (gdov h hG) dX6_digs_86
      · have h := it_f h hc13
        refine V_aload_n (pc := 36) C dX6_digs_36 rfl rfl ?_
        refine V_dup (pc := 37) C dX6_digs_37 rfl ?_
        refine V_getI (pc := 38) C CF6 fl_X6_260 LO6 (by decide) rfl dX6_digs_38 (v := (q11.2.1 0 32)) rfl ?_
        refine V_iconst (pc := 41) C (v := 1) dX6_digs_41 (by decide) ?_
        refine V_iadd (pc := 42) C dX6_digs_42 ?_
        refine V_putI (pc := 43) C CF6 fl_X6_260 LO6 (by decide) rfl rfl rfl dX6_digs_43 ?_
        refine V_aload_n (pc := 46) C dX6_digs_46 rfl rfl ?_
        refine V_dup (pc := 47) C dX6_digs_47 rfl ?_
        refine V_getI (pc := 48) C CF6 fl_X6_263 LO6 (by decide) rfl dX6_digs_48 (v := (q11.2.1 0 33)) (rd_k (by decide)) ?_
        refine V_aload_n (pc := 51) C dX6_digs_51 rfl rfl ?_
        refine V_iload_n (pc := 52) C dX6_digs_52 rfl rfl ?_
        refine V_aload_n (pc := 53) C dX6_digs_53 rfl rfl ?_
        refine V_iload_n (pc := 54) C dX6_digs_54 rfl rfl ?_
        obtain ⟨q14, hq15, h⟩ := bnd_ok h
        refine V_callVi (pc := 55) (rest := [.int v2_3, .ref 0, .int (q11.2.1 0 33), .ref 0]) C cs_X6_115 (c_X6_heard (d + 72) v2_3 (v_up q11.2 0 32 ((q11.2.1 0 32) + 1)) hq15) CF6.1 LO6 (by omega) (by decide) rfl rfl (Nat.le_of_ble_eq_true rfl) dX6_digs_55 ?_
        obtain ⟨q16, hq17, h⟩ := bnd_ok h
        refine V_callVi (pc := 58) (rest := [.int (q11.2.1 0 33), .ref 0]) C cs_X6_122 (c_X6_worth (d + 1) v2_3 q14 (v_up q11.2 0 32 ((q11.2.1 0 32) + 1)) hq17) CF6.1 LO6 (by omega) (by decide) rfl rfl (Nat.le_of_ble_eq_true rfl) dX6_digs_58 ?_
        refine V_iadd (pc := 61) C dX6_digs_61 ?_
        refine V_putI (pc := 62) C CF6 fl_X6_263 LO6 (by decide) rfl rfl rfl dX6_digs_62 ?_
        refine V_aload_n (pc := 65) C dX6_digs_65 rfl rfl ?_
        refine V_dup (pc := 66) C dX6_digs_66 rfl ?_
        refine V_getI (pc := 67) C CF6 fl_X6_80 LO6 (by decide) rfl dX6_digs_67 (v := (q16.2.1 0 12)) (rd_k (by decide)) ?_
        refine V_iconst (pc := 70) C (v := 1) dX6_digs_70 (by decide) ?_
        refine V_iload_n (pc := 71) C dX6_digs_71 rfl rfl ?_
        refine V_ishl (pc := 72) C dX6_digs_72 ?_
        refine V_ior (pc := 73) C dX6_digs_73 ?_
        refine V_putI (pc := 74) C CF6 fl_X6_80 LO6 (by decide) rfl rfl rfl dX6_digs_74 ?_
        refine V_aload_n (pc := 77) C dX6_digs_77 rfl rfl ?_
        refine V_iload_n (pc := 78) C dX6_digs_78 rfl rfl ?_
        obtain ⟨q18, hq19, h⟩ := bnd_ok h
        refine V_callVi (pc := 79) (rest := []) C cs_X6_257 (c_X6_beepOf (d + 0) v1 (v_up (v_up q16.2 0 33 ((q11.2.1 0 33) + q16.1)) 0 12 ((q16.2.1 0 12) ||| (jl 1 v2_3))) hq19) CF6.1 LO6 (by omega) (by decide) rfl rfl (Nat.le_of_ble_eq_true rfl) dX6_digs_79 ?_
        refine V_istore_n (pc := 82) C (lv' := [some (.ref 0), some (.int v1), some (.int q18.1)]) dX6_digs_82 rfl (by decide) (Nat.le_of_ble_eq_true rfl) rfl rfl ?_
        refine V_goto (pc := 83) (tgt := 6) C dX6_digs_83 (by decide) ?_
        exact hrec5 q18.1 q18.2 h
def X6_walks_L2 (v1 : Int32) (rec3 : Int32 → vMH → Option (vMH)) (v2_1 : Int32) (mh2 : vMH) : Option (vMH) := (if 8 ≤ v2_1 then (some mh2) else (wj1 (fun (s5 : Int32) => ((X6_digs ((8 * v1) + s5) mh2).bind fun q7 => (rec3 (v2_1 + 1) q7))) fun J6 => (if (jr v1 2) = 0 then (J6 v2_1) else (J6 (7 - v2_1)))))
def X6_walks (v1 : Int32) (mh : vMH) : Option (vMH) := (lq2 4096 (X6_walks_L2 v1) 0 mh)
set_option maxRecDepth 100000 in
set_option maxHeartbeats 8000000 in
theorem c_X6_walks (d : Nat) (v1 : Int32) (mh : vMH) {res : vMH} (h : X6_walks v1 mh = some res) : MC LM (d + 75) yX6_walks cX6_walks 3 none [.ref 0, .int v1] mh none res := by
  refine MC_of 1 (by decide) rfl (fun X C hG => ?_)
  replace C : Cx X (d + 75) 3 cX6_walks RX6 none := C
  show Vw LM X (d + 75) 3 0 [some (.ref 0), some (.int v1), none] [] mh
  unfold X6_walks at h
  refine V_iconst (pc := 0) C (v := 0) dX6_walks_0 (by decide) ?_
  refine V_istore_n (pc := 1) C (lv' := [some (.ref 0), some (.int v1), some (.int 0)]) dX6_walks_1 rfl (by decide) (Nat.le_of_ble_eq_true rfl) rfl rfl ?_
  refine lq2_ok (fun (v2_1 : Int32) (mh2 : vMH) => Vw LM X (d + 75) 3 2 [some (.ref 0), some (.int v1), some (.int v2_1)] [] mh2) h (fun rec3 hrec3 v2_1 mh2 h => ?_)
  unfold X6_walks_L2 at h
  refine V_iload_n (pc := 2) C dX6_walks_2 rfl rfl ?_
  refine V_bipush (pc := 3) C (v := 8) dX6_walks_3 (by decide) ?_
  refine V_icmpge (pc := 5) (tgt := 37) C dX6_walks_5 (by decide) (fun hc4 => ?_) (fun hc4 => ?_)
  · have h := it_t h hc4
    exact V_ret0 (pc := 37) C (gdov h hG) dX6_walks_37
  · have h := it_f h hc4
    refine V_aload_n (pc := 8) C dX6_walks_8 rfl rfl ?_
    refine V_bipush (pc := 9) C (v := 8) dX6_walks_9 (by decide) ?_
    refine V_iload_n (pc := 11) C dX6_walks_11 rfl rfl ?_
    refine V_imul (pc := 12) C dX6_walks_12 ?_
    refine V_iload_n (pc := 13) C dX6_walks_13 rfl rfl ?_
    refine V_iconst (pc := 14) C (v := 2) dX6_walks_14 (by decide) ?_
    refine V_irem (pc := 15) C dX6_walks_15 (by decide) ?_
    refine wj1_ok (fun (s5 : Int32) => Vw LM X (d + 75) 3 27 [some (.ref 0), some (.int v1), some (.int v2_1)] [.int s5, .int (8 * v1), .ref 0] mh2) h (fun s5 h => ?_) (fun J6 hJ6 h => ?_)
    · refine V_iadd (pc := 27) C dX6_walks_27 ?_
      obtain ⟨q7, hq8, h⟩ := bnd_ok h
      refine V_callVv (pc := 28) (rest := []) C cs_X6_266 (c_X6_digs (d + 0) ((8 * v1) + s5) mh2 hq8) CF6.1 LO6 (by omega) (by decide) rfl rfl (Nat.le_of_ble_eq_true rfl) dX6_walks_28 ?_
      refine V_iinc (pc := 31) C (v := (v2_1 + 1)) (lv' := [some (.ref 0), some (.int v1), some (.int (v2_1 + 1))]) dX6_walks_31 rfl rfl (by decide) (Nat.le_of_ble_eq_true rfl) rfl rfl ?_
      refine V_goto (pc := 34) (tgt := 2) C dX6_walks_34 (by decide) ?_
      exact hrec3 (v2_1 + 1) q7 h
    · refine V_ifne (pc := 16) (tgt := 23) C dX6_walks_16 (by decide) (fun hc9 => ?_) (fun hc9 => ?_)
      · have h := it_f h hc9
        refine V_bipush (pc := 23) C (v := 7) dX6_walks_23 (by decide) ?_
        refine V_iload_n (pc := 25) C dX6_walks_25 rfl rfl ?_
        refine V_isub (pc := 26) C dX6_walks_26 ?_
        exact hJ6 (7 - v2_1) h
      · have h := it_t h hc9
        refine V_iload_n (pc := 19) C dX6_walks_19 rfl rfl ?_
        refine V_goto (pc := 20) (tgt := 27) C dX6_walks_20 (by decide) ?_
        exact hJ6 v2_1 h
def X6_walksAll_L2 (v1 : Int32) (rec3 : Int32 → vMH → Option (vMH)) (v2_1 : Int32) (mh2 : vMH) : Option (vMH) := (if 6 ≤ v2_1 then (some mh2) else (if ((js v1 v2_1) &&& 1) = 1 then ((X6_walks v2_1 mh2).bind fun q6 => (rec3 (v2_1 + 1) q6)) else (rec3 (v2_1 + 1) mh2)))
def X6_walksAll (v1 : Int32) (mh : vMH) : Option (vMH) := (lq2 4096 (X6_walksAll_L2 v1) 0 mh)
set_option maxRecDepth 100000 in
set_option maxHeartbeats 8000000 in
theorem c_X6_walksAll (d : Nat) (v1 : Int32) (mh : vMH) {res : vMH} (h : X6_walksAll v1 mh = some res) : MC LM (d + 76) yX6_walksAll cX6_walksAll 3 none [.ref 0, .int v1] mh none res := by
  refine MC_of 1 (by decide) rfl (fun X C hG => ?_)
  replace C : Cx X (d + 76) 3 cX6_walksAll RX6 none := C
  show Vw LM X (d + 76) 3 0 [some (.ref 0), some (.int v1), none] [] mh
  unfold X6_walksAll at h
  refine V_iconst (pc := 0) C (v := 0) dX6_walksAll_0 (by decide) ?_
  refine V_istore_n (pc := 1) C (lv' := [some (.ref 0), some (.int v1), some (.int 0)]) dX6_walksAll_1 rfl (by decide) (Nat.le_of_ble_eq_true rfl) rfl rfl ?_
  refine lq2_ok (fun (v2_1 : Int32) (mh2 : vMH) => Vw LM X (d + 76) 3 2 [some (.ref 0), some (.int v1), some (.int v2_1)] [] mh2) h (fun rec3 hrec3 v2_1 mh2 h => ?_)
  unfold X6_walksAll_L2 at h
  refine V_iload_n (pc := 2) C dX6_walksAll_2 rfl rfl ?_
  refine V_bipush (pc := 3) C (v := 6) dX6_walksAll_3 (by decide) ?_
  refine V_icmpge (pc := 5) (tgt := 28) C dX6_walksAll_5 (by decide) (fun hc4 => ?_) (fun hc4 => ?_)
  · have h := it_t h hc4
    exact V_ret0 (pc := 28) C (gdov h hG) dX6_walksAll_28
  · have h := it_f h hc4
    refine V_iload_n (pc := 8) C dX6_walksAll_8 rfl rfl ?_
    refine V_iload_n (pc := 9) C dX6_walksAll_9 rfl rfl ?_
    refine V_ishr (pc := 10) C dX6_walksAll_10 ?_
    refine V_iconst (pc := 11) C (v := 1) dX6_walksAll_11 (by decide) ?_
    refine V_iand (pc := 12) C dX6_walksAll_12 ?_
    refine V_iconst (pc := 13) C (v := 1) dX6_walksAll_13 (by decide) ?_
    refine V_icmpne (pc := 14) (tgt := 22) C dX6_walksAll_14 (by decide) (fun hc5 => ?_) (fun hc5 => ?_)
    · have h := it_f h hc5
      refine V_iinc (pc := 22) C (v := (v2_1 + 1)) (lv' := [some (.ref 0), some (.int v1), some (.int (v2_1 + 1))]) dX6_walksAll_22 rfl rfl (by decide) (Nat.le_of_ble_eq_true rfl) rfl rfl ?_
      refine V_goto (pc := 25) (tgt := 2) C dX6_walksAll_25 (by decide) ?_
      exact hrec3 (v2_1 + 1) mh2 h
    · have h := it_t h hc5
      refine V_aload_n (pc := 17) C dX6_walksAll_17 rfl rfl ?_
      refine V_iload_n (pc := 18) C dX6_walksAll_18 rfl rfl ?_
      obtain ⟨q6, hq7, h⟩ := bnd_ok h
      refine V_callVv (pc := 19) (rest := []) C cs_X6_270 (c_X6_walks (d + 0) v2_1 mh2 hq7) CF6.1 LO6 (by omega) (by decide) rfl rfl (Nat.le_of_ble_eq_true rfl) dX6_walksAll_19 ?_
      refine V_iinc (pc := 22) C (v := (v2_1 + 1)) (lv' := [some (.ref 0), some (.int v1), some (.int (v2_1 + 1))]) dX6_walksAll_22 rfl rfl (by decide) (Nat.le_of_ble_eq_true rfl) rfl rfl ?_
      refine V_goto (pc := 25) (tgt := 2) C dX6_walksAll_25 (by decide) ?_
      exact hrec3 (v2_1 + 1) q6 h
def X6_walk (v1 : Int32) (mh : vMH) : Option (Int32 × vMH) := (if (X6_in (Int32.toInt64 v1) 0 5) = 0 then (some ((-2), mh)) else ((X6_walks v1 (v_up mh 0 32 0)).bind fun q2 => (some ((q2.1 0 32), (v_up q2 0 16 ((q2.1 0 16) ||| (jl 1 v1)))))))
set_option maxRecDepth 100000 in
set_option maxHeartbeats 8000000 in
theorem c_X6_walk (d : Nat) (v1 : Int32) (mh : vMH) {res : Int32 × vMH} (h : X6_walk v1 mh = some res) : MC LM (d + 76) yX6_walk cX6_walk 2 (some .int) [.ref 0, .int v1] mh (some (.int res.1)) res.2 := by
  refine MC_of 0 (by decide) rfl (fun X C hG => ?_)
  replace C : Cx X (d + 76) 2 cX6_walk RX6 (some .int) := C
  show Vw LM X (d + 76) 2 0 [some (.ref 0), some (.int v1)] [] mh
  unfold X6_walk at h
  refine V_iload_n (pc := 0) C dX6_walk_0 rfl rfl ?_
  refine V_i2l (pc := 1) C dX6_walk_1 ?_
  refine V_lconst (pc := 2) C (v := 0) dX6_walk_2 (by decide) ?_
  refine V_ldc2 (pc := 3) C dX6_walk_3 kc_X6_85 ?_
  refine V_callSi (pc := 6) (rest := []) C cs_X6_76 (c_X6_in (d + 75) (Int32.toInt64 v1) 0 5 mh) (by omega) (by decide) rfl rfl (Nat.le_of_ble_eq_true rfl) dX6_walk_6 ?_
  refine V_ifne (pc := 9) (tgt := 15) C dX6_walk_9 (by decide) (fun hc1 => ?_) (fun hc1 => ?_)
  · have h := it_f h hc1
    refine V_aload_n (pc := 15) C dX6_walk_15 rfl rfl ?_
    refine V_iconst (pc := 16) C (v := 0) dX6_walk_16 (by decide) ?_
    refine V_putI (pc := 17) C CF6 fl_X6_260 LO6 (by decide) rfl rfl rfl dX6_walk_17 ?_
    refine V_aload_n (pc := 20) C dX6_walk_20 rfl rfl ?_
    refine V_iload_n (pc := 21) C dX6_walk_21 rfl rfl ?_
    obtain ⟨q2, hq3, h⟩ := bnd_ok h
    refine V_callVv (pc := 22) (rest := []) C cs_X6_270 (c_X6_walks (d + 0) v1 (v_up mh 0 32 0) hq3) CF6.1 LO6 (by omega) (by decide) rfl rfl (Nat.le_of_ble_eq_true rfl) dX6_walk_22 ?_
    refine V_aload_n (pc := 25) C dX6_walk_25 rfl rfl ?_
    refine V_dup (pc := 26) C dX6_walk_26 rfl ?_
    refine V_getI (pc := 27) C CF6 fl_X6_273 LO6 (by decide) rfl dX6_walk_27 (v := (q2.1 0 16)) rfl ?_
    refine V_iconst (pc := 30) C (v := 1) dX6_walk_30 (by decide) ?_
    refine V_iload_n (pc := 31) C dX6_walk_31 rfl rfl ?_
    refine V_ishl (pc := 32) C dX6_walk_32 ?_
    refine V_ior (pc := 33) C dX6_walk_33 ?_
    refine V_putI (pc := 34) C CF6 fl_X6_273 LO6 (by decide) rfl rfl rfl dX6_walk_34 ?_
    refine V_aload_n (pc := 37) C dX6_walk_37 rfl rfl ?_
    refine V_getI (pc := 38) C CF6 fl_X6_260 LO6 (by decide) rfl dX6_walk_38 (v := (q2.1 0 32)) (rd_k (by decide)) ?_
    exact V_iret (pc := 41) C (gdow h hG) dX6_walk_41
  · have h := it_t h hc1
    refine V_bipush (pc := 12) C (v := (-2)) dX6_walk_12 (by decide) ?_
    exact V_iret (pc := 14) C (gdow h hG) dX6_walk_14
def X6_ploughs_L2 (J2 : vMH → Option (vMH)) (rec8 : Int32 → vMH → Option (vMH)) (v1_6 : Int32) (mh7 : vMH) : Option (vMH) := (if (mh7.1 0 11) ≤ v1_6 then (J2 mh7) else (if (X6_lies v1_6 mh7) = 0 then (rec8 (v1_6 + 1) mh7) else (chk (inb v1_6 12) (wj1 (fun (s12 : Int32) => (wj1 (fun (s14 : Int32) => (rec8 (v1_6 + 1) (v_up (v_up mh7 5 (jn v1_6) ((((mh7.1 5 (jn v1_6)) / 8) * 8) + (X6_within ((jr (mh7.1 5 (jn v1_6)) 8) + s12) 0 7))) 6 (jn v1_6) s14))) fun J15 => (if 12 < (mh7.1 6 (jn v1_6)) then (J15 ((mh7.1 6 (jn v1_6)) - 1)) else (J15 (12 - (mh7.1 6 (jn v1_6))))))) fun J13 => (if (jr (mh7.1 0 15) 2) = 0 then (J13 (X6_dragsAt (mh7.1 4 (jn v1_6)) (mh7.1 7 (jn v1_6)) (mh7.1 6 (jn v1_6)))) else (J13 (-(X6_dragsAt (mh7.1 4 (jn v1_6)) (mh7.1 7 (jn v1_6)) (mh7.1 6 (jn v1_6))))))))))
def X6_ploughs (mh : vMH) : Option (vMH) := (wj1 (fun (mh1 : vMH) => (wj1 (fun (s3 : Int32) => (some (v_up mh1 0 15 s3))) fun J4 => (if 99 ≤ (mh1.1 0 15) then (J4 99) else (J4 ((mh1.1 0 15) + 1))))) fun J2 => (lq2 4096 (X6_ploughs_L2 J2) 0 mh))
set_option maxRecDepth 100000 in
set_option maxHeartbeats 8000000 in
theorem c_X6_ploughs (d : Nat)  (mh : vMH) {res : vMH} (h : X6_ploughs mh = some res) : MC LM (d + 1) yX6_ploughs cX6_ploughs 4 none [.ref 0] mh none res := by
  refine MC_of 3 (by decide) rfl (fun X C hG => ?_)
  replace C : Cx X (d + 1) 4 cX6_ploughs RX6 none := C
  show Vw LM X (d + 1) 4 0 [some (.ref 0), none, none, none] [] mh
  unfold X6_ploughs at h
  refine V_iconst (pc := 0) C (v := 0) dX6_ploughs_0 (by decide) ?_
  refine V_istore_n (pc := 1) C (lv' := [some (.ref 0), some (.int 0), none, none]) dX6_ploughs_1 rfl (by decide) (Nat.le_of_ble_eq_true rfl) rfl rfl ?_
  refine wj1_ok (fun (mh1 : vMH) => Vw LM X (d + 1) 4 135 [some (.ref 0), none, none, none] [] mh1) h (fun mh1 h => ?_) (fun J2 hJ2 h => ?_)
  · refine V_aload_n (pc := 135) C dX6_ploughs_135 rfl rfl ?_
    refine V_aload_n (pc := 136) C dX6_ploughs_136 rfl rfl ?_
    refine V_getI (pc := 137) C CF6 fl_X6_276 LO6 (by decide) rfl dX6_ploughs_137 (v := (mh1.1 0 15)) rfl ?_
    refine V_bipush (pc := 140) C (v := 99) dX6_ploughs_140 (by decide) ?_
    refine wj1_ok (fun (s3 : Int32) => Vw LM X (d + 1) 4 156 [some (.ref 0), none, none, none] [.int s3, .ref 0] mh1) h (fun s3 h => ?_) (fun J4 hJ4 h => ?_)
    · refine V_putI (pc := 156) C CF6 fl_X6_276 LO6 (by decide) rfl rfl rfl dX6_ploughs_156 ?_
      exact V_ret0 (pc := 159) C (gdov h hG) dX6_ploughs_159
    · refine V_icmpge (pc := 142) (tgt := 154) C dX6_ploughs_142 (by decide) (fun hc5 => ?_) (fun hc5 => ?_)
      · have h := it_t h hc5
        refine V_bipush (pc := 154) C (v := 99) dX6_ploughs_154 (by decide) ?_
        exact hJ4 99 h
      · have h := it_f h hc5
        refine V_aload_n (pc := 145) C dX6_ploughs_145 rfl rfl ?_
        refine V_getI (pc := 146) C CF6 fl_X6_276 LO6 (by decide) rfl dX6_ploughs_146 (v := (mh1.1 0 15)) rfl ?_
        refine V_iconst (pc := 149) C (v := 1) dX6_ploughs_149 (by decide) ?_
        refine V_iadd (pc := 150) C dX6_ploughs_150 ?_
        refine V_goto (pc := 151) (tgt := 156) C dX6_ploughs_151 (by decide) ?_
        exact hJ4 ((mh1.1 0 15) + 1) h
  · refine lq2_ok (fun (v1_6 : Int32) (mh7 : vMH) => Vw LM X (d + 1) 4 2 [some (.ref 0), some (.int v1_6), none, none] [] mh7) h (fun rec8 hrec8 v1_6 mh7 h => ?_)
    unfold X6_ploughs_L2 at h
    refine V_iload_n (pc := 2) C dX6_ploughs_2 rfl rfl ?_
    refine V_aload_n (pc := 3) C dX6_ploughs_3 rfl rfl ?_
    refine V_getI (pc := 4) C CF6 fl_X6_73 LO6 (by decide) rfl dX6_ploughs_4 (v := (mh7.1 0 11)) rfl ?_
    refine V_icmpge (pc := 7) (tgt := 135) C dX6_ploughs_7 (by decide) (fun hc9 => ?_) (fun hc9 => ?_)
    · have h := it_t h hc9
      refine V_mask [true, false, true, true] (lv' := [some (.ref 0), none, none, none]) rfl ?_
      exact hJ2 mh7 h
    · have h := it_f h hc9
      refine V_aload_n (pc := 10) C dX6_ploughs_10 rfl rfl ?_
      refine V_iload_n (pc := 11) C dX6_ploughs_11 rfl rfl ?_
      refine V_callVi (pc := 12) (rest := []) C cs_X6_102 (c_X6_lies (d + 0) v1_6 mh7) CF6.1 LO6 (by omega) (by decide) rfl rfl (Nat.le_of_ble_eq_true rfl) dX6_ploughs_12 ?_
      refine V_ifeq (pc := 15) (tgt := 129) C dX6_ploughs_15 (by decide) (fun hc10 => ?_) (fun hc10 => ?_)
      · have h := it_t h hc10
        refine V_iinc (pc := 129) C (v := (v1_6 + 1)) (lv' := [some (.ref 0), some (.int (v1_6 + 1)), none, none]) dX6_ploughs_129 rfl rfl (by decide) (Nat.le_of_ble_eq_true rfl) rfl rfl ?_
        refine V_goto (pc := 132) (tgt := 2) C dX6_ploughs_132 (by decide) ?_
        exact hrec8 (v1_6 + 1) mh7 h
      · have h := it_f h hc10
        refine V_aload_n (pc := 18) C dX6_ploughs_18 rfl rfl ?_
        refine V_getR (pc := 19) C (r' := 4) CF6 fl_X6_23 LO6 (by decide) rfl dX6_ploughs_19 ?_
        refine V_iload_n (pc := 22) C dX6_ploughs_22 rfl rfl ?_
        obtain ⟨hi11, h⟩ := chk_ok h
        refine V_iald (pc := 23) C LAM4 hi11 dX6_ploughs_23 (v := (mh7.1 4 (jn v1_6))) rfl ?_
        refine V_aload_n (pc := 24) C dX6_ploughs_24 rfl rfl ?_
        refine V_getR (pc := 25) C (r' := 7) CF6 fl_X6_32 LO6 (by decide) rfl dX6_ploughs_25 ?_
        refine V_iload_n (pc := 28) C dX6_ploughs_28 rfl rfl ?_
        refine V_iald (pc := 29) C LAM7 hi11 dX6_ploughs_29 (v := (mh7.1 7 (jn v1_6))) rfl ?_
        refine V_aload_n (pc := 30) C dX6_ploughs_30 rfl rfl ?_
        refine V_getR (pc := 31) C (r' := 6) CF6 fl_X6_29 LO6 (by decide) rfl dX6_ploughs_31 ?_
        refine V_iload_n (pc := 34) C dX6_ploughs_34 rfl rfl ?_
        refine V_iald (pc := 35) C LAM6 hi11 dX6_ploughs_35 (v := (mh7.1 6 (jn v1_6))) rfl ?_
        refine V_callSi (pc := 36) (rest := []) C cs_X6_118 (c_X6_dragsAt (d + 0) (mh7.1 4 (jn v1_6)) (mh7.1 7 (jn v1_6)) (mh7.1 6 (jn v1_6)) mh7) (by omega) (by decide) rfl rfl (Nat.le_of_ble_eq_true rfl) dX6_ploughs_36 ?_
        refine V_istore_n (pc := 39) C (lv' := [some (.ref 0), some (.int v1_6), some (.int (X6_dragsAt (mh7.1 4 (jn v1_6)) (mh7.1 7 (jn v1_6)) (mh7.1 6 (jn v1_6)))), none]) dX6_ploughs_39 rfl (by decide) (Nat.le_of_ble_eq_true rfl) rfl rfl ?_
        refine V_aload_n (pc := 40) C dX6_ploughs_40 rfl rfl ?_
        refine V_getR (pc := 41) C (r' := 5) CF6 fl_X6_26 LO6 (by decide) rfl dX6_ploughs_41 ?_
        refine V_iload_n (pc := 44) C dX6_ploughs_44 rfl rfl ?_
        refine V_iald (pc := 45) C LAM5 hi11 dX6_ploughs_45 (v := (mh7.1 5 (jn v1_6))) rfl ?_
        refine V_bipush (pc := 46) C (v := 8) dX6_ploughs_46 (by decide) ?_
        refine V_irem (pc := 48) C dX6_ploughs_48 (by decide) ?_
        refine V_aload_n (pc := 49) C dX6_ploughs_49 rfl rfl ?_
        refine V_getI (pc := 50) C CF6 fl_X6_276 LO6 (by decide) rfl dX6_ploughs_50 (v := (mh7.1 0 15)) rfl ?_
        refine V_iconst (pc := 53) C (v := 2) dX6_ploughs_53 (by decide) ?_
        refine V_irem (pc := 54) C dX6_ploughs_54 (by decide) ?_
        refine wj1_ok (fun (s12 : Int32) => Vw LM X (d + 1) 4 64 [some (.ref 0), some (.int v1_6), some (.int (X6_dragsAt (mh7.1 4 (jn v1_6)) (mh7.1 7 (jn v1_6)) (mh7.1 6 (jn v1_6)))), none] [.int s12, .int (jr (mh7.1 5 (jn v1_6)) 8)] mh7) h (fun s12 h => ?_) (fun J13 hJ13 h => ?_)
        · refine V_iadd (pc := 64) C dX6_ploughs_64 ?_
          refine V_istore_n (pc := 65) C (lv' := [some (.ref 0), some (.int v1_6), some (.int (X6_dragsAt (mh7.1 4 (jn v1_6)) (mh7.1 7 (jn v1_6)) (mh7.1 6 (jn v1_6)))), some (.int ((jr (mh7.1 5 (jn v1_6)) 8) + s12))]) dX6_ploughs_65 rfl (by decide) (Nat.le_of_ble_eq_true rfl) rfl rfl ?_
          refine V_aload_n (pc := 66) C dX6_ploughs_66 rfl rfl ?_
          refine V_getR (pc := 67) C (r' := 5) CF6 fl_X6_26 LO6 (by decide) rfl dX6_ploughs_67 ?_
          refine V_iload_n (pc := 70) C dX6_ploughs_70 rfl rfl ?_
          refine V_aload_n (pc := 71) C dX6_ploughs_71 rfl rfl ?_
          refine V_getR (pc := 72) C (r' := 5) CF6 fl_X6_26 LO6 (by decide) rfl dX6_ploughs_72 ?_
          refine V_iload_n (pc := 75) C dX6_ploughs_75 rfl rfl ?_
          refine V_iald (pc := 76) C LAM5 hi11 dX6_ploughs_76 (v := (mh7.1 5 (jn v1_6))) rfl ?_
          refine V_bipush (pc := 77) C (v := 8) dX6_ploughs_77 (by decide) ?_
          refine V_idiv (pc := 79) C dX6_ploughs_79 (by decide) ?_
          refine V_bipush (pc := 80) C (v := 8) dX6_ploughs_80 (by decide) ?_
          refine V_imul (pc := 82) C dX6_ploughs_82 ?_
          refine V_iload_n (pc := 83) C dX6_ploughs_83 rfl rfl ?_
          refine V_iconst (pc := 84) C (v := 0) dX6_ploughs_84 (by decide) ?_
          refine V_bipush (pc := 85) C (v := 7) dX6_ploughs_85 (by decide) ?_
          refine V_callSi (pc := 87) (rest := [.int (((mh7.1 5 (jn v1_6)) / 8) * 8), .int v1_6, .ref 5]) C cs_X6_251 (c_X6_within (d + 0) ((jr (mh7.1 5 (jn v1_6)) 8) + s12) 0 7 mh7) (by omega) (by decide) rfl rfl (Nat.le_of_ble_eq_true rfl) dX6_ploughs_87 ?_
          refine V_iadd (pc := 90) C dX6_ploughs_90 ?_
          refine V_iast (pc := 91) C LAM5 hi11 dX6_ploughs_91 ?_
          refine V_aload_n (pc := 92) C dX6_ploughs_92 rfl rfl ?_
          refine V_getR (pc := 93) C (r' := 6) CF6 fl_X6_29 LO6 (by decide) rfl dX6_ploughs_93 ?_
          refine V_iload_n (pc := 96) C dX6_ploughs_96 rfl rfl ?_
          refine V_aload_n (pc := 97) C dX6_ploughs_97 rfl rfl ?_
          refine V_getR (pc := 98) C (r' := 6) CF6 fl_X6_29 LO6 (by decide) rfl dX6_ploughs_98 ?_
          refine V_iload_n (pc := 101) C dX6_ploughs_101 rfl rfl ?_
          refine V_iald (pc := 102) C LAM6 hi11 dX6_ploughs_102 (v := (mh7.1 6 (jn v1_6))) (rd_ne (by decide)) ?_
          refine V_bipush (pc := 103) C (v := 12) dX6_ploughs_103 (by decide) ?_
          refine wj1_ok (fun (s14 : Int32) => Vw LM X (d + 1) 4 128 [some (.ref 0), some (.int v1_6), some (.int (X6_dragsAt (mh7.1 4 (jn v1_6)) (mh7.1 7 (jn v1_6)) (mh7.1 6 (jn v1_6)))), some (.int ((jr (mh7.1 5 (jn v1_6)) 8) + s12))] [.int s14, .int v1_6, .ref 6] (v_up mh7 5 (jn v1_6) ((((mh7.1 5 (jn v1_6)) / 8) * 8) + (X6_within ((jr (mh7.1 5 (jn v1_6)) 8) + s12) 0 7)))) h (fun s14 h => ?_) (fun J15 hJ15 h => ?_)
          · refine V_iast (pc := 128) C LAM6 hi11 dX6_ploughs_128 ?_
            refine V_iinc (pc := 129) C (v := (v1_6 + 1)) (lv' := [some (.ref 0), some (.int (v1_6 + 1)), some (.int (X6_dragsAt (mh7.1 4 (jn v1_6)) (mh7.1 7 (jn v1_6)) (mh7.1 6 (jn v1_6)))), some (.int ((jr (mh7.1 5 (jn v1_6)) 8) + s12))]) dX6_ploughs_129 rfl rfl (by decide) (Nat.le_of_ble_eq_true rfl) rfl rfl ?_
            refine V_goto (pc := 132) (tgt := 2) C dX6_ploughs_132 (by decide) ?_
            refine V_mask [true, true, false, false] (lv' := [some (.ref 0), some (.int (v1_6 + 1)), none, none]) rfl ?_
            exact hrec8 (v1_6 + 1) (v_up (v_up mh7 5 (jn v1_6) ((((mh7.1 5 (jn v1_6)) / 8) * 8) + (X6_within ((jr (mh7.1 5 (jn v1_6)) 8) + s12) 0 7))) 6 (jn v1_6) s14) h
          · refine V_icmpgt (pc := 105) (tgt := 120) C dX6_ploughs_105 (by decide) (fun hc16 => ?_) (fun hc16 => ?_)
            · have h := it_t h hc16
              refine V_aload_n (pc := 120) C dX6_ploughs_120 rfl rfl ?_
              refine V_getR (pc := 121) C (r' := 6) CF6 fl_X6_29 LO6 (by decide) rfl dX6_ploughs_121 ?_
              refine V_iload_n (pc := 124) C dX6_ploughs_124 rfl rfl ?_
              refine V_iald (pc := 125) C LAM6 hi11 dX6_ploughs_125 (v := (mh7.1 6 (jn v1_6))) (rd_ne (by decide)) ?_
              refine V_iconst (pc := 126) C (v := 1) dX6_ploughs_126 (by decide) ?_
              refine V_isub (pc := 127) C dX6_ploughs_127 ?_
              exact hJ15 ((mh7.1 6 (jn v1_6)) - 1) h
            · have h := it_f h hc16
              refine V_bipush (pc := 108) C (v := 12) dX6_ploughs_108 (by decide) ?_
              refine V_aload_n (pc := 110) C dX6_ploughs_110 rfl rfl ?_
              refine V_getR (pc := 111) C (r' := 6) CF6 fl_X6_29 LO6 (by decide) rfl dX6_ploughs_111 ?_
              refine V_iload_n (pc := 114) C dX6_ploughs_114 rfl rfl ?_
              refine V_iald (pc := 115) C LAM6 hi11 dX6_ploughs_115 (v := (mh7.1 6 (jn v1_6))) (rd_ne (by decide)) ?_
              refine V_isub (pc := 116) C dX6_ploughs_116 ?_
              refine V_goto (pc := 117) (tgt := 128) C dX6_ploughs_117 (by decide) ?_
              exact hJ15 (12 - (mh7.1 6 (jn v1_6))) h
        · refine V_ifne (pc := 55) (tgt := 62) C dX6_ploughs_55 (by decide) (fun hc17 => ?_) (fun hc17 => ?_)
          · have h := it_f h hc17
            refine V_iload_n (pc := 62) C dX6_ploughs_62 rfl rfl ?_
            refine V_ineg (pc := 63) C dX6_ploughs_63 ?_
            exact hJ13 (-(X6_dragsAt (mh7.1 4 (jn v1_6)) (mh7.1 7 (jn v1_6)) (mh7.1 6 (jn v1_6)))) h
          · have h := it_t h hc17
            refine V_iload_n (pc := 58) C dX6_ploughs_58 rfl rfl ?_
            refine V_goto (pc := 59) (tgt := 64) C dX6_ploughs_59 (by decide) ?_
            exact hJ13 (X6_dragsAt (mh7.1 4 (jn v1_6)) (mh7.1 7 (jn v1_6)) (mh7.1 6 (jn v1_6))) h
def X6_plough (mh : vMH) : Option (Int32 × vMH) := ((X6_ploughs mh).bind fun q1 => (some ((q1.1 0 15), q1)))
set_option maxRecDepth 100000 in
set_option maxHeartbeats 8000000 in
theorem c_X6_plough (d : Nat)  (mh : vMH) {res : Int32 × vMH} (h : X6_plough mh = some res) : MC LM (d + 2) yX6_plough cX6_plough 1 (some .int) [.ref 0] mh (some (.int res.1)) res.2 := by
  refine MC_of 0 (by decide) rfl (fun X C hG => ?_)
  replace C : Cx X (d + 2) 1 cX6_plough RX6 (some .int) := C
  show Vw LM X (d + 2) 1 0 [some (.ref 0)] [] mh
  unfold X6_plough at h
  refine V_aload_n (pc := 0) C dX6_plough_0 rfl rfl ?_
  obtain ⟨q1, hq2, h⟩ := bnd_ok h
  refine V_callVv (pc := 1) (rest := []) C cs_X6_279 (c_X6_ploughs (d + 0) mh hq2) CF6.1 LO6 (by omega) (by decide) rfl rfl (Nat.le_of_ble_eq_true rfl) dX6_plough_1 ?_
  refine V_aload_n (pc := 4) C dX6_plough_4 rfl rfl ?_
  refine V_getI (pc := 5) C CF6 fl_X6_276 LO6 (by decide) rfl dX6_plough_5 (v := (q1.1 0 15)) rfl ?_
  exact V_iret (pc := 8) C (gdow h hG) dX6_plough_8
def X6_laysAside_L2 (J2 : vMH → Option (vMH)) (rec5 : Int32 → vMH → Option (vMH)) (v1_3 : Int32) (mh4 : vMH) : Option (vMH) := (if 12 ≤ v1_3 then (J2 mh4) else (chk (inb v1_3 12) (rec5 (v1_3 + 1) (v_up (v_up mh4 8 (jn v1_3) (mh4.1 5 (jn v1_3))) 9 (jn v1_3) (mh4.1 6 (jn v1_3))))))
def X6_laysAside (mh : vMH) : Option (vMH) := (wj1 (fun (mh1 : vMH) => (some (v_up (v_up (v_up (v_up (v_up mh1 0 36 (mh1.1 0 12)) 0 37 (mh1.1 0 14)) 0 38 (mh1.1 0 15)) 0 32 0) 0 33 0))) fun J2 => (lq2 4096 (X6_laysAside_L2 J2) 0 mh))
set_option maxRecDepth 100000 in
set_option maxHeartbeats 8000000 in
theorem c_X6_laysAside (d : Nat)  (mh : vMH) {res : vMH} (h : X6_laysAside mh = some res) : MC LM (d + 0) yX6_laysAside cX6_laysAside 2 none [.ref 0] mh none res := by
  refine MC_of 1 (by decide) rfl (fun X C hG => ?_)
  replace C : Cx X (d + 0) 2 cX6_laysAside RX6 none := C
  show Vw LM X (d + 0) 2 0 [some (.ref 0), none] [] mh
  unfold X6_laysAside at h
  refine V_iconst (pc := 0) C (v := 0) dX6_laysAside_0 (by decide) ?_
  refine V_istore_n (pc := 1) C (lv' := [some (.ref 0), some (.int 0)]) dX6_laysAside_1 rfl (by decide) (Nat.le_of_ble_eq_true rfl) rfl rfl ?_
  refine wj1_ok (fun (mh1 : vMH) => Vw LM X (d + 0) 2 38 [some (.ref 0), none] [] mh1) h (fun mh1 h => ?_) (fun J2 hJ2 h => ?_)
  · refine V_aload_n (pc := 38) C dX6_laysAside_38 rfl rfl ?_
    refine V_aload_n (pc := 39) C dX6_laysAside_39 rfl rfl ?_
    refine V_getI (pc := 40) C CF6 fl_X6_80 LO6 (by decide) rfl dX6_laysAside_40 (v := (mh1.1 0 12)) rfl ?_
    refine V_putI (pc := 43) C CF6 fl_X6_282 LO6 (by decide) rfl rfl rfl dX6_laysAside_43 ?_
    refine V_aload_n (pc := 46) C dX6_laysAside_46 rfl rfl ?_
    refine V_aload_n (pc := 47) C dX6_laysAside_47 rfl rfl ?_
    refine V_getI (pc := 48) C CF6 fl_X6_35 LO6 (by decide) rfl dX6_laysAside_48 (v := (mh1.1 0 14)) (rd_k (by decide)) ?_
    refine V_putI (pc := 51) C CF6 fl_X6_285 LO6 (by decide) rfl rfl rfl dX6_laysAside_51 ?_
    refine V_aload_n (pc := 54) C dX6_laysAside_54 rfl rfl ?_
    refine V_aload_n (pc := 55) C dX6_laysAside_55 rfl rfl ?_
    refine V_getI (pc := 56) C CF6 fl_X6_276 LO6 (by decide) rfl dX6_laysAside_56 (v := (mh1.1 0 15)) ((rd_k (by decide)).trans (rd_k (by decide))) ?_
    refine V_putI (pc := 59) C CF6 fl_X6_288 LO6 (by decide) rfl rfl rfl dX6_laysAside_59 ?_
    refine V_aload_n (pc := 62) C dX6_laysAside_62 rfl rfl ?_
    refine V_iconst (pc := 63) C (v := 0) dX6_laysAside_63 (by decide) ?_
    refine V_putI (pc := 64) C CF6 fl_X6_260 LO6 (by decide) rfl rfl rfl dX6_laysAside_64 ?_
    refine V_aload_n (pc := 67) C dX6_laysAside_67 rfl rfl ?_
    refine V_iconst (pc := 68) C (v := 0) dX6_laysAside_68 (by decide) ?_
    refine V_putI (pc := 69) C CF6 fl_X6_263 LO6 (by decide) rfl rfl rfl dX6_laysAside_69 ?_
    exact V_ret0 (pc := 72) C (gdov h hG) dX6_laysAside_72
  · refine lq2_ok (fun (v1_3 : Int32) (mh4 : vMH) => Vw LM X (d + 0) 2 2 [some (.ref 0), some (.int v1_3)] [] mh4) h (fun rec5 hrec5 v1_3 mh4 h => ?_)
    unfold X6_laysAside_L2 at h
    refine V_iload_n (pc := 2) C dX6_laysAside_2 rfl rfl ?_
    refine V_bipush (pc := 3) C (v := 12) dX6_laysAside_3 (by decide) ?_
    refine V_icmpge (pc := 5) (tgt := 38) C dX6_laysAside_5 (by decide) (fun hc6 => ?_) (fun hc6 => ?_)
    · have h := it_t h hc6
      refine V_mask [true, false] (lv' := [some (.ref 0), none]) rfl ?_
      exact hJ2 mh4 h
    · have h := it_f h hc6
      refine V_aload_n (pc := 8) C dX6_laysAside_8 rfl rfl ?_
      refine V_getR (pc := 9) C (r' := 8) CF6 fl_X6_38 LO6 (by decide) rfl dX6_laysAside_9 ?_
      refine V_iload_n (pc := 12) C dX6_laysAside_12 rfl rfl ?_
      refine V_aload_n (pc := 13) C dX6_laysAside_13 rfl rfl ?_
      refine V_getR (pc := 14) C (r' := 5) CF6 fl_X6_26 LO6 (by decide) rfl dX6_laysAside_14 ?_
      refine V_iload_n (pc := 17) C dX6_laysAside_17 rfl rfl ?_
      obtain ⟨hi7, h⟩ := chk_ok h
      refine V_iald (pc := 18) C LAM5 hi7 dX6_laysAside_18 (v := (mh4.1 5 (jn v1_3))) rfl ?_
      refine V_iast (pc := 19) C LAM8 hi7 dX6_laysAside_19 ?_
      refine V_aload_n (pc := 20) C dX6_laysAside_20 rfl rfl ?_
      refine V_getR (pc := 21) C (r' := 9) CF6 fl_X6_41 LO6 (by decide) rfl dX6_laysAside_21 ?_
      refine V_iload_n (pc := 24) C dX6_laysAside_24 rfl rfl ?_
      refine V_aload_n (pc := 25) C dX6_laysAside_25 rfl rfl ?_
      refine V_getR (pc := 26) C (r' := 6) CF6 fl_X6_29 LO6 (by decide) rfl dX6_laysAside_26 ?_
      refine V_iload_n (pc := 29) C dX6_laysAside_29 rfl rfl ?_
      refine V_iald (pc := 30) C LAM6 hi7 dX6_laysAside_30 (v := (mh4.1 6 (jn v1_3))) (rd_ne (by decide)) ?_
      refine V_iast (pc := 31) C LAM9 hi7 dX6_laysAside_31 ?_
      refine V_iinc (pc := 32) C (v := (v1_3 + 1)) (lv' := [some (.ref 0), some (.int (v1_3 + 1))]) dX6_laysAside_32 rfl rfl (by decide) (Nat.le_of_ble_eq_true rfl) rfl rfl ?_
      refine V_goto (pc := 35) (tgt := 2) C dX6_laysAside_35 (by decide) ?_
      exact hrec5 (v1_3 + 1) (v_up (v_up mh4 8 (jn v1_3) (mh4.1 5 (jn v1_3))) 9 (jn v1_3) (mh4.1 6 (jn v1_3))) h
def X6_laysBack_L2 (J2 : vMH → Option (vMH)) (rec5 : Int32 → vMH → Option (vMH)) (v1_3 : Int32) (mh4 : vMH) : Option (vMH) := (if 12 ≤ v1_3 then (J2 mh4) else (chk (inb v1_3 12) (rec5 (v1_3 + 1) (v_up (v_up mh4 5 (jn v1_3) (mh4.1 8 (jn v1_3))) 6 (jn v1_3) (mh4.1 9 (jn v1_3))))))
def X6_laysBack (mh : vMH) : Option (vMH) := (wj1 (fun (mh1 : vMH) => (some (v_up (v_up (v_up (v_up (v_up mh1 0 12 (mh1.1 0 36)) 0 14 (mh1.1 0 37)) 0 15 (mh1.1 0 38)) 0 32 0) 0 33 0))) fun J2 => (lq2 4096 (X6_laysBack_L2 J2) 0 mh))
set_option maxRecDepth 100000 in
set_option maxHeartbeats 8000000 in
theorem c_X6_laysBack (d : Nat)  (mh : vMH) {res : vMH} (h : X6_laysBack mh = some res) : MC LM (d + 0) yX6_laysBack cX6_laysBack 2 none [.ref 0] mh none res := by
  refine MC_of 1 (by decide) rfl (fun X C hG => ?_)
  replace C : Cx X (d + 0) 2 cX6_laysBack RX6 none := C
  show Vw LM X (d + 0) 2 0 [some (.ref 0), none] [] mh
  unfold X6_laysBack at h
  refine V_iconst (pc := 0) C (v := 0) dX6_laysBack_0 (by decide) ?_
  refine V_istore_n (pc := 1) C (lv' := [some (.ref 0), some (.int 0)]) dX6_laysBack_1 rfl (by decide) (Nat.le_of_ble_eq_true rfl) rfl rfl ?_
  refine wj1_ok (fun (mh1 : vMH) => Vw LM X (d + 0) 2 38 [some (.ref 0), none] [] mh1) h (fun mh1 h => ?_) (fun J2 hJ2 h => ?_)
  · refine V_aload_n (pc := 38) C dX6_laysBack_38 rfl rfl ?_
    refine V_aload_n (pc := 39) C dX6_laysBack_39 rfl rfl ?_
    refine V_getI (pc := 40) C CF6 fl_X6_282 LO6 (by decide) rfl dX6_laysBack_40 (v := (mh1.1 0 36)) rfl ?_
    refine V_putI (pc := 43) C CF6 fl_X6_80 LO6 (by decide) rfl rfl rfl dX6_laysBack_43 ?_
    refine V_aload_n (pc := 46) C dX6_laysBack_46 rfl rfl ?_
    refine V_aload_n (pc := 47) C dX6_laysBack_47 rfl rfl ?_
    refine V_getI (pc := 48) C CF6 fl_X6_285 LO6 (by decide) rfl dX6_laysBack_48 (v := (mh1.1 0 37)) (rd_k (by decide)) ?_
    refine V_putI (pc := 51) C CF6 fl_X6_35 LO6 (by decide) rfl rfl rfl dX6_laysBack_51 ?_
    refine V_aload_n (pc := 54) C dX6_laysBack_54 rfl rfl ?_
    refine V_aload_n (pc := 55) C dX6_laysBack_55 rfl rfl ?_
    refine V_getI (pc := 56) C CF6 fl_X6_288 LO6 (by decide) rfl dX6_laysBack_56 (v := (mh1.1 0 38)) ((rd_k (by decide)).trans (rd_k (by decide))) ?_
    refine V_putI (pc := 59) C CF6 fl_X6_276 LO6 (by decide) rfl rfl rfl dX6_laysBack_59 ?_
    refine V_aload_n (pc := 62) C dX6_laysBack_62 rfl rfl ?_
    refine V_iconst (pc := 63) C (v := 0) dX6_laysBack_63 (by decide) ?_
    refine V_putI (pc := 64) C CF6 fl_X6_260 LO6 (by decide) rfl rfl rfl dX6_laysBack_64 ?_
    refine V_aload_n (pc := 67) C dX6_laysBack_67 rfl rfl ?_
    refine V_iconst (pc := 68) C (v := 0) dX6_laysBack_68 (by decide) ?_
    refine V_putI (pc := 69) C CF6 fl_X6_263 LO6 (by decide) rfl rfl rfl dX6_laysBack_69 ?_
    exact V_ret0 (pc := 72) C (gdov h hG) dX6_laysBack_72
  · refine lq2_ok (fun (v1_3 : Int32) (mh4 : vMH) => Vw LM X (d + 0) 2 2 [some (.ref 0), some (.int v1_3)] [] mh4) h (fun rec5 hrec5 v1_3 mh4 h => ?_)
    unfold X6_laysBack_L2 at h
    refine V_iload_n (pc := 2) C dX6_laysBack_2 rfl rfl ?_
    refine V_bipush (pc := 3) C (v := 12) dX6_laysBack_3 (by decide) ?_
    refine V_icmpge (pc := 5) (tgt := 38) C dX6_laysBack_5 (by decide) (fun hc6 => ?_) (fun hc6 => ?_)
    · have h := it_t h hc6
      refine V_mask [true, false] (lv' := [some (.ref 0), none]) rfl ?_
      exact hJ2 mh4 h
    · have h := it_f h hc6
      refine V_aload_n (pc := 8) C dX6_laysBack_8 rfl rfl ?_
      refine V_getR (pc := 9) C (r' := 5) CF6 fl_X6_26 LO6 (by decide) rfl dX6_laysBack_9 ?_
      refine V_iload_n (pc := 12) C dX6_laysBack_12 rfl rfl ?_
      refine V_aload_n (pc := 13) C dX6_laysBack_13 rfl rfl ?_
      refine V_getR (pc := 14) C (r' := 8) CF6 fl_X6_38 LO6 (by decide) rfl dX6_laysBack_14 ?_
      refine V_iload_n (pc := 17) C dX6_laysBack_17 rfl rfl ?_
      obtain ⟨hi7, h⟩ := chk_ok h
      refine V_iald (pc := 18) C LAM8 hi7 dX6_laysBack_18 (v := (mh4.1 8 (jn v1_3))) rfl ?_
      refine V_iast (pc := 19) C LAM5 hi7 dX6_laysBack_19 ?_
      refine V_aload_n (pc := 20) C dX6_laysBack_20 rfl rfl ?_
      refine V_getR (pc := 21) C (r' := 6) CF6 fl_X6_29 LO6 (by decide) rfl dX6_laysBack_21 ?_
      refine V_iload_n (pc := 24) C dX6_laysBack_24 rfl rfl ?_
      refine V_aload_n (pc := 25) C dX6_laysBack_25 rfl rfl ?_
      refine V_getR (pc := 26) C (r' := 9) CF6 fl_X6_41 LO6 (by decide) rfl dX6_laysBack_26 ?_
      refine V_iload_n (pc := 29) C dX6_laysBack_29 rfl rfl ?_
      refine V_iald (pc := 30) C LAM9 hi7 dX6_laysBack_30 (v := (mh4.1 9 (jn v1_3))) (rd_ne (by decide)) ?_
      refine V_iast (pc := 31) C LAM6 hi7 dX6_laysBack_31 ?_
      refine V_iinc (pc := 32) C (v := (v1_3 + 1)) (lv' := [some (.ref 0), some (.int (v1_3 + 1))]) dX6_laysBack_32 rfl rfl (by decide) (Nat.le_of_ble_eq_true rfl) rfl rfl ?_
      refine V_goto (pc := 35) (tgt := 2) C dX6_laysBack_35 (by decide) ?_
      exact hrec5 (v1_3 + 1) (v_up (v_up mh4 5 (jn v1_3) (mh4.1 8 (jn v1_3))) 6 (jn v1_3) (mh4.1 9 (jn v1_3))) h
