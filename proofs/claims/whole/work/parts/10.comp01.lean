def X1_spells_L20 (i1 : Nat) (mh : vMH) (rec3 : Int32 → Option (Int32)) (v2_2 : Int32) : Option (Int32) := (if (Int32.ofNat (sln i1)) ≤ v2_2 then (some 1) else (chk (inb ((mh.1 6 4) + v2_2) 160) (chk (inb v2_2 (sln i1)) (if (mh.1 29 (jn ((mh.1 6 4) + v2_2))) = (sch i1 (jn v2_2)) then (rec3 (v2_2 + 1)) else (some 0)))))
def X1_spells (i1 : Nat) (mh : vMH) : Option (Int32) := (if ((mh.1 6 3) - (mh.1 6 4)) = (Int32.ofNat (sln i1)) then (lq1 4096 (X1_spells_L20 i1 mh) 0) else (some 0))
set_option maxRecDepth 100000 in
set_option maxHeartbeats 8000000 in
theorem c_X1_spells (d : Nat) {i1 : Nat} (hs1 : i1 < 12) (mh : vMH) {res : Int32} (h : X1_spells i1 mh = some res) : MC LC (d + 4) yX1_spells cX1_spells 3 (some .boolean) [.ref 6, .ref (1000 + i1)] mh (some (.int res)) mh := by
  refine MC_of 1 (by decide) rfl (fun X C hG => ?_)
  replace C : Cx X (d + 4) 3 cX1_spells RX1 (some .boolean) := C
  show Vw LC X (d + 4) 3 0 [some (.ref 6), some (.ref (1000 + i1)), none] [] mh
  unfold X1_spells at h
  refine V_aload_n (pc := 0) C dX1_spells_0 rfl rfl ?_
  refine V_getI (pc := 1) C CF1 fl_X1_19 LO1 (by decide) rfl dX1_spells_1 (v := (mh.1 6 3)) rfl ?_
  refine V_aload_n (pc := 4) C dX1_spells_4 rfl rfl ?_
  refine V_getI (pc := 5) C CF1 fl_X1_22 LO1 (by decide) rfl dX1_spells_5 (v := (mh.1 6 4)) rfl ?_
  refine V_isub (pc := 8) C dX1_spells_8 ?_
  refine V_aload_n (pc := 9) C dX1_spells_9 rfl rfl ?_
  refine V_callTi (pc := 10) (rest := [.int ((mh.1 6 3) - (mh.1 6 4))]) C hs1 cs_X1_116 (c_length (d + 2) hs1 mh) (by omega) (by decide) rfl rfl (Nat.le_of_ble_eq_true rfl) dX1_spells_10 ?_
  refine V_icmpeq (pc := 13) (tgt := 18) C dX1_spells_13 (by decide) (fun hc1 => ?_) (fun hc1 => ?_)
  · have h := it_t h hc1
    refine V_iconst (pc := 18) C (v := 0) dX1_spells_18 (by decide) ?_
    refine V_istore_n (pc := 19) C (lv' := [some (.ref 6), some (.ref (1000 + i1)), some (.int 0)]) dX1_spells_19 rfl (by decide) (Nat.le_of_ble_eq_true rfl) rfl rfl ?_
    refine lq1_ok (fun (v2_2 : Int32) => Vw LC X (d + 4) 3 20 [some (.ref 6), some (.ref (1000 + i1)), some (.int v2_2)] [] mh) h (fun rec3 hrec3 v2_2 h => ?_)
    unfold X1_spells_L20 at h
    refine V_iload_n (pc := 20) C dX1_spells_20 rfl rfl ?_
    refine V_aload_n (pc := 21) C dX1_spells_21 rfl rfl ?_
    refine V_callTi (pc := 22) (rest := [.int v2_2]) C hs1 cs_X1_116 (c_length (d + 2) hs1 mh) (by omega) (by decide) rfl rfl (Nat.le_of_ble_eq_true rfl) dX1_spells_22 ?_
    refine V_icmpge (pc := 25) (tgt := 55) C dX1_spells_25 (by decide) (fun hc4 => ?_) (fun hc4 => ?_)
    · have h := it_t h hc4
      refine V_iconst (pc := 55) C (v := 1) dX1_spells_55 (by decide) ?_
      exact V_zret (pc := 56) C rfl (gdo h hG) dX1_spells_56
    · have h := it_f h hc4
      refine V_aload_n (pc := 28) C dX1_spells_28 rfl rfl ?_
      refine V_getR (pc := 29) C (r' := 29) CF1 fl_X1_15 LO1 (by decide) rfl dX1_spells_29 ?_
      refine V_aload_n (pc := 32) C dX1_spells_32 rfl rfl ?_
      refine V_getI (pc := 33) C CF1 fl_X1_22 LO1 (by decide) rfl dX1_spells_33 (v := (mh.1 6 4)) rfl ?_
      refine V_iload_n (pc := 36) C dX1_spells_36 rfl rfl ?_
      refine V_iadd (pc := 37) C dX1_spells_37 ?_
      obtain ⟨hi5, h⟩ := chk_ok h
      refine V_iald (pc := 38) C LAC29 hi5 dX1_spells_38 (v := (mh.1 29 (jn ((mh.1 6 4) + v2_2)))) rfl ?_
      refine V_aload_n (pc := 39) C dX1_spells_39 rfl rfl ?_
      refine V_iload_n (pc := 40) C dX1_spells_40 rfl rfl ?_
      obtain ⟨hi6, h⟩ := chk_ok h
      refine V_callTi (pc := 41) (rest := [.int (mh.1 29 (jn ((mh.1 6 4) + v2_2)))]) C hs1 cs_X1_121 (c_charAt (d + 0) hs1 v2_2 mh hi6) (by omega) (by decide) rfl rfl (Nat.le_of_ble_eq_true rfl) dX1_spells_41 ?_
      refine V_icmpeq (pc := 44) (tgt := 49) C dX1_spells_44 (by decide) (fun hc7 => ?_) (fun hc7 => ?_)
      · have h := it_t h hc7
        refine V_iinc (pc := 49) C (v := (v2_2 + 1)) (lv' := [some (.ref 6), some (.ref (1000 + i1)), some (.int (v2_2 + 1))]) dX1_spells_49 rfl rfl (by decide) (Nat.le_of_ble_eq_true rfl) rfl rfl ?_
        refine V_goto (pc := 52) (tgt := 20) C dX1_spells_52 (by decide) ?_
        exact hrec3 (v2_2 + 1) h
      · have h := it_f h hc7
        refine V_iconst (pc := 47) C (v := 0) dX1_spells_47 (by decide) ?_
        exact V_zret (pc := 48) C rfl (gdo h hG) dX1_spells_48
  · have h := it_f h hc1
    refine V_iconst (pc := 16) C (v := 0) dX1_spells_16 (by decide) ?_
    exact V_zret (pc := 17) C rfl (gdo h hG) dX1_spells_17
def X1_takeWord_L0 (J2 : vMH → Option (Int32 × vMH)) (rec40 : vMH → Option (Int32 × vMH)) (mh39 : vMH) : Option (Int32 × vMH) := (if (mh39.1 6 0) ≤ (mh39.1 6 3) then (J2 mh39) else (chk (inb (mh39.1 6 3) 160) (if (X1_isLetter (mh39.1 29 (jn (mh39.1 6 3)))) = 0 then (J2 mh39) else (rec40 (v_up mh39 6 3 ((mh39.1 6 3) + 1))))))
def X1_takeWord (mh : vMH) : Option (Int32 × vMH) := (wj1 (fun (mh1 : vMH) => ((X1_spells 0 mh1).bind fun q3 => (if q3 = 0 then ((X1_spells 1 mh1).bind fun q6 => (if q6 = 0 then ((X1_spells 2 mh1).bind fun q9 => (if q9 = 0 then ((X1_spells 3 mh1).bind fun q12 => (if q12 = 0 then ((X1_spells 4 mh1).bind fun q15 => (if q15 = 0 then ((X1_spells 5 mh1).bind fun q18 => (if q18 = 0 then ((X1_spells 6 mh1).bind fun q21 => (if q21 = 0 then ((X1_spells 7 mh1).bind fun q24 => (if q24 = 0 then ((X1_spells 8 mh1).bind fun q27 => (if q27 = 0 then ((X1_spells 9 mh1).bind fun q30 => (if q30 = 0 then ((X1_spells 10 mh1).bind fun q33 => (if q33 = 0 then ((X1_spells 11 mh1).bind fun q36 => (if q36 = 0 then (some ((-20), mh1)) else (some ((-23), mh1)))) else (some ((-22), mh1)))) else (some ((-21), mh1)))) else (some ((-9), mh1)))) else (some ((-8), mh1)))) else (some ((-7), mh1)))) else (some ((-6), mh1)))) else (some ((-5), mh1)))) else (some ((-4), mh1)))) else (some ((-3), mh1)))) else (some ((-2), mh1)))) else (some ((-1), mh1))))) fun J2 => (lq1 4096 (X1_takeWord_L0 J2) mh))
set_option maxRecDepth 100000 in
set_option maxHeartbeats 8000000 in
theorem c_X1_takeWord (d : Nat)  (mh : vMH) {res : Int32 × vMH} (h : X1_takeWord mh = some res) : MC LC (d + 5) yX1_takeWord cX1_takeWord 1 (some .int) [.ref 6] mh (some (.int res.1)) res.2 := by
  refine MC_of 0 (by decide) rfl (fun X C hG => ?_)
  replace C : Cx X (d + 5) 1 cX1_takeWord RX1 (some .int) := C
  show Vw LC X (d + 5) 1 0 [some (.ref 6)] [] mh
  unfold X1_takeWord at h
  refine wj1_ok (fun (mh1 : vMH) => Vw LC X (d + 5) 1 39 [some (.ref 6)] [] mh1) h (fun mh1 h => ?_) (fun J2 hJ2 h => ?_)
  · refine V_aload_n (pc := 39) C dX1_takeWord_39 rfl rfl ?_
    refine V_ldcS (pc := 40) C (i := 0) (by decide) rfl dX1_takeWord_40 ?_
    obtain ⟨q3, hq4, h⟩ := bnd_ok h
    refine V_callVi (pc := 42) (rest := []) C cs_X1_90 (c_X1_spells (d + 0) (show 0 < 12 by decide) mh1 hq4) CF1.1 LO1 (by omega) (by decide) rfl rfl (Nat.le_of_ble_eq_true rfl) dX1_takeWord_42 ?_
    refine V_ifeq (pc := 45) (tgt := 50) C dX1_takeWord_45 (by decide) (fun hc5 => ?_) (fun hc5 => ?_)
    · have h := it_t h hc5
      refine V_aload_n (pc := 50) C dX1_takeWord_50 rfl rfl ?_
      refine V_ldcS (pc := 51) C (i := 1) (by decide) rfl dX1_takeWord_51 ?_
      obtain ⟨q6, hq7, h⟩ := bnd_ok h
      refine V_callVi (pc := 53) (rest := []) C cs_X1_90 (c_X1_spells (d + 0) (show 1 < 12 by decide) mh1 hq7) CF1.1 LO1 (by omega) (by decide) rfl rfl (Nat.le_of_ble_eq_true rfl) dX1_takeWord_53 ?_
      refine V_ifeq (pc := 56) (tgt := 62) C dX1_takeWord_56 (by decide) (fun hc8 => ?_) (fun hc8 => ?_)
      · have h := it_t h hc8
        refine V_aload_n (pc := 62) C dX1_takeWord_62 rfl rfl ?_
        refine V_ldcS (pc := 63) C (i := 2) (by decide) rfl dX1_takeWord_63 ?_
        obtain ⟨q9, hq10, h⟩ := bnd_ok h
        refine V_callVi (pc := 65) (rest := []) C cs_X1_90 (c_X1_spells (d + 0) (show 2 < 12 by decide) mh1 hq10) CF1.1 LO1 (by omega) (by decide) rfl rfl (Nat.le_of_ble_eq_true rfl) dX1_takeWord_65 ?_
        refine V_ifeq (pc := 68) (tgt := 74) C dX1_takeWord_68 (by decide) (fun hc11 => ?_) (fun hc11 => ?_)
        · have h := it_t h hc11
          refine V_aload_n (pc := 74) C dX1_takeWord_74 rfl rfl ?_
          refine V_ldcS (pc := 75) C (i := 3) (by decide) rfl dX1_takeWord_75 ?_
          obtain ⟨q12, hq13, h⟩ := bnd_ok h
          refine V_callVi (pc := 77) (rest := []) C cs_X1_90 (c_X1_spells (d + 0) (show 3 < 12 by decide) mh1 hq13) CF1.1 LO1 (by omega) (by decide) rfl rfl (Nat.le_of_ble_eq_true rfl) dX1_takeWord_77 ?_
          refine V_ifeq (pc := 80) (tgt := 86) C dX1_takeWord_80 (by decide) (fun hc14 => ?_) (fun hc14 => ?_)
          · have h := it_t h hc14
            refine V_aload_n (pc := 86) C dX1_takeWord_86 rfl rfl ?_
            refine V_ldcS (pc := 87) C (i := 4) (by decide) rfl dX1_takeWord_87 ?_
            obtain ⟨q15, hq16, h⟩ := bnd_ok h
            refine V_callVi (pc := 89) (rest := []) C cs_X1_90 (c_X1_spells (d + 0) (show 4 < 12 by decide) mh1 hq16) CF1.1 LO1 (by omega) (by decide) rfl rfl (Nat.le_of_ble_eq_true rfl) dX1_takeWord_89 ?_
            refine V_ifeq (pc := 92) (tgt := 98) C dX1_takeWord_92 (by decide) (fun hc17 => ?_) (fun hc17 => ?_)
            · have h := it_t h hc17
              refine V_aload_n (pc := 98) C dX1_takeWord_98 rfl rfl ?_
              refine V_ldcS (pc := 99) C (i := 5) (by decide) rfl dX1_takeWord_99 ?_
              obtain ⟨q18, hq19, h⟩ := bnd_ok h
              refine V_callVi (pc := 101) (rest := []) C cs_X1_90 (c_X1_spells (d + 0) (show 5 < 12 by decide) mh1 hq19) CF1.1 LO1 (by omega) (by decide) rfl rfl (Nat.le_of_ble_eq_true rfl) dX1_takeWord_101 ?_
              refine V_ifeq (pc := 104) (tgt := 110) C dX1_takeWord_104 (by decide) (fun hc20 => ?_) (fun hc20 => ?_)
              · have h := it_t h hc20
                refine V_aload_n (pc := 110) C dX1_takeWord_110 rfl rfl ?_
                refine V_ldcS (pc := 111) C (i := 6) (by decide) rfl dX1_takeWord_111 ?_
                obtain ⟨q21, hq22, h⟩ := bnd_ok h
                refine V_callVi (pc := 113) (rest := []) C cs_X1_90 (c_X1_spells (d + 0) (show 6 < 12 by decide) mh1 hq22) CF1.1 LO1 (by omega) (by decide) rfl rfl (Nat.le_of_ble_eq_true rfl) dX1_takeWord_113 ?_
                refine V_ifeq (pc := 116) (tgt := 122) C dX1_takeWord_116 (by decide) (fun hc23 => ?_) (fun hc23 => ?_)
                · have h := it_t h hc23
                  refine V_aload_n (pc := 122) C dX1_takeWord_122 rfl rfl ?_
                  refine V_ldcS (pc := 123) C (i := 7) (by decide) rfl dX1_takeWord_123 ?_
                  obtain ⟨q24, hq25, h⟩ := bnd_ok h
                  refine V_callVi (pc := 125) (rest := []) C cs_X1_90 (c_X1_spells (d + 0) (show 7 < 12 by decide) mh1 hq25) CF1.1 LO1 (by omega) (by decide) rfl rfl (Nat.le_of_ble_eq_true rfl) dX1_takeWord_125 ?_
                  refine V_ifeq (pc := 128) (tgt := 134) C dX1_takeWord_128 (by decide) (fun hc26 => ?_) (fun hc26 => ?_)
                  · have h := it_t h hc26
                    refine V_aload_n (pc := 134) C dX1_takeWord_134 rfl rfl ?_
                    refine V_ldcS (pc := 135) C (i := 8) (by decide) rfl dX1_takeWord_135 ?_
                    obtain ⟨q27, hq28, h⟩ := bnd_ok h
                    refine V_callVi (pc := 137) (rest := []) C cs_X1_90 (c_X1_spells (d + 0) (show 8 < 12 by decide) mh1 hq28) CF1.1 LO1 (by omega) (by decide) rfl rfl (Nat.le_of_ble_eq_true rfl) dX1_takeWord_137 ?_
                    refine V_ifeq (pc := 140) (tgt := 146) C dX1_takeWord_140 (by decide) (fun hc29 => ?_) (fun hc29 => ?_)
                    · have h := it_t h hc29
                      refine V_aload_n (pc := 146) C dX1_takeWord_146 rfl rfl ?_
                      refine V_ldcS (pc := 147) C (i := 9) (by decide) rfl dX1_takeWord_147 ?_
                      obtain ⟨q30, hq31, h⟩ := bnd_ok h
                      refine V_callVi (pc := 149) (rest := []) C cs_X1_90 (c_X1_spells (d + 0) (show 9 < 12 by decide) mh1 hq31) CF1.1 LO1 (by omega) (by decide) rfl rfl (Nat.le_of_ble_eq_true rfl) dX1_takeWord_149 ?_
                      refine V_ifeq (pc := 152) (tgt := 158) C dX1_takeWord_152 (by decide) (fun hc32 => ?_) (fun hc32 => ?_)
                      · have h := it_t h hc32
                        refine V_aload_n (pc := 158) C dX1_takeWord_158 rfl rfl ?_
                        refine V_ldcS (pc := 159) C (i := 10) (by decide) rfl dX1_takeWord_159 ?_
                        obtain ⟨q33, hq34, h⟩ := bnd_ok h
                        refine V_callVi (pc := 161) (rest := []) C cs_X1_90 (c_X1_spells (d + 0) (show 10 < 12 by decide) mh1 hq34) CF1.1 LO1 (by omega) (by decide) rfl rfl (Nat.le_of_ble_eq_true rfl) dX1_takeWord_161 ?_
                        refine V_ifeq (pc := 164) (tgt := 170) C dX1_takeWord_164 (by decide) (fun hc35 => ?_) (fun hc35 => ?_)
                        · have h := it_t h hc35
                          refine V_aload_n (pc := 170) C dX1_takeWord_170 rfl rfl ?_
                          refine V_ldcS (pc := 171) C (i := 11) (by decide) rfl dX1_takeWord_171 ?_
                          obtain ⟨q36, hq37, h⟩ := bnd_ok h
                          refine V_callVi (pc := 173) (rest := []) C cs_X1_90 (c_X1_spells (d + 0) (show 11 < 12 by decide) mh1 hq37) CF1.1 LO1 (by omega) (by decide) rfl rfl (Nat.le_of_ble_eq_true rfl) dX1_takeWord_173 ?_
                          refine V_ifeq (pc := 176) (tgt := 182) C dX1_takeWord_176 (by decide) (fun hc38 => ?_) (fun hc38 => ?_)
                          · have h := it_t h hc38
                            refine V_bipush (pc := 182) C (v := (-20)) dX1_takeWord_182 (by decide) ?_
                            exact V_iret (pc := 184) C (gdow h hG) dX1_takeWord_184
                          · have h := it_f h hc38
                            refine V_bipush (pc := 179) C (v := (-23)) dX1_takeWord_179 (by decide) ?_
                            exact V_iret (pc := 181) C (gdow h hG) dX1_takeWord_181
                        · have h := it_f h hc35
                          refine V_bipush (pc := 167) C (v := (-22)) dX1_takeWord_167 (by decide) ?_
                          exact V_iret (pc := 169) C (gdow h hG) dX1_takeWord_169
                      · have h := it_f h hc32
                        refine V_bipush (pc := 155) C (v := (-21)) dX1_takeWord_155 (by decide) ?_
                        exact V_iret (pc := 157) C (gdow h hG) dX1_takeWord_157
                    · have h := it_f h hc29
                      refine V_bipush (pc := 143) C (v := (-9)) dX1_takeWord_143 (by decide) ?_
                      exact V_iret (pc := 145) C (gdow h hG) dX1_takeWord_145
                  · have h := it_f h hc26
                    refine V_bipush (pc := 131) C (v := (-8)) dX1_takeWord_131 (by decide) ?_
                    exact V_iret (pc := 133) C (gdow h hG) dX1_takeWord_133
                · have h := it_f h hc23
                  refine V_bipush (pc := 119) C (v := (-7)) dX1_takeWord_119 (by decide) ?_
                  exact V_iret (pc := 121) C (gdow h hG) dX1_takeWord_121
              · have h := it_f h hc20
                refine V_bipush (pc := 107) C (v := (-6)) dX1_takeWord_107 (by decide) ?_
                exact V_iret (pc := 109) C (gdow h hG) dX1_takeWord_109
            · have h := it_f h hc17
              refine V_bipush (pc := 95) C (v := (-5)) dX1_takeWord_95 (by decide) ?_
              exact V_iret (pc := 97) C (gdow h hG) dX1_takeWord_97
          · have h := it_f h hc14
            refine V_bipush (pc := 83) C (v := (-4)) dX1_takeWord_83 (by decide) ?_
            exact V_iret (pc := 85) C (gdow h hG) dX1_takeWord_85
        · have h := it_f h hc11
          refine V_bipush (pc := 71) C (v := (-3)) dX1_takeWord_71 (by decide) ?_
          exact V_iret (pc := 73) C (gdow h hG) dX1_takeWord_73
      · have h := it_f h hc8
        refine V_bipush (pc := 59) C (v := (-2)) dX1_takeWord_59 (by decide) ?_
        exact V_iret (pc := 61) C (gdow h hG) dX1_takeWord_61
    · have h := it_f h hc5
      refine V_iconst (pc := 48) C (v := (-1)) dX1_takeWord_48 (by decide) ?_
      exact V_iret (pc := 49) C (gdow h hG) dX1_takeWord_49
  · refine lq1_ok (fun (mh39 : vMH) => Vw LC X (d + 5) 1 0 [some (.ref 6)] [] mh39) h (fun rec40 hrec40 mh39 h => ?_)
    unfold X1_takeWord_L0 at h
    refine V_aload_n (pc := 0) C dX1_takeWord_0 rfl rfl ?_
    refine V_getI (pc := 1) C CF1 fl_X1_19 LO1 (by decide) rfl dX1_takeWord_1 (v := (mh39.1 6 3)) rfl ?_
    refine V_aload_n (pc := 4) C dX1_takeWord_4 rfl rfl ?_
    refine V_getI (pc := 5) C CF1 fl_X1_9 LO1 (by decide) rfl dX1_takeWord_5 (v := (mh39.1 6 0)) rfl ?_
    refine V_icmpge (pc := 8) (tgt := 39) C dX1_takeWord_8 (by decide) (fun hc41 => ?_) (fun hc41 => ?_)
    · have h := it_t h hc41
      exact hJ2 mh39 h
    · have h := it_f h hc41
      refine V_aload_n (pc := 11) C dX1_takeWord_11 rfl rfl ?_
      refine V_getR (pc := 12) C (r' := 29) CF1 fl_X1_15 LO1 (by decide) rfl dX1_takeWord_12 ?_
      refine V_aload_n (pc := 15) C dX1_takeWord_15 rfl rfl ?_
      refine V_getI (pc := 16) C CF1 fl_X1_19 LO1 (by decide) rfl dX1_takeWord_16 (v := (mh39.1 6 3)) rfl ?_
      obtain ⟨hi42, h⟩ := chk_ok h
      refine V_iald (pc := 19) C LAC29 hi42 dX1_takeWord_19 (v := (mh39.1 29 (jn (mh39.1 6 3)))) rfl ?_
      refine V_callSi (pc := 20) (rest := []) C cs_X1_71 (c_X1_isLetter (d + 4) (mh39.1 29 (jn (mh39.1 6 3))) mh39) (by omega) (by decide) rfl rfl (Nat.le_of_ble_eq_true rfl) dX1_takeWord_20 ?_
      refine V_ifeq (pc := 23) (tgt := 39) C dX1_takeWord_23 (by decide) (fun hc43 => ?_) (fun hc43 => ?_)
      · have h := it_t h hc43
        exact hJ2 mh39 h
      · have h := it_f h hc43
        refine V_aload_n (pc := 26) C dX1_takeWord_26 rfl rfl ?_
        refine V_dup (pc := 27) C dX1_takeWord_27 rfl ?_
        refine V_getI (pc := 28) C CF1 fl_X1_19 LO1 (by decide) rfl dX1_takeWord_28 (v := (mh39.1 6 3)) rfl ?_
        refine V_iconst (pc := 31) C (v := 1) dX1_takeWord_31 (by decide) ?_
        refine V_iadd (pc := 32) C dX1_takeWord_32 ?_
        refine V_putI (pc := 33) C CF1 fl_X1_19 LO1 (by decide) rfl rfl rfl dX1_takeWord_33 ?_
        refine V_goto (pc := 36) (tgt := 0) C dX1_takeWord_36 (by decide) ?_
        exact hrec40 (v_up mh39 6 3 ((mh39.1 6 3) + 1)) h
def X1_isDigit (v0 : Int32) : Int32 := (if v0 < 48 then 0 else (if 57 < v0 then 0 else 1))
set_option maxRecDepth 100000 in
set_option maxHeartbeats 8000000 in
theorem c_X1_isDigit (d : Nat) (v0 : Int32) (mh : vMH) : MC LC (d + 0) yX1_isDigit cX1_isDigit 1 (some .boolean) [.int v0] mh (some (.int (X1_isDigit v0))) mh := by
  refine MC_of 0 (by decide) rfl (fun X C hG => ?_)
  replace C : Cx X (d + 0) 1 cX1_isDigit RX1 (some .boolean) := C
  show Vw LC X (d + 0) 1 0 [some (.int v0)] [] mh
  obtain ⟨res, h⟩ : ∃ res, X1_isDigit v0 = res := ⟨_, rfl⟩
  rw [h] at hG
  unfold X1_isDigit at h
  refine V_iload_n (pc := 0) C dX1_isDigit_0 rfl rfl ?_
  refine V_bipush (pc := 1) C (v := 48) dX1_isDigit_1 (by decide) ?_
  refine V_icmplt (pc := 3) (tgt := 16) C dX1_isDigit_3 (by decide) (fun hc1 => ?_) (fun hc1 => ?_)
  · have h := it_t h hc1
    refine V_iconst (pc := 16) C (v := 0) dX1_isDigit_16 (by decide) ?_
    exact V_zret (pc := 17) C rfl (gdt h hG) dX1_isDigit_17
  · have h := it_f h hc1
    refine V_iload_n (pc := 6) C dX1_isDigit_6 rfl rfl ?_
    refine V_bipush (pc := 7) C (v := 57) dX1_isDigit_7 (by decide) ?_
    refine V_icmpgt (pc := 9) (tgt := 16) C dX1_isDigit_9 (by decide) (fun hc2 => ?_) (fun hc2 => ?_)
    · have h := it_t h hc2
      refine V_iconst (pc := 16) C (v := 0) dX1_isDigit_16 (by decide) ?_
      exact V_zret (pc := 17) C rfl (gdt h hG) dX1_isDigit_17
    · have h := it_f h hc2
      refine V_iconst (pc := 12) C (v := 1) dX1_isDigit_12 (by decide) ?_
      refine V_goto (pc := 13) (tgt := 17) C dX1_isDigit_13 (by decide) ?_
      exact V_zret (pc := 17) C rfl (gdt h hG) dX1_isDigit_17
theorem z_X1_isDigit (v0 : Int32) : narrow .boolean (.int (X1_isDigit v0)) = .int (X1_isDigit v0) := by
  unfold X1_isDigit
  (repeat' split) <;> rfl
def X1_takeNumber_L2 (J3 : Int32 → vMH → Option (Int32 × vMH)) (rec7 : Int32 → vMH → Option (Int32 × vMH)) (v1_5 : Int32) (mh6 : vMH) : Option (Int32 × vMH) := (if (mh6.1 6 0) ≤ (mh6.1 6 3) then (J3 v1_5 mh6) else (chk (inb (mh6.1 6 3) 160) (if (X1_isDigit (mh6.1 29 (jn (mh6.1 6 3)))) = 0 then (J3 v1_5 mh6) else (rec7 (((v1_5 * 10) + (mh6.1 29 (jn (mh6.1 6 3)))) - 48) (v_up mh6 6 3 ((mh6.1 6 3) + 1))))))
def X1_takeNumber (mh : vMH) : Option (Int32 × vMH) := (wj2 (fun (v1_1 : Int32) (mh2 : vMH) => (if ((mh2.1 6 3) - (mh2.1 6 4)) ≤ 4 then (some (v1_1, mh2)) else (some ((-20), mh2)))) fun J3 => (lq2 4096 (X1_takeNumber_L2 J3) 0 mh))
set_option maxRecDepth 100000 in
set_option maxHeartbeats 8000000 in
theorem c_X1_takeNumber (d : Nat)  (mh : vMH) {res : Int32 × vMH} (h : X1_takeNumber mh = some res) : MC LC (d + 1) yX1_takeNumber cX1_takeNumber 2 (some .int) [.ref 6] mh (some (.int res.1)) res.2 := by
  refine MC_of 1 (by decide) rfl (fun X C hG => ?_)
  replace C : Cx X (d + 1) 2 cX1_takeNumber RX1 (some .int) := C
  show Vw LC X (d + 1) 2 0 [some (.ref 6), none] [] mh
  unfold X1_takeNumber at h
  refine V_iconst (pc := 0) C (v := 0) dX1_takeNumber_0 (by decide) ?_
  refine V_istore_n (pc := 1) C (lv' := [some (.ref 6), some (.int 0)]) dX1_takeNumber_1 rfl (by decide) (Nat.le_of_ble_eq_true rfl) rfl rfl ?_
  refine wj2_ok (fun (v1_1 : Int32) (mh2 : vMH) => Vw LC X (d + 1) 2 59 [some (.ref 6), some (.int v1_1)] [] mh2) h (fun v1_1 mh2 h => ?_) (fun J3 hJ3 h => ?_)
  · refine V_aload_n (pc := 59) C dX1_takeNumber_59 rfl rfl ?_
    refine V_getI (pc := 60) C CF1 fl_X1_19 LO1 (by decide) rfl dX1_takeNumber_60 (v := (mh2.1 6 3)) rfl ?_
    refine V_aload_n (pc := 63) C dX1_takeNumber_63 rfl rfl ?_
    refine V_getI (pc := 64) C CF1 fl_X1_22 LO1 (by decide) rfl dX1_takeNumber_64 (v := (mh2.1 6 4)) rfl ?_
    refine V_isub (pc := 67) C dX1_takeNumber_67 ?_
    refine V_iconst (pc := 68) C (v := 4) dX1_takeNumber_68 (by decide) ?_
    refine V_icmple (pc := 69) (tgt := 77) C dX1_takeNumber_69 (by decide) (fun hc4 => ?_) (fun hc4 => ?_)
    · have h := it_t h hc4
      refine V_iload_n (pc := 77) C dX1_takeNumber_77 rfl rfl ?_
      exact V_iret (pc := 78) C (gdow h hG) dX1_takeNumber_78
    · have h := it_f h hc4
      refine V_bipush (pc := 72) C (v := (-20)) dX1_takeNumber_72 (by decide) ?_
      refine V_goto (pc := 74) (tgt := 78) C dX1_takeNumber_74 (by decide) ?_
      exact V_iret (pc := 78) C (gdow h hG) dX1_takeNumber_78
  · refine lq2_ok (fun (v1_5 : Int32) (mh6 : vMH) => Vw LC X (d + 1) 2 2 [some (.ref 6), some (.int v1_5)] [] mh6) h (fun rec7 hrec7 v1_5 mh6 h => ?_)
    unfold X1_takeNumber_L2 at h
    refine V_aload_n (pc := 2) C dX1_takeNumber_2 rfl rfl ?_
    refine V_getI (pc := 3) C CF1 fl_X1_19 LO1 (by decide) rfl dX1_takeNumber_3 (v := (mh6.1 6 3)) rfl ?_
    refine V_aload_n (pc := 6) C dX1_takeNumber_6 rfl rfl ?_
    refine V_getI (pc := 7) C CF1 fl_X1_9 LO1 (by decide) rfl dX1_takeNumber_7 (v := (mh6.1 6 0)) rfl ?_
    refine V_icmpge (pc := 10) (tgt := 59) C dX1_takeNumber_10 (by decide) (fun hc8 => ?_) (fun hc8 => ?_)
    · have h := it_t h hc8
      exact hJ3 v1_5 mh6 h
    · have h := it_f h hc8
      refine V_aload_n (pc := 13) C dX1_takeNumber_13 rfl rfl ?_
      refine V_getR (pc := 14) C (r' := 29) CF1 fl_X1_15 LO1 (by decide) rfl dX1_takeNumber_14 ?_
      refine V_aload_n (pc := 17) C dX1_takeNumber_17 rfl rfl ?_
      refine V_getI (pc := 18) C CF1 fl_X1_19 LO1 (by decide) rfl dX1_takeNumber_18 (v := (mh6.1 6 3)) rfl ?_
      obtain ⟨hi9, h⟩ := chk_ok h
      refine V_iald (pc := 21) C LAC29 hi9 dX1_takeNumber_21 (v := (mh6.1 29 (jn (mh6.1 6 3)))) rfl ?_
      refine V_callSi (pc := 22) (rest := []) C cs_X1_78 (c_X1_isDigit (d + 0) (mh6.1 29 (jn (mh6.1 6 3))) mh6) (by omega) (by decide) rfl rfl (Nat.le_of_ble_eq_true rfl) dX1_takeNumber_22 ?_
      refine V_ifeq (pc := 25) (tgt := 59) C dX1_takeNumber_25 (by decide) (fun hc10 => ?_) (fun hc10 => ?_)
      · have h := it_t h hc10
        exact hJ3 v1_5 mh6 h
      · have h := it_f h hc10
        refine V_iload_n (pc := 28) C dX1_takeNumber_28 rfl rfl ?_
        refine V_bipush (pc := 29) C (v := 10) dX1_takeNumber_29 (by decide) ?_
        refine V_imul (pc := 31) C dX1_takeNumber_31 ?_
        refine V_aload_n (pc := 32) C dX1_takeNumber_32 rfl rfl ?_
        refine V_getR (pc := 33) C (r' := 29) CF1 fl_X1_15 LO1 (by decide) rfl dX1_takeNumber_33 ?_
        refine V_aload_n (pc := 36) C dX1_takeNumber_36 rfl rfl ?_
        refine V_getI (pc := 37) C CF1 fl_X1_19 LO1 (by decide) rfl dX1_takeNumber_37 (v := (mh6.1 6 3)) rfl ?_
        refine V_iald (pc := 40) C LAC29 hi9 dX1_takeNumber_40 (v := (mh6.1 29 (jn (mh6.1 6 3)))) rfl ?_
        refine V_iadd (pc := 41) C dX1_takeNumber_41 ?_
        refine V_bipush (pc := 42) C (v := 48) dX1_takeNumber_42 (by decide) ?_
        refine V_isub (pc := 44) C dX1_takeNumber_44 ?_
        refine V_istore_n (pc := 45) C (lv' := [some (.ref 6), some (.int (((v1_5 * 10) + (mh6.1 29 (jn (mh6.1 6 3)))) - 48))]) dX1_takeNumber_45 rfl (by decide) (Nat.le_of_ble_eq_true rfl) rfl rfl ?_
        refine V_aload_n (pc := 46) C dX1_takeNumber_46 rfl rfl ?_
        refine V_dup (pc := 47) C dX1_takeNumber_47 rfl ?_
        refine V_getI (pc := 48) C CF1 fl_X1_19 LO1 (by decide) rfl dX1_takeNumber_48 (v := (mh6.1 6 3)) rfl ?_
        refine V_iconst (pc := 51) C (v := 1) dX1_takeNumber_51 (by decide) ?_
        refine V_iadd (pc := 52) C dX1_takeNumber_52 ?_
        refine V_putI (pc := 53) C CF1 fl_X1_19 LO1 (by decide) rfl rfl rfl dX1_takeNumber_53 ?_
        refine V_goto (pc := 56) (tgt := 2) C dX1_takeNumber_56 (by decide) ?_
        exact hrec7 (((v1_5 * 10) + (mh6.1 29 (jn (mh6.1 6 3)))) - 48) (v_up mh6 6 3 ((mh6.1 6 3) + 1)) h
def X1_signOf (v0 : Int32) : Int32 := (if v0 = 40 then (-16) else (if v0 = 41 then (-17) else (if v0 = 42 then (-14) else (if v0 = 43 then (-12) else (if v0 = 45 then (-13) else (if v0 = 59 then (-18) else (if v0 = 60 then (-10) else (if v0 = 61 then (-11) else (-20)))))))))
set_option maxRecDepth 100000 in
set_option maxHeartbeats 8000000 in
theorem c_X1_signOf (d : Nat) (v0 : Int32) (mh : vMH) : MC LC (d + 0) yX1_signOf cX1_signOf 1 (some .int) [.int v0] mh (some (.int (X1_signOf v0))) mh := by
  refine MC_of 0 (by decide) rfl (fun X C hG => ?_)
  replace C : Cx X (d + 0) 1 cX1_signOf RX1 (some .int) := C
  show Vw LC X (d + 0) 1 0 [some (.int v0)] [] mh
  obtain ⟨res, h⟩ : ∃ res, X1_signOf v0 = res := ⟨_, rfl⟩
  rw [h] at hG
  unfold X1_signOf at h
  refine V_iload_n (pc := 0) C dX1_signOf_0 rfl rfl ?_
  by_cases hc1 : v0 = 40
  · have h := it_t h hc1
    refine V_tab (pc := 1) (tgt := 104) C dX1_signOf_1 (by decide) (v_tgt_k hc1 (by decide)) ?_
    refine V_bipush (pc := 104) C (v := (-16)) dX1_signOf_104 (by decide) ?_
    exact V_iret (pc := 106) C (gdt h hG) dX1_signOf_106
  · have h := it_f h hc1
    by_cases hc2 : v0 = 41
    · have h := it_t h hc2
      refine V_tab (pc := 1) (tgt := 107) C dX1_signOf_1 (by decide) (v_tgt_k hc2 (by decide)) ?_
      refine V_bipush (pc := 107) C (v := (-17)) dX1_signOf_107 (by decide) ?_
      exact V_iret (pc := 109) C (gdt h hG) dX1_signOf_109
    · have h := it_f h hc2
      by_cases hc3 : v0 = 42
      · have h := it_t h hc3
        refine V_tab (pc := 1) (tgt := 119) C dX1_signOf_1 (by decide) (v_tgt_k hc3 (by decide)) ?_
        refine V_bipush (pc := 119) C (v := (-14)) dX1_signOf_119 (by decide) ?_
        exact V_iret (pc := 121) C (gdt h hG) dX1_signOf_121
      · have h := it_f h hc3
        by_cases hc4 : v0 = 43
        · have h := it_t h hc4
          refine V_tab (pc := 1) (tgt := 113) C dX1_signOf_1 (by decide) (v_tgt_k hc4 (by decide)) ?_
          refine V_bipush (pc := 113) C (v := (-12)) dX1_signOf_113 (by decide) ?_
          exact V_iret (pc := 115) C (gdt h hG) dX1_signOf_115
        · have h := it_f h hc4
          by_cases hc5 : v0 = 45
          · have h := it_t h hc5
            refine V_tab (pc := 1) (tgt := 116) C dX1_signOf_1 (by decide) (v_tgt_k hc5 (by decide)) ?_
            refine V_bipush (pc := 116) C (v := (-13)) dX1_signOf_116 (by decide) ?_
            exact V_iret (pc := 118) C (gdt h hG) dX1_signOf_118
          · have h := it_f h hc5
            by_cases hc6 : v0 = 59
            · have h := it_t h hc6
              refine V_tab (pc := 1) (tgt := 110) C dX1_signOf_1 (by decide) (v_tgt_k hc6 (by decide)) ?_
              refine V_bipush (pc := 110) C (v := (-18)) dX1_signOf_110 (by decide) ?_
              exact V_iret (pc := 112) C (gdt h hG) dX1_signOf_112
            · have h := it_f h hc6
              by_cases hc7 : v0 = 60
              · have h := it_t h hc7
                refine V_tab (pc := 1) (tgt := 122) C dX1_signOf_1 (by decide) (v_tgt_k hc7 (by decide)) ?_
                refine V_bipush (pc := 122) C (v := (-10)) dX1_signOf_122 (by decide) ?_
                exact V_iret (pc := 124) C (gdt h hG) dX1_signOf_124
              · have h := it_f h hc7
                by_cases hc8 : v0 = 61
                · have h := it_t h hc8
                  refine V_tab (pc := 1) (tgt := 125) C dX1_signOf_1 (by decide) (v_tgt_k hc8 (by decide)) ?_
                  refine V_bipush (pc := 125) C (v := (-11)) dX1_signOf_125 (by decide) ?_
                  exact V_iret (pc := 127) C (gdt h hG) dX1_signOf_127
                · have h := it_f h hc8
                  refine V_tab (pc := 1) (tgt := 128) C dX1_signOf_1 (by decide) (v_tgt_d ⟨.inr (fun e => hc1 (e.trans (by decide))), .inr (fun e => hc2 (e.trans (by decide))), .inr (fun e => hc3 (e.trans (by decide))), .inr (fun e => hc4 (e.trans (by decide))), .inl rfl, .inr (fun e => hc5 (e.trans (by decide))), .inl rfl, .inl rfl, .inl rfl, .inl rfl, .inl rfl, .inl rfl, .inl rfl, .inl rfl, .inl rfl, .inl rfl, .inl rfl, .inl rfl, .inl rfl, .inr (fun e => hc6 (e.trans (by decide))), .inr (fun e => hc7 (e.trans (by decide))), .inr (fun e => hc8 (e.trans (by decide))), trivial⟩ (by decide)) ?_
                  refine V_bipush (pc := 128) C (v := (-20)) dX1_signOf_128 (by decide) ?_
                  exact V_iret (pc := 130) C (gdt h hG) dX1_signOf_130
def X1_advance_L0 (J2 : vMH → Option (vMH)) (rec12 : vMH → Option (vMH)) (mh11 : vMH) : Option (vMH) := (if (mh11.1 6 0) ≤ (mh11.1 6 3) then (J2 mh11) else (chk (inb (mh11.1 6 3) 160) (wj0 (rec12 (v_up mh11 6 3 ((mh11.1 6 3) + 1))) fun J15 => (if (mh11.1 29 (jn (mh11.1 6 3))) = 32 then J15 else (if (mh11.1 29 (jn (mh11.1 6 3))) = 10 then J15 else (J2 mh11))))))
def X1_advance (mh : vMH) : Option (vMH) := (wj1 (fun (mh1 : vMH) => (if (mh1.1 6 3) < (mh1.1 6 0) then (chk (inb (mh1.1 6 3) 160) (if (X1_isLetter (mh1.1 29 (jn (mh1.1 6 3)))) = 0 then (if (X1_isDigit (mh1.1 29 (jn (mh1.1 6 3)))) = 0 then (some (v_up (v_up (v_up mh1 6 4 (mh1.1 6 3)) 6 5 (X1_signOf (mh1.1 29 (jn (mh1.1 6 3))))) 6 3 ((mh1.1 6 3) + 1))) else ((X1_takeNumber (v_up mh1 6 4 (mh1.1 6 3))).bind fun q7 => (some (v_up q7.2 6 5 q7.1)))) else ((X1_takeWord (v_up mh1 6 4 (mh1.1 6 3))).bind fun q9 => (some (v_up q9.2 6 5 q9.1))))) else (some (v_up (v_up mh1 6 4 (mh1.1 6 3)) 6 5 (-19))))) fun J2 => (lq1 4096 (X1_advance_L0 J2) mh))
set_option maxRecDepth 100000 in
set_option maxHeartbeats 8000000 in
theorem c_X1_advance (d : Nat)  (mh : vMH) {res : vMH} (h : X1_advance mh = some res) : MC LC (d + 6) yX1_advance cX1_advance 1 none [.ref 6] mh none res := by
  refine MC_of 0 (by decide) rfl (fun X C hG => ?_)
  replace C : Cx X (d + 6) 1 cX1_advance RX1 none := C
  show Vw LC X (d + 6) 1 0 [some (.ref 6)] [] mh
  unfold X1_advance at h
  refine wj1_ok (fun (mh1 : vMH) => Vw LC X (d + 6) 1 52 [some (.ref 6)] [] mh1) h (fun mh1 h => ?_) (fun J2 hJ2 h => ?_)
  · refine V_aload_n (pc := 52) C dX1_advance_52 rfl rfl ?_
    refine V_aload_n (pc := 53) C dX1_advance_53 rfl rfl ?_
    refine V_getI (pc := 54) C CF1 fl_X1_19 LO1 (by decide) rfl dX1_advance_54 (v := (mh1.1 6 3)) rfl ?_
    refine V_putI (pc := 57) C CF1 fl_X1_22 LO1 (by decide) rfl rfl rfl dX1_advance_57 ?_
    refine V_aload_n (pc := 60) C dX1_advance_60 rfl rfl ?_
    refine V_getI (pc := 61) C CF1 fl_X1_19 LO1 (by decide) rfl dX1_advance_61 (v := (mh1.1 6 3)) (rd_k (by decide)) ?_
    refine V_aload_n (pc := 64) C dX1_advance_64 rfl rfl ?_
    refine V_getI (pc := 65) C CF1 fl_X1_9 LO1 (by decide) rfl dX1_advance_65 (v := (mh1.1 6 0)) (rd_k (by decide)) ?_
    refine V_icmplt (pc := 68) (tgt := 80) C dX1_advance_68 (by decide) (fun hc3 => ?_) (fun hc3 => ?_)
    · have h := it_t h hc3
      refine V_aload_n (pc := 80) C dX1_advance_80 rfl rfl ?_
      refine V_getR (pc := 81) C (r' := 29) CF1 fl_X1_15 LO1 (by decide) rfl dX1_advance_81 ?_
      refine V_aload_n (pc := 84) C dX1_advance_84 rfl rfl ?_
      refine V_getI (pc := 85) C CF1 fl_X1_19 LO1 (by decide) rfl dX1_advance_85 (v := (mh1.1 6 3)) (rd_k (by decide)) ?_
      obtain ⟨hi4, h⟩ := chk_ok h
      refine V_iald (pc := 88) C LAC29 hi4 dX1_advance_88 (v := (mh1.1 29 (jn (mh1.1 6 3)))) (rd_ao LO1 LAC29) ?_
      refine V_callSi (pc := 89) (rest := []) C cs_X1_71 (c_X1_isLetter (d + 5) (mh1.1 29 (jn (mh1.1 6 3))) (v_up mh1 6 4 (mh1.1 6 3))) (by omega) (by decide) rfl rfl (Nat.le_of_ble_eq_true rfl) dX1_advance_89 ?_
      refine V_ifeq (pc := 92) (tgt := 106) C dX1_advance_92 (by decide) (fun hc5 => ?_) (fun hc5 => ?_)
      · have h := it_t h hc5
        refine V_aload_n (pc := 106) C dX1_advance_106 rfl rfl ?_
        refine V_getR (pc := 107) C (r' := 29) CF1 fl_X1_15 LO1 (by decide) rfl dX1_advance_107 ?_
        refine V_aload_n (pc := 110) C dX1_advance_110 rfl rfl ?_
        refine V_getI (pc := 111) C CF1 fl_X1_19 LO1 (by decide) rfl dX1_advance_111 (v := (mh1.1 6 3)) (rd_k (by decide)) ?_
        refine V_iald (pc := 114) C LAC29 hi4 dX1_advance_114 (v := (mh1.1 29 (jn (mh1.1 6 3)))) (rd_ao LO1 LAC29) ?_
        refine V_callSi (pc := 115) (rest := []) C cs_X1_78 (c_X1_isDigit (d + 5) (mh1.1 29 (jn (mh1.1 6 3))) (v_up mh1 6 4 (mh1.1 6 3))) (by omega) (by decide) rfl rfl (Nat.le_of_ble_eq_true rfl) dX1_advance_115 ?_
        refine V_ifeq (pc := 118) (tgt := 132) C dX1_advance_118 (by decide) (fun hc6 => ?_) (fun hc6 => ?_)
        · have h := it_t h hc6
          refine V_aload_n (pc := 132) C dX1_advance_132 rfl rfl ?_
          refine V_aload_n (pc := 133) C dX1_advance_133 rfl rfl ?_
          refine V_getR (pc := 134) C (r' := 29) CF1 fl_X1_15 LO1 (by decide) rfl dX1_advance_134 ?_
          refine V_aload_n (pc := 137) C dX1_advance_137 rfl rfl ?_
          refine V_getI (pc := 138) C CF1 fl_X1_19 LO1 (by decide) rfl dX1_advance_138 (v := (mh1.1 6 3)) (rd_k (by decide)) ?_
          refine V_iald (pc := 141) C LAC29 hi4 dX1_advance_141 (v := (mh1.1 29 (jn (mh1.1 6 3)))) (rd_ao LO1 LAC29) ?_
          refine V_callSi (pc := 142) (rest := [.ref 6]) C cs_X1_84 (c_X1_signOf (d + 5) (mh1.1 29 (jn (mh1.1 6 3))) (v_up mh1 6 4 (mh1.1 6 3))) (by omega) (by decide) rfl rfl (Nat.le_of_ble_eq_true rfl) dX1_advance_142 ?_
          refine V_putI (pc := 145) C CF1 fl_X1_25 LO1 (by decide) rfl rfl rfl dX1_advance_145 ?_
          refine V_aload_n (pc := 148) C dX1_advance_148 rfl rfl ?_
          refine V_dup (pc := 149) C dX1_advance_149 rfl ?_
          refine V_getI (pc := 150) C CF1 fl_X1_19 LO1 (by decide) rfl dX1_advance_150 (v := (mh1.1 6 3)) ((rd_k (by decide)).trans (rd_k (by decide))) ?_
          refine V_iconst (pc := 153) C (v := 1) dX1_advance_153 (by decide) ?_
          refine V_iadd (pc := 154) C dX1_advance_154 ?_
          refine V_putI (pc := 155) C CF1 fl_X1_19 LO1 (by decide) rfl rfl rfl dX1_advance_155 ?_
          exact V_ret0 (pc := 158) C (gdov h hG) dX1_advance_158
        · have h := it_f h hc6
          refine V_aload_n (pc := 121) C dX1_advance_121 rfl rfl ?_
          refine V_aload_n (pc := 122) C dX1_advance_122 rfl rfl ?_
          obtain ⟨q7, hq8, h⟩ := bnd_ok h
          refine V_callVi (pc := 123) (rest := [.ref 6]) C cs_X1_81 (c_X1_takeNumber (d + 4) (v_up mh1 6 4 (mh1.1 6 3)) hq8) CF1.1 LO1 (by omega) (by decide) rfl rfl (Nat.le_of_ble_eq_true rfl) dX1_advance_123 ?_
          refine V_putI (pc := 126) C CF1 fl_X1_25 LO1 (by decide) rfl rfl rfl dX1_advance_126 ?_
          refine V_goto (pc := 129) (tgt := 158) C dX1_advance_129 (by decide) ?_
          exact V_ret0 (pc := 158) C (gdov h hG) dX1_advance_158
      · have h := it_f h hc5
        refine V_aload_n (pc := 95) C dX1_advance_95 rfl rfl ?_
        refine V_aload_n (pc := 96) C dX1_advance_96 rfl rfl ?_
        obtain ⟨q9, hq10, h⟩ := bnd_ok h
        refine V_callVi (pc := 97) (rest := [.ref 6]) C cs_X1_74 (c_X1_takeWord (d + 0) (v_up mh1 6 4 (mh1.1 6 3)) hq10) CF1.1 LO1 (by omega) (by decide) rfl rfl (Nat.le_of_ble_eq_true rfl) dX1_advance_97 ?_
        refine V_putI (pc := 100) C CF1 fl_X1_25 LO1 (by decide) rfl rfl rfl dX1_advance_100 ?_
        refine V_goto (pc := 103) (tgt := 158) C dX1_advance_103 (by decide) ?_
        exact V_ret0 (pc := 158) C (gdov h hG) dX1_advance_158
    · have h := it_f h hc3
      refine V_aload_n (pc := 71) C dX1_advance_71 rfl rfl ?_
      refine V_bipush (pc := 72) C (v := (-19)) dX1_advance_72 (by decide) ?_
      refine V_putI (pc := 74) C CF1 fl_X1_25 LO1 (by decide) rfl rfl rfl dX1_advance_74 ?_
      refine V_goto (pc := 77) (tgt := 158) C dX1_advance_77 (by decide) ?_
      exact V_ret0 (pc := 158) C (gdov h hG) dX1_advance_158
  · refine lq1_ok (fun (mh11 : vMH) => Vw LC X (d + 6) 1 0 [some (.ref 6)] [] mh11) h (fun rec12 hrec12 mh11 h => ?_)
    unfold X1_advance_L0 at h
    refine V_aload_n (pc := 0) C dX1_advance_0 rfl rfl ?_
    refine V_getI (pc := 1) C CF1 fl_X1_19 LO1 (by decide) rfl dX1_advance_1 (v := (mh11.1 6 3)) rfl ?_
    refine V_aload_n (pc := 4) C dX1_advance_4 rfl rfl ?_
    refine V_getI (pc := 5) C CF1 fl_X1_9 LO1 (by decide) rfl dX1_advance_5 (v := (mh11.1 6 0)) rfl ?_
    refine V_icmpge (pc := 8) (tgt := 52) C dX1_advance_8 (by decide) (fun hc13 => ?_) (fun hc13 => ?_)
    · have h := it_t h hc13
      exact hJ2 mh11 h
    · have h := it_f h hc13
      refine V_aload_n (pc := 11) C dX1_advance_11 rfl rfl ?_
      refine V_getR (pc := 12) C (r' := 29) CF1 fl_X1_15 LO1 (by decide) rfl dX1_advance_12 ?_
      refine V_aload_n (pc := 15) C dX1_advance_15 rfl rfl ?_
      refine V_getI (pc := 16) C CF1 fl_X1_19 LO1 (by decide) rfl dX1_advance_16 (v := (mh11.1 6 3)) rfl ?_
      obtain ⟨hi14, h⟩ := chk_ok h
      refine V_iald (pc := 19) C LAC29 hi14 dX1_advance_19 (v := (mh11.1 29 (jn (mh11.1 6 3)))) rfl ?_
      refine V_bipush (pc := 20) C (v := 32) dX1_advance_20 (by decide) ?_
      refine wj0_ok (Vw LC X (d + 6) 1 39 [some (.ref 6)] [] mh11) h (fun h => ?_) (fun J15 hJ15 h => ?_)
      · refine V_aload_n (pc := 39) C dX1_advance_39 rfl rfl ?_
        refine V_dup (pc := 40) C dX1_advance_40 rfl ?_
        refine V_getI (pc := 41) C CF1 fl_X1_19 LO1 (by decide) rfl dX1_advance_41 (v := (mh11.1 6 3)) rfl ?_
        refine V_iconst (pc := 44) C (v := 1) dX1_advance_44 (by decide) ?_
        refine V_iadd (pc := 45) C dX1_advance_45 ?_
        refine V_putI (pc := 46) C CF1 fl_X1_19 LO1 (by decide) rfl rfl rfl dX1_advance_46 ?_
        refine V_goto (pc := 49) (tgt := 0) C dX1_advance_49 (by decide) ?_
        exact hrec12 (v_up mh11 6 3 ((mh11.1 6 3) + 1)) h
      · refine V_icmpeq (pc := 22) (tgt := 39) C dX1_advance_22 (by decide) (fun hc16 => ?_) (fun hc16 => ?_)
        · have h := it_t h hc16
          exact hJ15 h
        · have h := it_f h hc16
          refine V_aload_n (pc := 25) C dX1_advance_25 rfl rfl ?_
          refine V_getR (pc := 26) C (r' := 29) CF1 fl_X1_15 LO1 (by decide) rfl dX1_advance_26 ?_
          refine V_aload_n (pc := 29) C dX1_advance_29 rfl rfl ?_
          refine V_getI (pc := 30) C CF1 fl_X1_19 LO1 (by decide) rfl dX1_advance_30 (v := (mh11.1 6 3)) rfl ?_
          refine V_iald (pc := 33) C LAC29 hi14 dX1_advance_33 (v := (mh11.1 29 (jn (mh11.1 6 3)))) rfl ?_
          refine V_bipush (pc := 34) C (v := 10) dX1_advance_34 (by decide) ?_
          refine V_icmpne (pc := 36) (tgt := 52) C dX1_advance_36 (by decide) (fun hc17 => ?_) (fun hc17 => ?_)
          · have h := it_f h hc17
            exact hJ2 mh11 h
          · have h := it_t h hc17
            exact hJ15 h
def X1_refuse (mh : vMH) : vMH := (wj1 (fun (mh1 : vMH) => (v_up mh1 6 5 (-20))) fun J2 => (if (mh.1 6 6) = (-1) then (J2 (v_up mh 6 6 (mh.1 6 4))) else (J2 mh)))
set_option maxRecDepth 100000 in
set_option maxHeartbeats 8000000 in
theorem c_X1_refuse (d : Nat)  (mh : vMH) : MC LC (d + 0) yX1_refuse cX1_refuse 1 none [.ref 6] mh none (X1_refuse mh) := by
  refine MC_of 0 (by decide) rfl (fun X C hG => ?_)
  replace C : Cx X (d + 0) 1 cX1_refuse RX1 none := C
  show Vw LC X (d + 0) 1 0 [some (.ref 6)] [] mh
  obtain ⟨res, h⟩ : ∃ res, X1_refuse mh = res := ⟨_, rfl⟩
  rw [h] at hG
  unfold X1_refuse at h
  refine V_aload_n (pc := 0) C dX1_refuse_0 rfl rfl ?_
  refine V_getI (pc := 1) C CF1 fl_X1_28 LO1 (by decide) rfl dX1_refuse_1 (v := (mh.1 6 6)) rfl ?_
  refine V_iconst (pc := 4) C (v := (-1)) dX1_refuse_4 (by decide) ?_
  refine wj1_ok (fun (mh1 : vMH) => Vw LC X (d + 0) 1 16 [some (.ref 6)] [] mh1) h (fun mh1 h => ?_) (fun J2 hJ2 h => ?_)
  · refine V_aload_n (pc := 16) C dX1_refuse_16 rfl rfl ?_
    refine V_bipush (pc := 17) C (v := (-20)) dX1_refuse_17 (by decide) ?_
    refine V_putI (pc := 19) C CF1 fl_X1_25 LO1 (by decide) rfl rfl rfl dX1_refuse_19 ?_
    exact V_ret0 (pc := 22) C (gdtv h hG) dX1_refuse_22
  · refine V_icmpne (pc := 5) (tgt := 16) C dX1_refuse_5 (by decide) (fun hc3 => ?_) (fun hc3 => ?_)
    · have h := it_f h hc3
      exact hJ2 mh h
    · have h := it_t h hc3
      refine V_aload_n (pc := 8) C dX1_refuse_8 rfl rfl ?_
      refine V_aload_n (pc := 9) C dX1_refuse_9 rfl rfl ?_
      refine V_getI (pc := 10) C CF1 fl_X1_22 LO1 (by decide) rfl dX1_refuse_10 (v := (mh.1 6 4)) rfl ?_
      refine V_putI (pc := 13) C CF1 fl_X1_28 LO1 (by decide) rfl rfl rfl dX1_refuse_13 ?_
      exact hJ2 (v_up mh 6 6 (mh.1 6 4)) h
def X1_expect (v1 : Int32) (mh : vMH) : Option (vMH) := (if (mh.1 6 5) = v1 then ((X1_advance mh).bind fun q2 => (some q2)) else (some (X1_refuse mh)))
set_option maxRecDepth 100000 in
set_option maxHeartbeats 8000000 in
theorem c_X1_expect (d : Nat) (v1 : Int32) (mh : vMH) {res : vMH} (h : X1_expect v1 mh = some res) : MC LC (d + 7) yX1_expect cX1_expect 2 none [.ref 6, .int v1] mh none res := by
  refine MC_of 0 (by decide) rfl (fun X C hG => ?_)
  replace C : Cx X (d + 7) 2 cX1_expect RX1 none := C
  show Vw LC X (d + 7) 2 0 [some (.ref 6), some (.int v1)] [] mh
  unfold X1_expect at h
  refine V_aload_n (pc := 0) C dX1_expect_0 rfl rfl ?_
  refine V_getI (pc := 1) C CF1 fl_X1_25 LO1 (by decide) rfl dX1_expect_1 (v := (mh.1 6 5)) rfl ?_
  refine V_iload_n (pc := 4) C dX1_expect_4 rfl rfl ?_
  refine V_icmpne (pc := 5) (tgt := 15) C dX1_expect_5 (by decide) (fun hc1 => ?_) (fun hc1 => ?_)
  · have h := it_f h hc1
    refine V_aload_n (pc := 15) C dX1_expect_15 rfl rfl ?_
    refine V_callVv (pc := 16) (rest := []) C cs_X1_54 (c_X1_refuse (d + 6) mh) CF1.1 LO1 (by omega) (by decide) rfl rfl (Nat.le_of_ble_eq_true rfl) dX1_expect_16 ?_
    exact V_ret0 (pc := 19) C (gdov h hG) dX1_expect_19
  · have h := it_t h hc1
    refine V_aload_n (pc := 8) C dX1_expect_8 rfl rfl ?_
    obtain ⟨q2, hq3, h⟩ := bnd_ok h
    refine V_callVv (pc := 9) (rest := []) C cs_X1_40 (c_X1_advance (d + 0) mh hq3) CF1.1 LO1 (by omega) (by decide) rfl rfl (Nat.le_of_ble_eq_true rfl) dX1_expect_9 ?_
    refine V_goto (pc := 12) (tgt := 19) C dX1_expect_12 (by decide) ?_
    exact V_ret0 (pc := 19) C (gdov h hG) dX1_expect_19
def X1_mayOpen (v1 : Int32) (mh : vMH) : Option (Int32 × vMH) := (if v1 < 5 then ((X1_advance mh).bind fun q2 => (some (1, q2))) else (some (0, (X1_refuse mh))))
set_option maxRecDepth 100000 in
set_option maxHeartbeats 8000000 in
theorem c_X1_mayOpen (d : Nat) (v1 : Int32) (mh : vMH) {res : Int32 × vMH} (h : X1_mayOpen v1 mh = some res) : MC LC (d + 7) yX1_mayOpen cX1_mayOpen 2 (some .boolean) [.ref 6, .int v1] mh (some (.int res.1)) res.2 := by
  refine MC_of 0 (by decide) rfl (fun X C hG => ?_)
  replace C : Cx X (d + 7) 2 cX1_mayOpen RX1 (some .boolean) := C
  show Vw LC X (d + 7) 2 0 [some (.ref 6), some (.int v1)] [] mh
  unfold X1_mayOpen at h
  refine V_iload_n (pc := 0) C dX1_mayOpen_0 rfl rfl ?_
  refine V_iconst (pc := 1) C (v := 5) dX1_mayOpen_1 (by decide) ?_
  refine V_icmplt (pc := 2) (tgt := 11) C dX1_mayOpen_2 (by decide) (fun hc1 => ?_) (fun hc1 => ?_)
  · have h := it_t h hc1
    refine V_aload_n (pc := 11) C dX1_mayOpen_11 rfl rfl ?_
    obtain ⟨q2, hq3, h⟩ := bnd_ok h
    refine V_callVv (pc := 12) (rest := []) C cs_X1_40 (c_X1_advance (d + 0) mh hq3) CF1.1 LO1 (by omega) (by decide) rfl rfl (Nat.le_of_ble_eq_true rfl) dX1_mayOpen_12 ?_
    refine V_iconst (pc := 15) C (v := 1) dX1_mayOpen_15 (by decide) ?_
    exact V_zret (pc := 16) C rfl (gdow h hG) dX1_mayOpen_16
  · have h := it_f h hc1
    refine V_aload_n (pc := 5) C dX1_mayOpen_5 rfl rfl ?_
    refine V_callVv (pc := 6) (rest := []) C cs_X1_54 (c_X1_refuse (d + 6) mh) CF1.1 LO1 (by omega) (by decide) rfl rfl (Nat.le_of_ble_eq_true rfl) dX1_mayOpen_6 ?_
    refine V_iconst (pc := 9) C (v := 0) dX1_mayOpen_9 (by decide) ?_
    exact V_zret (pc := 10) C rfl (gdow h hG) dX1_mayOpen_10
def X3_write (v1 : Int32) (mh : vMH) : Option (vMH) := (if (mh.1 5 5) < 0 then (some mh) else (if 960 ≤ (mh.1 5 5) then (some mh) else (chk (inb (mh.1 5 5) 960) (some (v_up (v_up mh 25 (jn (mh.1 5 5)) v1) 5 5 ((mh.1 5 5) + 1))))))
set_option maxRecDepth 100000 in
set_option maxHeartbeats 8000000 in
theorem c_X3_write (d : Nat) (v1 : Int32) (mh : vMH) {res : vMH} (h : X3_write v1 mh = some res) : MC LC (d + 0) yX3_write cX3_write 2 none [.ref 5, .int v1] mh none res := by
  refine MC_of 0 (by decide) rfl (fun X C hG => ?_)
  replace C : Cx X (d + 0) 2 cX3_write RX3 none := C
  show Vw LC X (d + 0) 2 0 [some (.ref 5), some (.int v1)] [] mh
  unfold X3_write at h
  refine V_aload_n (pc := 0) C dX3_write_0 rfl rfl ?_
  refine V_getI (pc := 1) C CF3 fl_X3_28 LO3 (by decide) rfl dX3_write_1 (v := (mh.1 5 5)) rfl ?_
  refine V_iflt (pc := 4) (tgt := 39) C dX3_write_4 (by decide) (fun hc1 => ?_) (fun hc1 => ?_)
  · have h := it_t h hc1
    exact V_ret0 (pc := 39) C (gdov h hG) dX3_write_39
  · have h := it_f h hc1
    refine V_aload_n (pc := 7) C dX3_write_7 rfl rfl ?_
    refine V_getI (pc := 8) C CF3 fl_X3_28 LO3 (by decide) rfl dX3_write_8 (v := (mh.1 5 5)) rfl ?_
    refine V_aload_n (pc := 11) C dX3_write_11 rfl rfl ?_
    refine V_getR (pc := 12) C (r' := 25) CF3 fl_X3_15 LO3 (by decide) rfl dX3_write_12 ?_
    refine V_alen (pc := 15) C LAC25 (v := 960) (by decide) dX3_write_15 ?_
    refine V_icmpge (pc := 16) (tgt := 39) C dX3_write_16 (by decide) (fun hc2 => ?_) (fun hc2 => ?_)
    · have h := it_t h hc2
      exact V_ret0 (pc := 39) C (gdov h hG) dX3_write_39
    · have h := it_f h hc2
      refine V_aload_n (pc := 19) C dX3_write_19 rfl rfl ?_
      refine V_getR (pc := 20) C (r' := 25) CF3 fl_X3_15 LO3 (by decide) rfl dX3_write_20 ?_
      refine V_aload_n (pc := 23) C dX3_write_23 rfl rfl ?_
      refine V_getI (pc := 24) C CF3 fl_X3_28 LO3 (by decide) rfl dX3_write_24 (v := (mh.1 5 5)) rfl ?_
      refine V_iload_n (pc := 27) C dX3_write_27 rfl rfl ?_
      obtain ⟨hi3, h⟩ := chk_ok h
      refine V_iast (pc := 28) C LAC25 hi3 dX3_write_28 ?_
      refine V_aload_n (pc := 29) C dX3_write_29 rfl rfl ?_
      refine V_dup (pc := 30) C dX3_write_30 rfl ?_
      refine V_getI (pc := 31) C CF3 fl_X3_28 LO3 (by decide) rfl dX3_write_31 (v := (mh.1 5 5)) (rd_oa LO3 LAC25) ?_
      refine V_iconst (pc := 34) C (v := 1) dX3_write_34 (by decide) ?_
      refine V_iadd (pc := 35) C dX3_write_35 ?_
      refine V_putI (pc := 36) C CF3 fl_X3_28 LO3 (by decide) rfl rfl rfl dX3_write_36 ?_
      exact V_ret0 (pc := 39) C (gdov h hG) dX3_write_39
def X1_isJoint (v0 : Int32) (v1 : Int32) : Int32 := (if v0 = 0 then (if v1 = (-7) then 1 else 0) else (if v0 = 1 then (if v1 = (-8) then 1 else 0) else (if v0 = 2 then (if v1 = (-10) then 1 else (if v1 = (-11) then 1 else 0)) else (if v0 = 3 then (if v1 = (-12) then 1 else (if v1 = (-13) then 1 else 0)) else (if v0 = 4 then (if v1 = (-14) then 1 else 0) else 0)))))
set_option maxRecDepth 100000 in
set_option maxHeartbeats 8000000 in
theorem c_X1_isJoint (d : Nat) (v0 : Int32) (v1 : Int32) (mh : vMH) : MC LC (d + 0) yX1_isJoint cX1_isJoint 2 (some .boolean) [.int v0, .int v1] mh (some (.int (X1_isJoint v0 v1))) mh := by
  refine MC_of 0 (by decide) rfl (fun X C hG => ?_)
  replace C : Cx X (d + 0) 2 cX1_isJoint RX1 (some .boolean) := C
  show Vw LC X (d + 0) 2 0 [some (.int v0), some (.int v1)] [] mh
  obtain ⟨res, h⟩ : ∃ res, X1_isJoint v0 v1 = res := ⟨_, rfl⟩
  rw [h] at hG
  unfold X1_isJoint at h
  refine V_iload_n (pc := 0) C dX1_isJoint_0 rfl rfl ?_
  by_cases hc1 : v0 = 0
  · have h := it_t h hc1
    refine V_tab (pc := 1) (tgt := 32) C dX1_isJoint_1 (by decide) (v_tgt_k hc1 (by decide)) ?_
    refine V_iload_n (pc := 32) C dX1_isJoint_32 rfl rfl ?_
    refine V_bipush (pc := 33) C (v := (-7)) dX1_isJoint_33 (by decide) ?_
    refine V_icmpne (pc := 35) (tgt := 42) C dX1_isJoint_35 (by decide) (fun hc2 => ?_) (fun hc2 => ?_)
    · have h := it_f h hc2
      refine V_iconst (pc := 42) C (v := 0) dX1_isJoint_42 (by decide) ?_
      exact V_zret (pc := 43) C rfl (gdt h hG) dX1_isJoint_43
    · have h := it_t h hc2
      refine V_iconst (pc := 38) C (v := 1) dX1_isJoint_38 (by decide) ?_
      refine V_goto (pc := 39) (tgt := 43) C dX1_isJoint_39 (by decide) ?_
      exact V_zret (pc := 43) C rfl (gdt h hG) dX1_isJoint_43
  · have h := it_f h hc1
    by_cases hc3 : v0 = 1
    · have h := it_t h hc3
      refine V_tab (pc := 1) (tgt := 44) C dX1_isJoint_1 (by decide) (v_tgt_k hc3 (by decide)) ?_
      refine V_iload_n (pc := 44) C dX1_isJoint_44 rfl rfl ?_
      refine V_bipush (pc := 45) C (v := (-8)) dX1_isJoint_45 (by decide) ?_
      refine V_icmpne (pc := 47) (tgt := 54) C dX1_isJoint_47 (by decide) (fun hc4 => ?_) (fun hc4 => ?_)
      · have h := it_f h hc4
        refine V_iconst (pc := 54) C (v := 0) dX1_isJoint_54 (by decide) ?_
        exact V_zret (pc := 55) C rfl (gdt h hG) dX1_isJoint_55
      · have h := it_t h hc4
        refine V_iconst (pc := 50) C (v := 1) dX1_isJoint_50 (by decide) ?_
        refine V_goto (pc := 51) (tgt := 55) C dX1_isJoint_51 (by decide) ?_
        exact V_zret (pc := 55) C rfl (gdt h hG) dX1_isJoint_55
    · have h := it_f h hc3
      by_cases hc5 : v0 = 2
      · have h := it_t h hc5
        refine V_tab (pc := 1) (tgt := 56) C dX1_isJoint_1 (by decide) (v_tgt_k hc5 (by decide)) ?_
        refine V_iload_n (pc := 56) C dX1_isJoint_56 rfl rfl ?_
        refine V_bipush (pc := 57) C (v := (-10)) dX1_isJoint_57 (by decide) ?_
        refine V_icmpeq (pc := 59) (tgt := 68) C dX1_isJoint_59 (by decide) (fun hc6 => ?_) (fun hc6 => ?_)
        · have h := it_t h hc6
          refine V_iconst (pc := 68) C (v := 1) dX1_isJoint_68 (by decide) ?_
          refine V_goto (pc := 69) (tgt := 73) C dX1_isJoint_69 (by decide) ?_
          exact V_zret (pc := 73) C rfl (gdt h hG) dX1_isJoint_73
        · have h := it_f h hc6
          refine V_iload_n (pc := 62) C dX1_isJoint_62 rfl rfl ?_
          refine V_bipush (pc := 63) C (v := (-11)) dX1_isJoint_63 (by decide) ?_
          refine V_icmpne (pc := 65) (tgt := 72) C dX1_isJoint_65 (by decide) (fun hc7 => ?_) (fun hc7 => ?_)
          · have h := it_f h hc7
            refine V_iconst (pc := 72) C (v := 0) dX1_isJoint_72 (by decide) ?_
            exact V_zret (pc := 73) C rfl (gdt h hG) dX1_isJoint_73
          · have h := it_t h hc7
            refine V_iconst (pc := 68) C (v := 1) dX1_isJoint_68 (by decide) ?_
            refine V_goto (pc := 69) (tgt := 73) C dX1_isJoint_69 (by decide) ?_
            exact V_zret (pc := 73) C rfl (gdt h hG) dX1_isJoint_73
      · have h := it_f h hc5
        by_cases hc8 : v0 = 3
        · have h := it_t h hc8
          refine V_tab (pc := 1) (tgt := 74) C dX1_isJoint_1 (by decide) (v_tgt_k hc8 (by decide)) ?_
          refine V_iload_n (pc := 74) C dX1_isJoint_74 rfl rfl ?_
          refine V_bipush (pc := 75) C (v := (-12)) dX1_isJoint_75 (by decide) ?_
          refine V_icmpeq (pc := 77) (tgt := 86) C dX1_isJoint_77 (by decide) (fun hc9 => ?_) (fun hc9 => ?_)
          · have h := it_t h hc9
            refine V_iconst (pc := 86) C (v := 1) dX1_isJoint_86 (by decide) ?_
            refine V_goto (pc := 87) (tgt := 91) C dX1_isJoint_87 (by decide) ?_
            exact V_zret (pc := 91) C rfl (gdt h hG) dX1_isJoint_91
          · have h := it_f h hc9
            refine V_iload_n (pc := 80) C dX1_isJoint_80 rfl rfl ?_
            refine V_bipush (pc := 81) C (v := (-13)) dX1_isJoint_81 (by decide) ?_
            refine V_icmpne (pc := 83) (tgt := 90) C dX1_isJoint_83 (by decide) (fun hc10 => ?_) (fun hc10 => ?_)
            · have h := it_f h hc10
              refine V_iconst (pc := 90) C (v := 0) dX1_isJoint_90 (by decide) ?_
              exact V_zret (pc := 91) C rfl (gdt h hG) dX1_isJoint_91
            · have h := it_t h hc10
              refine V_iconst (pc := 86) C (v := 1) dX1_isJoint_86 (by decide) ?_
              refine V_goto (pc := 87) (tgt := 91) C dX1_isJoint_87 (by decide) ?_
              exact V_zret (pc := 91) C rfl (gdt h hG) dX1_isJoint_91
        · have h := it_f h hc8
          refine V_tab (pc := 1) (tgt := 92) C dX1_isJoint_1 (by decide) (v_tgt_d ⟨.inr (fun e => hc1 (e.trans (by decide))), .inr (fun e => hc3 (e.trans (by decide))), .inr (fun e => hc5 (e.trans (by decide))), .inr (fun e => hc8 (e.trans (by decide))), trivial⟩ (by decide)) ?_
          refine V_iload_n (pc := 92) C dX1_isJoint_92 rfl rfl ?_
          refine V_iconst (pc := 93) C (v := 4) dX1_isJoint_93 (by decide) ?_
          refine V_icmpne (pc := 94) (tgt := 107) C dX1_isJoint_94 (by decide) (fun hc11 => ?_) (fun hc11 => ?_)
          · have h := it_f h hc11
            refine V_iconst (pc := 107) C (v := 0) dX1_isJoint_107 (by decide) ?_
            exact V_zret (pc := 108) C rfl (gdt h hG) dX1_isJoint_108
          · have h := it_t h hc11
            refine V_iload_n (pc := 97) C dX1_isJoint_97 rfl rfl ?_
            refine V_bipush (pc := 98) C (v := (-14)) dX1_isJoint_98 (by decide) ?_
            refine V_icmpne (pc := 100) (tgt := 107) C dX1_isJoint_100 (by decide) (fun hc12 => ?_) (fun hc12 => ?_)
            · have h := it_f h hc12
              refine V_iconst (pc := 107) C (v := 0) dX1_isJoint_107 (by decide) ?_
              exact V_zret (pc := 108) C rfl (gdt h hG) dX1_isJoint_108
            · have h := it_t h hc12
              refine V_iconst (pc := 103) C (v := 1) dX1_isJoint_103 (by decide) ?_
              refine V_goto (pc := 104) (tgt := 108) C dX1_isJoint_104 (by decide) ?_
              exact V_zret (pc := 108) C rfl (gdt h hG) dX1_isJoint_108
theorem z_X1_isJoint (v0 : Int32) (v1 : Int32) : narrow .boolean (.int (X1_isJoint v0 v1)) = .int (X1_isJoint v0 v1) := by
  unfold X1_isJoint
  (repeat' split) <;> rfl
def X1_readRank_L75 (v1 : Int32) (v2 : Int32) (s5 : Int32) (R_readRank : Int32 → Int32 → vMH → Option (vMH)) (rec9 : Int32 → vMH → Option (vMH)) (v4_7 : Int32) (mh8 : vMH) : Option (vMH) := (if s5 ≤ v4_7 then (some mh8) else (if (X1_isJoint v1 (mh8.1 6 5)) = 0 then (some mh8) else ((X1_advance mh8).bind fun q12 => ((R_readRank (v1 + 1) v2 q12).bind fun q14 => ((X3_write (mh8.1 6 5) q14).bind fun q16 => (rec9 (v4_7 + 1) q16))))))
def X1_readRank_B (R_readRank : Int32 → Int32 → vMH → Option (vMH)) (R_readOne : Int32 → vMH → Option (vMH)) (v1 : Int32) (v2 : Int32) (mh : vMH) : Option (vMH) := (if v1 < 5 then (wj0 ((R_readRank (v1 + 1) v2 mh).bind fun q3 => (wj1 (fun (s5 : Int32) => (lq2 4096 (X1_readRank_L75 v1 v2 s5 R_readRank) 0 q3)) fun J6 => (if v1 = 2 then (J6 1) else (J6 160)))) fun J2 => (if v1 = 2 then (if (mh.1 6 5) = (-9) then ((X1_mayOpen v2 mh).bind fun q21 => (if q21.1 = 0 then (some q21.2) else ((R_readRank 2 (v2 + 1) q21.2).bind fun q24 => ((X3_write (-9) q24).bind fun q26 => (some q26))))) else J2) else J2)) else ((R_readOne v2 mh).bind fun q28 => (some q28)))
set_option maxRecDepth 100000 in
set_option maxHeartbeats 8000000 in
theorem c_X1_readRank_B (d : Nat) (R_readRank : Int32 → Int32 → vMH → Option (vMH)) (R_readOne : Int32 → vMH → Option (vMH)) (v1 : Int32) (v2 : Int32) (mh : vMH) (hR_readRank : ∀ (v1 : Int32) (v2 : Int32) (mh : vMH) {res : vMH}, R_readRank v1 v2 mh = some res → MC LC (d + 7) yX1_readRank cX1_readRank 6 none [.ref 6, .int v1, .int v2] mh none res) (hR_readOne : ∀ (v1 : Int32) (mh : vMH) {res : vMH}, R_readOne v1 mh = some res → MC LC (d + 7) yX1_readOne cX1_readOne 2 none [.ref 6, .int v1] mh none res) {res : vMH} (h : X1_readRank_B R_readRank R_readOne v1 v2 mh = some res) : MC LC (d + 8) yX1_readRank cX1_readRank 6 none [.ref 6, .int v1, .int v2] mh none res := by
  refine MC_of 3 (by decide) rfl (fun X C hG => ?_)
  replace C : Cx X (d + 8) 6 cX1_readRank RX1 none := C
  show Vw LC X (d + 8) 6 0 [some (.ref 6), some (.int v1), some (.int v2), none, none, none] [] mh
  unfold X1_readRank_B at h
  refine V_iload_n (pc := 0) C dX1_readRank_0 rfl rfl ?_
  refine V_iconst (pc := 1) C (v := 5) dX1_readRank_1 (by decide) ?_
  refine V_icmplt (pc := 2) (tgt := 11) C dX1_readRank_2 (by decide) (fun hc1 => ?_) (fun hc1 => ?_)
  · have h := it_t h hc1
    refine V_iload_n (pc := 11) C dX1_readRank_11 rfl rfl ?_
    refine V_iconst (pc := 12) C (v := 2) dX1_readRank_12 (by decide) ?_
    refine wj0_ok (Vw LC X (d + 8) 6 51 [some (.ref 6), some (.int v1), some (.int v2), none, none, none] [] mh) h (fun h => ?_) (fun J2 hJ2 h => ?_)
    · refine V_aload_n (pc := 51) C dX1_readRank_51 rfl rfl ?_
      refine V_iload_n (pc := 52) C dX1_readRank_52 rfl rfl ?_
      refine V_iconst (pc := 53) C (v := 1) dX1_readRank_53 (by decide) ?_
      refine V_iadd (pc := 54) C dX1_readRank_54 ?_
      refine V_iload_n (pc := 55) C dX1_readRank_55 rfl rfl ?_
      obtain ⟨q3, hq4, h⟩ := bnd_ok h
      refine V_callVv (pc := 56) (rest := []) C cs_X1_47 (hR_readRank (v1 + 1) v2 mh hq4) CF1.1 LO1 (by omega) (by decide) rfl rfl (Nat.le_of_ble_eq_true rfl) dX1_readRank_56 ?_
      refine V_iload_n (pc := 59) C dX1_readRank_59 rfl rfl ?_
      refine V_iconst (pc := 60) C (v := 2) dX1_readRank_60 (by decide) ?_
      refine wj1_ok (fun (s5 : Int32) => Vw LC X (d + 8) 6 71 [some (.ref 6), some (.int v1), some (.int v2), none, none, none] [.int s5] q3) h (fun s5 h => ?_) (fun J6 hJ6 h => ?_)
      · refine V_istore_n (pc := 71) C (lv' := [some (.ref 6), some (.int v1), some (.int v2), some (.int s5), none, none]) dX1_readRank_71 rfl (by decide) (Nat.le_of_ble_eq_true rfl) rfl rfl ?_
        refine V_iconst (pc := 72) C (v := 0) dX1_readRank_72 (by decide) ?_
        refine V_istore (pc := 73) C (lv' := [some (.ref 6), some (.int v1), some (.int v2), some (.int s5), some (.int 0), none]) dX1_readRank_73 (by decide) (Nat.le_of_ble_eq_true rfl) rfl rfl ?_
        refine lq2_ok (fun (v4_7 : Int32) (mh8 : vMH) => Vw LC X (d + 8) 6 75 [some (.ref 6), some (.int v1), some (.int v2), some (.int s5), some (.int v4_7), none] [] mh8) h (fun rec9 hrec9 v4_7 mh8 h => ?_)
        unfold X1_readRank_L75 at h
        refine V_iload (pc := 75) C dX1_readRank_75 rfl ?_
        refine V_iload_n (pc := 77) C dX1_readRank_77 rfl rfl ?_
        refine V_icmpge (pc := 78) (tgt := 125) C dX1_readRank_78 (by decide) (fun hc10 => ?_) (fun hc10 => ?_)
        · have h := it_t h hc10
          exact V_ret0 (pc := 125) C (gdov h hG) dX1_readRank_125
        · have h := it_f h hc10
          refine V_iload_n (pc := 81) C dX1_readRank_81 rfl rfl ?_
          refine V_aload_n (pc := 82) C dX1_readRank_82 rfl rfl ?_
          refine V_getI (pc := 83) C CF1 fl_X1_25 LO1 (by decide) rfl dX1_readRank_83 (v := (mh8.1 6 5)) rfl ?_
          refine V_callSi (pc := 86) (rest := []) C cs_X1_67 (c_X1_isJoint (d + 7) v1 (mh8.1 6 5) mh8) (by omega) (by decide) rfl rfl (Nat.le_of_ble_eq_true rfl) dX1_readRank_86 ?_
          refine V_ifeq (pc := 89) (tgt := 125) C dX1_readRank_89 (by decide) (fun hc11 => ?_) (fun hc11 => ?_)
          · have h := it_t h hc11
            exact V_ret0 (pc := 125) C (gdov h hG) dX1_readRank_125
          · have h := it_f h hc11
            refine V_aload_n (pc := 92) C dX1_readRank_92 rfl rfl ?_
            refine V_getI (pc := 93) C CF1 fl_X1_25 LO1 (by decide) rfl dX1_readRank_93 (v := (mh8.1 6 5)) rfl ?_
            refine V_istore (pc := 96) C (lv' := [some (.ref 6), some (.int v1), some (.int v2), some (.int s5), some (.int v4_7), some (.int (mh8.1 6 5))]) dX1_readRank_96 (by decide) (Nat.le_of_ble_eq_true rfl) rfl rfl ?_
            refine V_aload_n (pc := 98) C dX1_readRank_98 rfl rfl ?_
            obtain ⟨q12, hq13, h⟩ := bnd_ok h
            refine V_callVv (pc := 99) (rest := []) C cs_X1_40 (c_X1_advance (d + 1) mh8 hq13) CF1.1 LO1 (by omega) (by decide) rfl rfl (Nat.le_of_ble_eq_true rfl) dX1_readRank_99 ?_
            refine V_aload_n (pc := 102) C dX1_readRank_102 rfl rfl ?_
            refine V_iload_n (pc := 103) C dX1_readRank_103 rfl rfl ?_
            refine V_iconst (pc := 104) C (v := 1) dX1_readRank_104 (by decide) ?_
            refine V_iadd (pc := 105) C dX1_readRank_105 ?_
            refine V_iload_n (pc := 106) C dX1_readRank_106 rfl rfl ?_
            obtain ⟨q14, hq15, h⟩ := bnd_ok h
            refine V_callVv (pc := 107) (rest := []) C cs_X1_47 (hR_readRank (v1 + 1) v2 q12 hq15) CF1.1 LO1 (by omega) (by decide) rfl rfl (Nat.le_of_ble_eq_true rfl) dX1_readRank_107 ?_
            refine V_aload_n (pc := 110) C dX1_readRank_110 rfl rfl ?_
            refine V_getR (pc := 111) C (r' := 5) CF1 fl_X1_31 LO1 (by decide) rfl dX1_readRank_111 ?_
            refine V_iload (pc := 114) C dX1_readRank_114 rfl ?_
            obtain ⟨q16, hq17, h⟩ := bnd_ok h
            refine V_callVv (pc := 116) (rest := []) C cs_X1_64 (c_X3_write (d + 7) (mh8.1 6 5) q14 hq17) CF3.1 LO3 (by omega) (by decide) rfl rfl (Nat.le_of_ble_eq_true rfl) dX1_readRank_116 ?_
            refine V_iinc (pc := 119) C (v := (v4_7 + 1)) (lv' := [some (.ref 6), some (.int v1), some (.int v2), some (.int s5), some (.int (v4_7 + 1)), some (.int (mh8.1 6 5))]) dX1_readRank_119 rfl rfl (by decide) (Nat.le_of_ble_eq_true rfl) rfl rfl ?_
            refine V_goto (pc := 122) (tgt := 75) C dX1_readRank_122 (by decide) ?_
            refine V_mask [true, true, true, true, true, false] (lv' := [some (.ref 6), some (.int v1), some (.int v2), some (.int s5), some (.int (v4_7 + 1)), none]) rfl ?_
            exact hrec9 (v4_7 + 1) q16 h
      · refine V_icmpne (pc := 61) (tgt := 68) C dX1_readRank_61 (by decide) (fun hc18 => ?_) (fun hc18 => ?_)
        · have h := it_f h hc18
          refine V_sipush (pc := 68) C (v := 160) dX1_readRank_68 (by decide) ?_
          exact hJ6 160 h
        · have h := it_t h hc18
          refine V_iconst (pc := 64) C (v := 1) dX1_readRank_64 (by decide) ?_
          refine V_goto (pc := 65) (tgt := 71) C dX1_readRank_65 (by decide) ?_
          exact hJ6 1 h
    · refine V_icmpne (pc := 13) (tgt := 51) C dX1_readRank_13 (by decide) (fun hc19 => ?_) (fun hc19 => ?_)
      · have h := it_f h hc19
        exact hJ2 h
      · have h := it_t h hc19
        refine V_aload_n (pc := 16) C dX1_readRank_16 rfl rfl ?_
        refine V_getI (pc := 17) C CF1 fl_X1_25 LO1 (by decide) rfl dX1_readRank_17 (v := (mh.1 6 5)) rfl ?_
        refine V_bipush (pc := 20) C (v := (-9)) dX1_readRank_20 (by decide) ?_
        refine V_icmpne (pc := 22) (tgt := 51) C dX1_readRank_22 (by decide) (fun hc20 => ?_) (fun hc20 => ?_)
        · have h := it_f h hc20
          exact hJ2 h
        · have h := it_t h hc20
          refine V_aload_n (pc := 25) C dX1_readRank_25 rfl rfl ?_
          refine V_iload_n (pc := 26) C dX1_readRank_26 rfl rfl ?_
          obtain ⟨q21, hq22, h⟩ := bnd_ok h
          refine V_callVi (pc := 27) (rest := []) C cs_X1_60 (c_X1_mayOpen (d + 0) v2 mh hq22) CF1.1 LO1 (by omega) (by decide) rfl rfl (Nat.le_of_ble_eq_true rfl) dX1_readRank_27 ?_
          refine V_ifeq (pc := 30) (tgt := 50) C dX1_readRank_30 (by decide) (fun hc23 => ?_) (fun hc23 => ?_)
          · have h := it_t h hc23
            exact V_ret0 (pc := 50) C (gdov h hG) dX1_readRank_50
          · have h := it_f h hc23
            refine V_aload_n (pc := 33) C dX1_readRank_33 rfl rfl ?_
            refine V_iconst (pc := 34) C (v := 2) dX1_readRank_34 (by decide) ?_
            refine V_iload_n (pc := 35) C dX1_readRank_35 rfl rfl ?_
            refine V_iconst (pc := 36) C (v := 1) dX1_readRank_36 (by decide) ?_
            refine V_iadd (pc := 37) C dX1_readRank_37 ?_
            obtain ⟨q24, hq25, h⟩ := bnd_ok h
            refine V_callVv (pc := 38) (rest := []) C cs_X1_47 (hR_readRank 2 (v2 + 1) q21.2 hq25) CF1.1 LO1 (by omega) (by decide) rfl rfl (Nat.le_of_ble_eq_true rfl) dX1_readRank_38 ?_
            refine V_aload_n (pc := 41) C dX1_readRank_41 rfl rfl ?_
            refine V_getR (pc := 42) C (r' := 5) CF1 fl_X1_31 LO1 (by decide) rfl dX1_readRank_42 ?_
            refine V_bipush (pc := 45) C (v := (-9)) dX1_readRank_45 (by decide) ?_
            obtain ⟨q26, hq27, h⟩ := bnd_ok h
            refine V_callVv (pc := 47) (rest := []) C cs_X1_64 (c_X3_write (d + 7) (-9) q24 hq27) CF3.1 LO3 (by omega) (by decide) rfl rfl (Nat.le_of_ble_eq_true rfl) dX1_readRank_47 ?_
            exact V_ret0 (pc := 50) C (gdov h hG) dX1_readRank_50
  · have h := it_f h hc1
    refine V_aload_n (pc := 5) C dX1_readRank_5 rfl rfl ?_
    refine V_iload_n (pc := 6) C dX1_readRank_6 rfl rfl ?_
    obtain ⟨q28, hq29, h⟩ := bnd_ok h
    refine V_callVv (pc := 7) (rest := []) C cs_X1_57 (hR_readOne v2 mh hq29) CF1.1 LO1 (by omega) (by decide) rfl rfl (Nat.le_of_ble_eq_true rfl) dX1_readRank_7 ?_
    exact V_ret0 (pc := 10) C (gdov h hG) dX1_readRank_10
def X1_readOne_B (R_readRank : Int32 → Int32 → vMH → Option (vMH)) (R_readOne : Int32 → vMH → Option (vMH)) (v1 : Int32) (mh : vMH) : Option (vMH) := (if (mh.1 6 5) < (-6) then (if (mh.1 6 5) = (-13) then ((X1_mayOpen v1 mh).bind fun q11 => (if q11.1 = 0 then (some q11.2) else ((R_readOne (v1 + 1) q11.2).bind fun q14 => ((X3_write (-15) q14).bind fun q16 => (some q16))))) else (if (mh.1 6 5) = (-16) then ((X1_mayOpen v1 mh).bind fun q4 => (if q4.1 = 0 then (some q4.2) else ((R_readRank 0 (v1 + 1) q4.2).bind fun q7 => ((X1_expect (-17) q7).bind fun q9 => (some q9))))) else (some (X1_refuse mh)))) else ((X3_write (mh.1 6 5) mh).bind fun q18 => ((X1_advance q18).bind fun q20 => (some q20))))
set_option maxRecDepth 100000 in
set_option maxHeartbeats 8000000 in
theorem c_X1_readOne_B (d : Nat) (R_readRank : Int32 → Int32 → vMH → Option (vMH)) (R_readOne : Int32 → vMH → Option (vMH)) (v1 : Int32) (mh : vMH) (hR_readRank : ∀ (v1 : Int32) (v2 : Int32) (mh : vMH) {res : vMH}, R_readRank v1 v2 mh = some res → MC LC (d + 7) yX1_readRank cX1_readRank 6 none [.ref 6, .int v1, .int v2] mh none res) (hR_readOne : ∀ (v1 : Int32) (mh : vMH) {res : vMH}, R_readOne v1 mh = some res → MC LC (d + 7) yX1_readOne cX1_readOne 2 none [.ref 6, .int v1] mh none res) {res : vMH} (h : X1_readOne_B R_readRank R_readOne v1 mh = some res) : MC LC (d + 8) yX1_readOne cX1_readOne 2 none [.ref 6, .int v1] mh none res := by
  refine MC_of 0 (by decide) rfl (fun X C hG => ?_)
  replace C : Cx X (d + 8) 2 cX1_readOne RX1 none := C
  show Vw LC X (d + 8) 2 0 [some (.ref 6), some (.int v1)] [] mh
  unfold X1_readOne_B at h
  refine V_aload_n (pc := 0) C dX1_readOne_0 rfl rfl ?_
  refine V_getI (pc := 1) C CF1 fl_X1_25 LO1 (by decide) rfl dX1_readOne_1 (v := (mh.1 6 5)) rfl ?_
  refine V_bipush (pc := 4) C (v := (-6)) dX1_readOne_4 (by decide) ?_
  refine V_icmplt (pc := 6) (tgt := 27) C dX1_readOne_6 (by decide) (fun hc1 => ?_) (fun hc1 => ?_)
  · have h := it_t h hc1
    refine V_aload_n (pc := 27) C dX1_readOne_27 rfl rfl ?_
    refine V_getI (pc := 28) C CF1 fl_X1_25 LO1 (by decide) rfl dX1_readOne_28 (v := (mh.1 6 5)) rfl ?_
    refine V_bipush (pc := 31) C (v := (-13)) dX1_readOne_31 (by decide) ?_
    refine V_icmpne (pc := 33) (tgt := 63) C dX1_readOne_33 (by decide) (fun hc2 => ?_) (fun hc2 => ?_)
    · have h := it_f h hc2
      refine V_aload_n (pc := 63) C dX1_readOne_63 rfl rfl ?_
      refine V_getI (pc := 64) C CF1 fl_X1_25 LO1 (by decide) rfl dX1_readOne_64 (v := (mh.1 6 5)) rfl ?_
      refine V_bipush (pc := 67) C (v := (-16)) dX1_readOne_67 (by decide) ?_
      refine V_icmpne (pc := 69) (tgt := 97) C dX1_readOne_69 (by decide) (fun hc3 => ?_) (fun hc3 => ?_)
      · have h := it_f h hc3
        refine V_aload_n (pc := 97) C dX1_readOne_97 rfl rfl ?_
        refine V_callVv (pc := 98) (rest := []) C cs_X1_54 (c_X1_refuse (d + 7) mh) CF1.1 LO1 (by omega) (by decide) rfl rfl (Nat.le_of_ble_eq_true rfl) dX1_readOne_98 ?_
        exact V_ret0 (pc := 101) C (gdov h hG) dX1_readOne_101
      · have h := it_t h hc3
        refine V_aload_n (pc := 72) C dX1_readOne_72 rfl rfl ?_
        refine V_iload_n (pc := 73) C dX1_readOne_73 rfl rfl ?_
        obtain ⟨q4, hq5, h⟩ := bnd_ok h
        refine V_callVi (pc := 74) (rest := []) C cs_X1_60 (c_X1_mayOpen (d + 0) v1 mh hq5) CF1.1 LO1 (by omega) (by decide) rfl rfl (Nat.le_of_ble_eq_true rfl) dX1_readOne_74 ?_
        refine V_ifeq (pc := 77) (tgt := 101) C dX1_readOne_77 (by decide) (fun hc6 => ?_) (fun hc6 => ?_)
        · have h := it_t h hc6
          exact V_ret0 (pc := 101) C (gdov h hG) dX1_readOne_101
        · have h := it_f h hc6
          refine V_aload_n (pc := 80) C dX1_readOne_80 rfl rfl ?_
          refine V_iconst (pc := 81) C (v := 0) dX1_readOne_81 (by decide) ?_
          refine V_iload_n (pc := 82) C dX1_readOne_82 rfl rfl ?_
          refine V_iconst (pc := 83) C (v := 1) dX1_readOne_83 (by decide) ?_
          refine V_iadd (pc := 84) C dX1_readOne_84 ?_
          obtain ⟨q7, hq8, h⟩ := bnd_ok h
          refine V_callVv (pc := 85) (rest := []) C cs_X1_47 (hR_readRank 0 (v1 + 1) q4.2 hq8) CF1.1 LO1 (by omega) (by decide) rfl rfl (Nat.le_of_ble_eq_true rfl) dX1_readOne_85 ?_
          refine V_aload_n (pc := 88) C dX1_readOne_88 rfl rfl ?_
          refine V_bipush (pc := 89) C (v := (-17)) dX1_readOne_89 (by decide) ?_
          obtain ⟨q9, hq10, h⟩ := bnd_ok h
          refine V_callVv (pc := 91) (rest := []) C cs_X1_43 (c_X1_expect (d + 0) (-17) q7 hq10) CF1.1 LO1 (by omega) (by decide) rfl rfl (Nat.le_of_ble_eq_true rfl) dX1_readOne_91 ?_
          refine V_goto (pc := 94) (tgt := 101) C dX1_readOne_94 (by decide) ?_
          exact V_ret0 (pc := 101) C (gdov h hG) dX1_readOne_101
    · have h := it_t h hc2
      refine V_aload_n (pc := 36) C dX1_readOne_36 rfl rfl ?_
      refine V_iload_n (pc := 37) C dX1_readOne_37 rfl rfl ?_
      obtain ⟨q11, hq12, h⟩ := bnd_ok h
      refine V_callVi (pc := 38) (rest := []) C cs_X1_60 (c_X1_mayOpen (d + 0) v1 mh hq12) CF1.1 LO1 (by omega) (by decide) rfl rfl (Nat.le_of_ble_eq_true rfl) dX1_readOne_38 ?_
      refine V_ifeq (pc := 41) (tgt := 101) C dX1_readOne_41 (by decide) (fun hc13 => ?_) (fun hc13 => ?_)
      · have h := it_t h hc13
        exact V_ret0 (pc := 101) C (gdov h hG) dX1_readOne_101
      · have h := it_f h hc13
        refine V_aload_n (pc := 44) C dX1_readOne_44 rfl rfl ?_
        refine V_iload_n (pc := 45) C dX1_readOne_45 rfl rfl ?_
        refine V_iconst (pc := 46) C (v := 1) dX1_readOne_46 (by decide) ?_
        refine V_iadd (pc := 47) C dX1_readOne_47 ?_
        obtain ⟨q14, hq15, h⟩ := bnd_ok h
        refine V_callVv (pc := 48) (rest := []) C cs_X1_57 (hR_readOne (v1 + 1) q11.2 hq15) CF1.1 LO1 (by omega) (by decide) rfl rfl (Nat.le_of_ble_eq_true rfl) dX1_readOne_48 ?_
        refine V_aload_n (pc := 51) C dX1_readOne_51 rfl rfl ?_
        refine V_getR (pc := 52) C (r' := 5) CF1 fl_X1_31 LO1 (by decide) rfl dX1_readOne_52 ?_
        refine V_bipush (pc := 55) C (v := (-15)) dX1_readOne_55 (by decide) ?_
        obtain ⟨q16, hq17, h⟩ := bnd_ok h
        refine V_callVv (pc := 57) (rest := []) C cs_X1_64 (c_X3_write (d + 7) (-15) q14 hq17) CF3.1 LO3 (by omega) (by decide) rfl rfl (Nat.le_of_ble_eq_true rfl) dX1_readOne_57 ?_
        refine V_goto (pc := 60) (tgt := 101) C dX1_readOne_60 (by decide) ?_
        exact V_ret0 (pc := 101) C (gdov h hG) dX1_readOne_101
  · have h := it_f h hc1
    refine V_aload_n (pc := 9) C dX1_readOne_9 rfl rfl ?_
    refine V_getR (pc := 10) C (r' := 5) CF1 fl_X1_31 LO1 (by decide) rfl dX1_readOne_10 ?_
    refine V_aload_n (pc := 13) C dX1_readOne_13 rfl rfl ?_
    refine V_getI (pc := 14) C CF1 fl_X1_25 LO1 (by decide) rfl dX1_readOne_14 (v := (mh.1 6 5)) rfl ?_
    obtain ⟨q18, hq19, h⟩ := bnd_ok h
    refine V_callVv (pc := 17) (rest := []) C cs_X1_64 (c_X3_write (d + 7) (mh.1 6 5) mh hq19) CF3.1 LO3 (by omega) (by decide) rfl rfl (Nat.le_of_ble_eq_true rfl) dX1_readOne_17 ?_
    refine V_aload_n (pc := 20) C dX1_readOne_20 rfl rfl ?_
    obtain ⟨q20, hq21, h⟩ := bnd_ok h
    refine V_callVv (pc := 21) (rest := []) C cs_X1_40 (c_X1_advance (d + 1) q18 hq21) CF1.1 LO1 (by omega) (by decide) rfl rfl (Nat.le_of_ble_eq_true rfl) dX1_readOne_21 ?_
    refine V_goto (pc := 24) (tgt := 101) C dX1_readOne_24 (by decide) ?_
    exact V_ret0 (pc := 101) C (gdov h hG) dX1_readOne_101
def X1_rec : Nat → Nat → Int32 → Int32 → vMH → Option (vMH)
  | 0, _, _, _, _ => none
  | n + 1, 0, b0, b1, mh => X1_readRank_B (X1_rec n 0) (fun b0 => X1_rec n 1 0 b0) b0 b1 mh
  | n + 1, 1, _, b0, mh => X1_readOne_B (X1_rec n 0) (fun b0 => X1_rec n 1 0 b0) b0 mh
  | _, _, _, _, _ => none
theorem c_X1_rec (d : Nat) : ∀ n : Nat, (∀ (v1 : Int32) (v2 : Int32) (mh : vMH) {res : vMH}, X1_rec n 0 v1 v2 mh = some res → MC LC (d + n + 8) yX1_readRank cX1_readRank 6 none [.ref 6, .int v1, .int v2] mh none res) ∧ (∀ (v1 : Int32) (mh : vMH) {res : vMH}, X1_rec n 1 0 v1 mh = some res → MC LC (d + n + 8) yX1_readOne cX1_readOne 2 none [.ref 6, .int v1] mh none res) := by
  intro n
  induction n with
  | zero => exact ⟨fun _ _ _ _ h => (by cases h), fun _ _ _ h => (by cases h)⟩
  | succ n ih =>
    obtain ⟨ih0, ih1⟩ := ih
    exact ⟨fun v1 v2 mh _ h => c_X1_readRank_B (d + n + 1) (X1_rec n 0) (fun b0 => X1_rec n 1 0 b0) v1 v2 mh (fun v1 v2 mh _ h => ih0 v1 v2 mh h) (fun v1 mh _ h => ih1 v1 mh h) h,
      fun v1 mh _ h => c_X1_readOne_B (d + n + 1) (X1_rec n 0) (fun b0 => X1_rec n 1 0 b0) v1 mh (fun v1 v2 mh _ h => ih0 v1 v2 mh h) (fun v1 mh _ h => ih1 v1 mh h) h⟩
def X1_readRank (v1 : Int32) (v2 : Int32) (mh : vMH) : Option (vMH) := X1_rec 64 0 v1 v2 mh
theorem c_X1_readRank (d : Nat) (v1 : Int32) (v2 : Int32) (mh : vMH) {res : vMH} (h : X1_readRank v1 v2 mh = some res) : MC LC (d + 72) yX1_readRank cX1_readRank 6 none [.ref 6, .int v1, .int v2] mh none res := (c_X1_rec d 64).1 v1 v2 mh h
def X1_readOne (v1 : Int32) (mh : vMH) : Option (vMH) := X1_rec 64 1 0 v1 mh
theorem c_X1_readOne (d : Nat) (v1 : Int32) (mh : vMH) {res : vMH} (h : X1_readOne v1 mh = some res) : MC LC (d + 72) yX1_readOne cX1_readOne 2 none [.ref 6, .int v1] mh none res := (c_X1_rec d 64).2 v1 mh h
def X3_endPart (v1 : Int32) (mh : vMH) : Option (vMH) := (if (((mh.1 5 0) * 3) + v1) < 0 then (some mh) else (if 18 ≤ (((mh.1 5 0) * 3) + v1) then (some mh) else (chk (inb (((mh.1 5 0) * 3) + v1) 18) (some (v_up mh 26 (jn (((mh.1 5 0) * 3) + v1)) (mh.1 5 5))))))
set_option maxRecDepth 100000 in
set_option maxHeartbeats 8000000 in
theorem c_X3_endPart (d : Nat) (v1 : Int32) (mh : vMH) {res : vMH} (h : X3_endPart v1 mh = some res) : MC LC (d + 0) yX3_endPart cX3_endPart 3 none [.ref 5, .int v1] mh none res := by
  refine MC_of 1 (by decide) rfl (fun X C hG => ?_)
  replace C : Cx X (d + 0) 3 cX3_endPart RX3 none := C
  show Vw LC X (d + 0) 3 0 [some (.ref 5), some (.int v1), none] [] mh
  unfold X3_endPart at h
  refine V_aload_n (pc := 0) C dX3_endPart_0 rfl rfl ?_
  refine V_getI (pc := 1) C CF3 fl_X3_9 LO3 (by decide) rfl dX3_endPart_1 (v := (mh.1 5 0)) rfl ?_
  refine V_iconst (pc := 4) C (v := 3) dX3_endPart_4 (by decide) ?_
  refine V_imul (pc := 5) C dX3_endPart_5 ?_
  refine V_iload_n (pc := 6) C dX3_endPart_6 rfl rfl ?_
  refine V_iadd (pc := 7) C dX3_endPart_7 ?_
  refine V_istore_n (pc := 8) C (lv' := [some (.ref 5), some (.int v1), some (.int (((mh.1 5 0) * 3) + v1))]) dX3_endPart_8 rfl (by decide) (Nat.le_of_ble_eq_true rfl) rfl rfl ?_
  refine V_iload_n (pc := 9) C dX3_endPart_9 rfl rfl ?_
  refine V_iflt (pc := 10) (tgt := 32) C dX3_endPart_10 (by decide) (fun hc1 => ?_) (fun hc1 => ?_)
  · have h := it_t h hc1
    exact V_ret0 (pc := 32) C (gdov h hG) dX3_endPart_32
  · have h := it_f h hc1
    refine V_iload_n (pc := 13) C dX3_endPart_13 rfl rfl ?_
    refine V_aload_n (pc := 14) C dX3_endPart_14 rfl rfl ?_
    refine V_getR (pc := 15) C (r' := 26) CF3 fl_X3_19 LO3 (by decide) rfl dX3_endPart_15 ?_
    refine V_alen (pc := 18) C LAC26 (v := 18) (by decide) dX3_endPart_18 ?_
    refine V_icmpge (pc := 19) (tgt := 32) C dX3_endPart_19 (by decide) (fun hc2 => ?_) (fun hc2 => ?_)
    · have h := it_t h hc2
      exact V_ret0 (pc := 32) C (gdov h hG) dX3_endPart_32
    · have h := it_f h hc2
      refine V_aload_n (pc := 22) C dX3_endPart_22 rfl rfl ?_
      refine V_getR (pc := 23) C (r' := 26) CF3 fl_X3_19 LO3 (by decide) rfl dX3_endPart_23 ?_
      refine V_iload_n (pc := 26) C dX3_endPart_26 rfl rfl ?_
      refine V_aload_n (pc := 27) C dX3_endPart_27 rfl rfl ?_
      refine V_getI (pc := 28) C CF3 fl_X3_28 LO3 (by decide) rfl dX3_endPart_28 (v := (mh.1 5 5)) rfl ?_
      obtain ⟨hi3, h⟩ := chk_ok h
      refine V_iast (pc := 31) C LAC26 hi3 dX3_endPart_31 ?_
      exact V_ret0 (pc := 32) C (gdov h hG) dX3_endPart_32
def X1_readTape_L23 (J4 : vMH → Option (Int32 × vMH)) (rec10 : Int32 → vMH → Option (Int32 × vMH)) (v1_8 : Int32) (mh9 : vMH) : Option (Int32 × vMH) := (if 3 ≤ v1_8 then (J4 mh9) else ((X1_expect ((-21) - v1_8) mh9).bind fun q12 => ((X1_readRank 0 0 q12).bind fun q14 => ((X3_endPart v1_8 q14).bind fun q16 => ((X1_expect (-18) q16).bind fun q18 => (rec10 (v1_8 + 1) q18))))))
def X1_readTape (mh : vMH) : Option (Int32 × vMH) := ((X1_advance (X3_begin (v_up (v_up mh 6 3 0) 6 6 (-1)))).bind fun q1 => (wj1 (fun (mh3 : vMH) => (wj1 (fun (mh5 : vMH) => (some ((mh5.1 6 6), (v_up mh5 6 0 0)))) fun J6 => (if (mh3.1 6 5) = (-19) then (J6 mh3) else (J6 (X1_refuse mh3))))) fun J4 => (lq2 4096 (X1_readTape_L23 J4) 0 q1)))
set_option maxRecDepth 100000 in
set_option maxHeartbeats 8000000 in
theorem c_X1_readTape (d : Nat)  (mh : vMH) {res : Int32 × vMH} (h : X1_readTape mh = some res) : MC LC (d + 73) yX1_readTape cX1_readTape 2 (some .int) [.ref 6] mh (some (.int res.1)) res.2 := by
  refine MC_of 1 (by decide) rfl (fun X C hG => ?_)
  replace C : Cx X (d + 73) 2 cX1_readTape RX1 (some .int) := C
  show Vw LC X (d + 73) 2 0 [some (.ref 6), none] [] mh
  unfold X1_readTape at h
  refine V_aload_n (pc := 0) C dX1_readTape_0 rfl rfl ?_
  refine V_iconst (pc := 1) C (v := 0) dX1_readTape_1 (by decide) ?_
  refine V_putI (pc := 2) C CF1 fl_X1_19 LO1 (by decide) rfl rfl rfl dX1_readTape_2 ?_
  refine V_aload_n (pc := 5) C dX1_readTape_5 rfl rfl ?_
  refine V_iconst (pc := 6) C (v := (-1)) dX1_readTape_6 (by decide) ?_
  refine V_putI (pc := 7) C CF1 fl_X1_28 LO1 (by decide) rfl rfl rfl dX1_readTape_7 ?_
  refine V_aload_n (pc := 10) C dX1_readTape_10 rfl rfl ?_
  refine V_getR (pc := 11) C (r' := 5) CF1 fl_X1_31 LO1 (by decide) rfl dX1_readTape_11 ?_
  refine V_callVv (pc := 14) (rest := []) C cs_X1_35 (c_X3_begin (d + 72) (v_up (v_up mh 6 3 0) 6 6 (-1))) CF3.1 LO3 (by omega) (by decide) rfl rfl (Nat.le_of_ble_eq_true rfl) dX1_readTape_14 ?_
  refine V_aload_n (pc := 17) C dX1_readTape_17 rfl rfl ?_
  obtain ⟨q1, hq2, h⟩ := bnd_ok h
  refine V_callVv (pc := 18) (rest := []) C cs_X1_40 (c_X1_advance (d + 66) (X3_begin (v_up (v_up mh 6 3 0) 6 6 (-1))) hq2) CF1.1 LO1 (by omega) (by decide) rfl rfl (Nat.le_of_ble_eq_true rfl) dX1_readTape_18 ?_
  refine V_iconst (pc := 21) C (v := 0) dX1_readTape_21 (by decide) ?_
  refine V_istore_n (pc := 22) C (lv' := [some (.ref 6), some (.int 0)]) dX1_readTape_22 rfl (by decide) (Nat.le_of_ble_eq_true rfl) rfl rfl ?_
  refine wj1_ok (fun (mh3 : vMH) => Vw LC X (d + 73) 2 62 [some (.ref 6), none] [] mh3) h (fun mh3 h => ?_) (fun J4 hJ4 h => ?_)
  · refine V_aload_n (pc := 62) C dX1_readTape_62 rfl rfl ?_
    refine V_getI (pc := 63) C CF1 fl_X1_25 LO1 (by decide) rfl dX1_readTape_63 (v := (mh3.1 6 5)) rfl ?_
    refine V_bipush (pc := 66) C (v := (-19)) dX1_readTape_66 (by decide) ?_
    refine wj1_ok (fun (mh5 : vMH) => Vw LC X (d + 73) 2 75 [some (.ref 6), none] [] mh5) h (fun mh5 h => ?_) (fun J6 hJ6 h => ?_)
    · refine V_aload_n (pc := 75) C dX1_readTape_75 rfl rfl ?_
      refine V_iconst (pc := 76) C (v := 0) dX1_readTape_76 (by decide) ?_
      refine V_putI (pc := 77) C CF1 fl_X1_9 LO1 (by decide) rfl rfl rfl dX1_readTape_77 ?_
      refine V_aload_n (pc := 80) C dX1_readTape_80 rfl rfl ?_
      refine V_getI (pc := 81) C CF1 fl_X1_28 LO1 (by decide) rfl dX1_readTape_81 (v := (mh5.1 6 6)) (rd_k (by decide)) ?_
      exact V_iret (pc := 84) C (gdow h hG) dX1_readTape_84
    · refine V_icmpeq (pc := 68) (tgt := 75) C dX1_readTape_68 (by decide) (fun hc7 => ?_) (fun hc7 => ?_)
      · have h := it_t h hc7
        exact hJ6 mh3 h
      · have h := it_f h hc7
        refine V_aload_n (pc := 71) C dX1_readTape_71 rfl rfl ?_
        refine V_callVv (pc := 72) (rest := []) C cs_X1_54 (c_X1_refuse (d + 72) mh3) CF1.1 LO1 (by omega) (by decide) rfl rfl (Nat.le_of_ble_eq_true rfl) dX1_readTape_72 ?_
        exact hJ6 (X1_refuse mh3) h
  · refine lq2_ok (fun (v1_8 : Int32) (mh9 : vMH) => Vw LC X (d + 73) 2 23 [some (.ref 6), some (.int v1_8)] [] mh9) h (fun rec10 hrec10 v1_8 mh9 h => ?_)
    unfold X1_readTape_L23 at h
    refine V_iload_n (pc := 23) C dX1_readTape_23 rfl rfl ?_
    refine V_iconst (pc := 24) C (v := 3) dX1_readTape_24 (by decide) ?_
    refine V_icmpge (pc := 25) (tgt := 62) C dX1_readTape_25 (by decide) (fun hc11 => ?_) (fun hc11 => ?_)
    · have h := it_t h hc11
      refine V_mask [true, false] (lv' := [some (.ref 6), none]) rfl ?_
      exact hJ4 mh9 h
    · have h := it_f h hc11
      refine V_aload_n (pc := 28) C dX1_readTape_28 rfl rfl ?_
      refine V_bipush (pc := 29) C (v := (-21)) dX1_readTape_29 (by decide) ?_
      refine V_iload_n (pc := 31) C dX1_readTape_31 rfl rfl ?_
      refine V_isub (pc := 32) C dX1_readTape_32 ?_
      obtain ⟨q12, hq13, h⟩ := bnd_ok h
      refine V_callVv (pc := 33) (rest := []) C cs_X1_43 (c_X1_expect (d + 65) ((-21) - v1_8) mh9 hq13) CF1.1 LO1 (by omega) (by decide) rfl rfl (Nat.le_of_ble_eq_true rfl) dX1_readTape_33 ?_
      refine V_aload_n (pc := 36) C dX1_readTape_36 rfl rfl ?_
      refine V_iconst (pc := 37) C (v := 0) dX1_readTape_37 (by decide) ?_
      refine V_iconst (pc := 38) C (v := 0) dX1_readTape_38 (by decide) ?_
      obtain ⟨q14, hq15, h⟩ := bnd_ok h
      refine V_callVv (pc := 39) (rest := []) C cs_X1_47 (c_X1_readRank (d + 0) 0 0 q12 hq15) CF1.1 LO1 (by omega) (by decide) rfl rfl (Nat.le_of_ble_eq_true rfl) dX1_readTape_39 ?_
      refine V_aload_n (pc := 42) C dX1_readTape_42 rfl rfl ?_
      refine V_getR (pc := 43) C (r' := 5) CF1 fl_X1_31 LO1 (by decide) rfl dX1_readTape_43 ?_
      refine V_iload_n (pc := 46) C dX1_readTape_46 rfl rfl ?_
      obtain ⟨q16, hq17, h⟩ := bnd_ok h
      refine V_callVv (pc := 47) (rest := []) C cs_X1_51 (c_X3_endPart (d + 72) v1_8 q14 hq17) CF3.1 LO3 (by omega) (by decide) rfl rfl (Nat.le_of_ble_eq_true rfl) dX1_readTape_47 ?_
      refine V_aload_n (pc := 50) C dX1_readTape_50 rfl rfl ?_
      refine V_bipush (pc := 51) C (v := (-18)) dX1_readTape_51 (by decide) ?_
      obtain ⟨q18, hq19, h⟩ := bnd_ok h
      refine V_callVv (pc := 53) (rest := []) C cs_X1_43 (c_X1_expect (d + 65) (-18) q16 hq19) CF1.1 LO1 (by omega) (by decide) rfl rfl (Nat.le_of_ble_eq_true rfl) dX1_readTape_53 ?_
      refine V_iinc (pc := 56) C (v := (v1_8 + 1)) (lv' := [some (.ref 6), some (.int (v1_8 + 1))]) dX1_readTape_56 rfl rfl (by decide) (Nat.le_of_ble_eq_true rfl) rfl rfl ?_
      refine V_goto (pc := 59) (tgt := 23) C dX1_readTape_59 (by decide) ?_
      exact hrec10 (v1_8 + 1) q18 h
def X5_isSheet (v0 : Int32) : Int32 := (if v0 < 0 then 0 else (if 4 ≤ v0 then 0 else 1))
set_option maxRecDepth 100000 in
set_option maxHeartbeats 8000000 in
theorem c_X5_isSheet (d : Nat) (v0 : Int32) (mh : vMH) : MC LC (d + 0) yX5_isSheet cX5_isSheet 1 (some .boolean) [.int v0] mh (some (.int (X5_isSheet v0))) mh := by
  refine MC_of 0 (by decide) rfl (fun X C hG => ?_)
  replace C : Cx X (d + 0) 1 cX5_isSheet RX5 (some .boolean) := C
  show Vw LC X (d + 0) 1 0 [some (.int v0)] [] mh
  obtain ⟨res, h⟩ : ∃ res, X5_isSheet v0 = res := ⟨_, rfl⟩
  rw [h] at hG
  unfold X5_isSheet at h
  refine V_iload_n (pc := 0) C dX5_isSheet_0 rfl rfl ?_
  refine V_iflt (pc := 1) (tgt := 13) C dX5_isSheet_1 (by decide) (fun hc1 => ?_) (fun hc1 => ?_)
  · have h := it_t h hc1
    refine V_iconst (pc := 13) C (v := 0) dX5_isSheet_13 (by decide) ?_
    exact V_zret (pc := 14) C rfl (gdt h hG) dX5_isSheet_14
  · have h := it_f h hc1
    refine V_iload_n (pc := 4) C dX5_isSheet_4 rfl rfl ?_
    refine V_iconst (pc := 5) C (v := 4) dX5_isSheet_5 (by decide) ?_
    refine V_icmpge (pc := 6) (tgt := 13) C dX5_isSheet_6 (by decide) (fun hc2 => ?_) (fun hc2 => ?_)
    · have h := it_t h hc2
      refine V_iconst (pc := 13) C (v := 0) dX5_isSheet_13 (by decide) ?_
      exact V_zret (pc := 14) C rfl (gdt h hG) dX5_isSheet_14
    · have h := it_f h hc2
      refine V_iconst (pc := 9) C (v := 1) dX5_isSheet_9 (by decide) ?_
      refine V_goto (pc := 10) (tgt := 14) C dX5_isSheet_10 (by decide) ?_
      exact V_zret (pc := 14) C rfl (gdt h hG) dX5_isSheet_14
theorem z_X5_isSheet (v0 : Int32) : narrow .boolean (.int (X5_isSheet v0)) = .int (X5_isSheet v0) := by
  unfold X5_isSheet
  (repeat' split) <;> rfl
def X2_sortOf (v1 : Int32) (mh : vMH) : Option (Int32) := (if (X5_isSheet v1) = 0 then (some (-1)) else (chk (inb v1 4) (some (mh.1 30 (jn v1)))))
set_option maxRecDepth 100000 in
set_option maxHeartbeats 8000000 in
theorem c_X2_sortOf (d : Nat) (v1 : Int32) (mh : vMH) {res : Int32} (h : X2_sortOf v1 mh = some res) : MC LC (d + 1) yX2_sortOf cX2_sortOf 2 (some .int) [.ref 8, .int v1] mh (some (.int res)) mh := by
  refine MC_of 0 (by decide) rfl (fun X C hG => ?_)
  replace C : Cx X (d + 1) 2 cX2_sortOf RX2 (some .int) := C
  show Vw LC X (d + 1) 2 0 [some (.ref 8), some (.int v1)] [] mh
  unfold X2_sortOf at h
  refine V_iload_n (pc := 0) C dX2_sortOf_0 rfl rfl ?_
  refine V_callNi (pc := 1) (rest := []) C cs_X2_21 (c_X5_isSheet (d + 0) v1 mh) (by omega) (by decide) rfl rfl (Nat.le_of_ble_eq_true rfl) dX2_sortOf_1 ?_
  refine V_ifeq (pc := 4) (tgt := 16) C dX2_sortOf_4 (by decide) (fun hc1 => ?_) (fun hc1 => ?_)
  · have h := it_t h hc1
    refine V_iconst (pc := 16) C (v := (-1)) dX2_sortOf_16 (by decide) ?_
    exact V_iret (pc := 17) C (gdo h hG) dX2_sortOf_17
  · have h := it_f h hc1
    refine V_aload_n (pc := 7) C dX2_sortOf_7 rfl rfl ?_
    refine V_getR (pc := 8) C (r' := 30) CF2 fl_X2_9 LO2 (by decide) rfl dX2_sortOf_8 ?_
    refine V_iload_n (pc := 11) C dX2_sortOf_11 rfl rfl ?_
    obtain ⟨hi2, h⟩ := chk_ok h
    refine V_iald (pc := 12) C LAC30 hi2 dX2_sortOf_12 (v := (mh.1 30 (jn v1))) rfl ?_
    refine V_goto (pc := 13) (tgt := 17) C dX2_sortOf_13 (by decide) ?_
    exact V_iret (pc := 17) C (gdo h hG) dX2_sortOf_17
def X2_sizeOf (v1 : Int32) (mh : vMH) : Option (Int32) := (if (X5_isSheet v1) = 0 then (some 0) else (chk (inb v1 4) (some (mh.1 31 (jn v1)))))
set_option maxRecDepth 100000 in
set_option maxHeartbeats 8000000 in
theorem c_X2_sizeOf (d : Nat) (v1 : Int32) (mh : vMH) {res : Int32} (h : X2_sizeOf v1 mh = some res) : MC LC (d + 1) yX2_sizeOf cX2_sizeOf 2 (some .int) [.ref 8, .int v1] mh (some (.int res)) mh := by
  refine MC_of 0 (by decide) rfl (fun X C hG => ?_)
  replace C : Cx X (d + 1) 2 cX2_sizeOf RX2 (some .int) := C
  show Vw LC X (d + 1) 2 0 [some (.ref 8), some (.int v1)] [] mh
  unfold X2_sizeOf at h
  refine V_iload_n (pc := 0) C dX2_sizeOf_0 rfl rfl ?_
  refine V_callNi (pc := 1) (rest := []) C cs_X2_21 (c_X5_isSheet (d + 0) v1 mh) (by omega) (by decide) rfl rfl (Nat.le_of_ble_eq_true rfl) dX2_sizeOf_1 ?_
  refine V_ifeq (pc := 4) (tgt := 16) C dX2_sizeOf_4 (by decide) (fun hc1 => ?_) (fun hc1 => ?_)
  · have h := it_t h hc1
    refine V_iconst (pc := 16) C (v := 0) dX2_sizeOf_16 (by decide) ?_
    exact V_iret (pc := 17) C (gdo h hG) dX2_sizeOf_17
  · have h := it_f h hc1
    refine V_aload_n (pc := 7) C dX2_sizeOf_7 rfl rfl ?_
    refine V_getR (pc := 8) C (r' := 31) CF2 fl_X2_15 LO2 (by decide) rfl dX2_sizeOf_8 ?_
    refine V_iload_n (pc := 11) C dX2_sizeOf_11 rfl rfl ?_
    obtain ⟨hi2, h⟩ := chk_ok h
    refine V_iald (pc := 12) C LAC31 hi2 dX2_sizeOf_12 (v := (mh.1 31 (jn v1))) rfl ?_
    refine V_goto (pc := 13) (tgt := 17) C dX2_sizeOf_13 (by decide) ?_
    exact V_iret (pc := 17) C (gdo h hG) dX2_sizeOf_17
def X2_make_L30 (v1 : Int32) (rec5 : Int32 → vMH → Option (vMH)) (v4_3 : Int32) (mh4 : vMH) : Option (vMH) := (if 40 ≤ v4_3 then (some mh4) else (chk (inb ((v1 * 40) + v4_3) 160) (rec5 (v4_3 + 1) (v_up mh4 32 (jn ((v1 * 40) + v4_3)) 0))))
def X2_make (v1 : Int32) (v2 : Int32) (v3 : Int32) (mh : vMH) : Option (vMH) := (if (X5_isSheet v1) = 0 then (some mh) else (chk (inb v1 4) (lq2 4096 (X2_make_L30 v1) 0 (v_up (v_up mh 30 (jn v1) v2) 31 (jn v1) (X5_held v3 40)))))
set_option maxRecDepth 100000 in
set_option maxHeartbeats 8000000 in
theorem c_X2_make (d : Nat) (v1 : Int32) (v2 : Int32) (v3 : Int32) (mh : vMH) {res : vMH} (h : X2_make v1 v2 v3 mh = some res) : MC LC (d + 1) yX2_make cX2_make 5 none [.ref 8, .int v1, .int v2, .int v3] mh none res := by
  refine MC_of 1 (by decide) rfl (fun X C hG => ?_)
  replace C : Cx X (d + 1) 5 cX2_make RX2 none := C
  show Vw LC X (d + 1) 5 0 [some (.ref 8), some (.int v1), some (.int v2), some (.int v3), none] [] mh
  unfold X2_make at h
  refine V_iload_n (pc := 0) C dX2_make_0 rfl rfl ?_
  refine V_callNi (pc := 1) (rest := []) C cs_X2_21 (c_X5_isSheet (d + 0) v1 mh) (by omega) (by decide) rfl rfl (Nat.le_of_ble_eq_true rfl) dX2_make_1 ?_
  refine V_ifne (pc := 4) (tgt := 8) C dX2_make_4 (by decide) (fun hc1 => ?_) (fun hc1 => ?_)
  · have h := it_f h hc1
    refine V_aload_n (pc := 8) C dX2_make_8 rfl rfl ?_
    refine V_getR (pc := 9) C (r' := 30) CF2 fl_X2_9 LO2 (by decide) rfl dX2_make_9 ?_
    refine V_iload_n (pc := 12) C dX2_make_12 rfl rfl ?_
    refine V_iload_n (pc := 13) C dX2_make_13 rfl rfl ?_
    obtain ⟨hi2, h⟩ := chk_ok h
    refine V_iast (pc := 14) C LAC30 hi2 dX2_make_14 ?_
    refine V_aload_n (pc := 15) C dX2_make_15 rfl rfl ?_
    refine V_getR (pc := 16) C (r' := 31) CF2 fl_X2_15 LO2 (by decide) rfl dX2_make_16 ?_
    refine V_iload_n (pc := 19) C dX2_make_19 rfl rfl ?_
    refine V_iload_n (pc := 20) C dX2_make_20 rfl rfl ?_
    refine V_bipush (pc := 21) C (v := 40) dX2_make_21 (by decide) ?_
    refine V_callNi (pc := 23) (rest := [.int v1, .ref 31]) C cs_X2_29 (c_X5_held (d + 0) v3 40 (v_up mh 30 (jn v1) v2)) (by omega) (by decide) rfl rfl (Nat.le_of_ble_eq_true rfl) dX2_make_23 ?_
    refine V_iast (pc := 26) C LAC31 hi2 dX2_make_26 ?_
    refine V_iconst (pc := 27) C (v := 0) dX2_make_27 (by decide) ?_
    refine V_istore (pc := 28) C (lv' := [some (.ref 8), some (.int v1), some (.int v2), some (.int v3), some (.int 0)]) dX2_make_28 (by decide) (Nat.le_of_ble_eq_true rfl) rfl rfl ?_
    refine lq2_ok (fun (v4_3 : Int32) (mh4 : vMH) => Vw LC X (d + 1) 5 30 [some (.ref 8), some (.int v1), some (.int v2), some (.int v3), some (.int v4_3)] [] mh4) h (fun rec5 hrec5 v4_3 mh4 h => ?_)
    unfold X2_make_L30 at h
    refine V_iload (pc := 30) C dX2_make_30 rfl ?_
    refine V_bipush (pc := 32) C (v := 40) dX2_make_32 (by decide) ?_
    refine V_icmpge (pc := 34) (tgt := 56) C dX2_make_34 (by decide) (fun hc6 => ?_) (fun hc6 => ?_)
    · have h := it_t h hc6
      exact V_ret0 (pc := 56) C (gdov h hG) dX2_make_56
    · have h := it_f h hc6
      refine V_aload_n (pc := 37) C dX2_make_37 rfl rfl ?_
      refine V_getR (pc := 38) C (r' := 32) CF2 fl_X2_18 LO2 (by decide) rfl dX2_make_38 ?_
      refine V_iload_n (pc := 41) C dX2_make_41 rfl rfl ?_
      refine V_bipush (pc := 42) C (v := 40) dX2_make_42 (by decide) ?_
      refine V_imul (pc := 44) C dX2_make_44 ?_
      refine V_iload (pc := 45) C dX2_make_45 rfl ?_
      refine V_iadd (pc := 47) C dX2_make_47 ?_
      refine V_iconst (pc := 48) C (v := 0) dX2_make_48 (by decide) ?_
      obtain ⟨hi7, h⟩ := chk_ok h
      refine V_iast (pc := 49) C LAC32 hi7 dX2_make_49 ?_
      refine V_iinc (pc := 50) C (v := (v4_3 + 1)) (lv' := [some (.ref 8), some (.int v1), some (.int v2), some (.int v3), some (.int (v4_3 + 1))]) dX2_make_50 rfl rfl (by decide) (Nat.le_of_ble_eq_true rfl) rfl rfl ?_
      refine V_goto (pc := 53) (tgt := 30) C dX2_make_53 (by decide) ?_
      exact hrec5 (v4_3 + 1) (v_up mh4 32 (jn ((v1 * 40) + v4_3)) 0) h
  · have h := it_t h hc1
    exact V_ret0 (pc := 7) C (gdov h hG) dX2_make_7
