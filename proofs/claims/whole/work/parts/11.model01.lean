def X6_isLetter (v1 : Int32) (v2 : Int32) (mh : vMH) : Option (Int32) := (if (mh.1 0 25) ≤ ((mh.1 0 27) + v1) then (if v2 = 0 then (some 1) else (some 0)) else ((X6_byteAt ((mh.1 0 27) + v1) mh).bind fun q3 => (if q3 = v2 then (some 1) else (some 0))))
set_option maxRecDepth 100000 in
set_option maxHeartbeats 8000000 in
theorem c_X6_isLetter (d : Nat) (v1 : Int32) (v2 : Int32) (mh : vMH) {res : Int32} (h : X6_isLetter v1 v2 mh = some res) : MC LM (d + 1) yX6_isLetter cX6_isLetter 3 (some .boolean) [.ref 0, .int v1, .int v2] mh (some (.int res)) mh := by
  refine MC_of 0 (by decide) rfl (fun X C hG => ?_)
  replace C : Cx X (d + 1) 3 cX6_isLetter RX6 (some .boolean) := C
  show Vw LM X (d + 1) 3 0 [some (.ref 0), some (.int v1), some (.int v2)] [] mh
  unfold X6_isLetter at h
  refine V_aload_n (pc := 0) C dX6_isLetter_0 rfl rfl ?_
  refine V_getI (pc := 1) C CF6 fl_X6_143 LO6 (by decide) rfl dX6_isLetter_1 (v := (mh.1 0 27)) rfl ?_
  refine V_iload_n (pc := 4) C dX6_isLetter_4 rfl rfl ?_
  refine V_iadd (pc := 5) C dX6_isLetter_5 ?_
  refine V_aload_n (pc := 6) C dX6_isLetter_6 rfl rfl ?_
  refine V_getI (pc := 7) C CF6 fl_X6_137 LO6 (by decide) rfl dX6_isLetter_7 (v := (mh.1 0 25)) rfl ?_
  refine V_icmpge (pc := 10) (tgt := 35) C dX6_isLetter_10 (by decide) (fun hc1 => ?_) (fun hc1 => ?_)
  · have h := it_t h hc1
    refine V_iload_n (pc := 35) C dX6_isLetter_35 rfl rfl ?_
    refine V_ifne (pc := 36) (tgt := 43) C dX6_isLetter_36 (by decide) (fun hc2 => ?_) (fun hc2 => ?_)
    · have h := it_f h hc2
      refine V_iconst (pc := 43) C (v := 0) dX6_isLetter_43 (by decide) ?_
      exact V_zret (pc := 44) C rfl (gdo h hG) dX6_isLetter_44
    · have h := it_t h hc2
      refine V_iconst (pc := 39) C (v := 1) dX6_isLetter_39 (by decide) ?_
      refine V_goto (pc := 40) (tgt := 44) C dX6_isLetter_40 (by decide) ?_
      exact V_zret (pc := 44) C rfl (gdo h hG) dX6_isLetter_44
  · have h := it_f h hc1
    refine V_aload_n (pc := 13) C dX6_isLetter_13 rfl rfl ?_
    refine V_aload_n (pc := 14) C dX6_isLetter_14 rfl rfl ?_
    refine V_getI (pc := 15) C CF6 fl_X6_143 LO6 (by decide) rfl dX6_isLetter_15 (v := (mh.1 0 27)) rfl ?_
    refine V_iload_n (pc := 18) C dX6_isLetter_18 rfl rfl ?_
    refine V_iadd (pc := 19) C dX6_isLetter_19 ?_
    obtain ⟨q3, hq4, h⟩ := bnd_ok h
    refine V_callVi (pc := 20) (rest := []) C cs_X6_140 (c_X6_byteAt (d + 0) ((mh.1 0 27) + v1) mh hq4) CF6.1 LO6 (by omega) (by decide) rfl rfl (Nat.le_of_ble_eq_true rfl) dX6_isLetter_20 ?_
    refine V_iload_n (pc := 23) C dX6_isLetter_23 rfl rfl ?_
    refine V_icmpne (pc := 24) (tgt := 31) C dX6_isLetter_24 (by decide) (fun hc5 => ?_) (fun hc5 => ?_)
    · have h := it_f h hc5
      refine V_iconst (pc := 31) C (v := 0) dX6_isLetter_31 (by decide) ?_
      refine V_goto (pc := 32) (tgt := 44) C dX6_isLetter_32 (by decide) ?_
      exact V_zret (pc := 44) C rfl (gdo h hG) dX6_isLetter_44
    · have h := it_t h hc5
      refine V_iconst (pc := 27) C (v := 1) dX6_isLetter_27 (by decide) ?_
      refine V_goto (pc := 28) (tgt := 44) C dX6_isLetter_28 (by decide) ?_
      exact V_zret (pc := 44) C rfl (gdo h hG) dX6_isLetter_44
def X6_isWord (v1 : Int32) (v2 : Int32) (v3 : Int32) (v4 : Int32) (v5 : Int32) (v6 : Int32) (v7 : Int32) (v8 : Int32) (mh : vMH) : Option (Int32) := (if (mh.1 0 30) = 0 then (if (mh.1 0 26) = 1 then (if ((mh.1 0 27) + 8) < (mh.1 0 25) then (some 0) else ((X6_isLetter 0 v1 mh).bind fun q4 => (if q4 = 0 then (some 0) else ((X6_isLetter 1 v2 mh).bind fun q7 => (if q7 = 0 then (some 0) else ((X6_isLetter 2 v3 mh).bind fun q10 => (if q10 = 0 then (some 0) else ((X6_isLetter 3 v4 mh).bind fun q13 => (if q13 = 0 then (some 0) else ((X6_isLetter 4 v5 mh).bind fun q16 => (if q16 = 0 then (some 0) else ((X6_isLetter 5 v6 mh).bind fun q19 => (if q19 = 0 then (some 0) else ((X6_isLetter 6 v7 mh).bind fun q22 => (if q22 = 0 then (some 0) else ((X6_isLetter 7 v8 mh).bind fun q25 => (if q25 = 0 then (some 0) else (some 1)))))))))))))))))) else (some 0)) else (some 0))
set_option maxRecDepth 100000 in
set_option maxHeartbeats 8000000 in
theorem c_X6_isWord (d : Nat) (v1 : Int32) (v2 : Int32) (v3 : Int32) (v4 : Int32) (v5 : Int32) (v6 : Int32) (v7 : Int32) (v8 : Int32) (mh : vMH) {res : Int32} (h : X6_isWord v1 v2 v3 v4 v5 v6 v7 v8 mh = some res) : MC LM (d + 2) yX6_isWord cX6_isWord 9 (some .boolean) [.ref 0, .int v1, .int v2, .int v3, .int v4, .int v5, .int v6, .int v7, .int v8] mh (some (.int res)) mh := by
  refine MC_of 0 (by decide) rfl (fun X C hG => ?_)
  replace C : Cx X (d + 2) 9 cX6_isWord RX6 (some .boolean) := C
  show Vw LM X (d + 2) 9 0 [some (.ref 0), some (.int v1), some (.int v2), some (.int v3), some (.int v4), some (.int v5), some (.int v6), some (.int v7), some (.int v8)] [] mh
  unfold X6_isWord at h
  refine V_aload_n (pc := 0) C dX6_isWord_0 rfl rfl ?_
  refine V_getI (pc := 1) C CF6 fl_X6_163 LO6 (by decide) rfl dX6_isWord_1 (v := (mh.1 0 30)) rfl ?_
  refine V_ifne (pc := 4) (tgt := 112) C dX6_isWord_4 (by decide) (fun hc1 => ?_) (fun hc1 => ?_)
  · have h := it_f h hc1
    refine V_iconst (pc := 112) C (v := 0) dX6_isWord_112 (by decide) ?_
    exact V_zret (pc := 113) C rfl (gdo h hG) dX6_isWord_113
  · have h := it_t h hc1
    refine V_aload_n (pc := 7) C dX6_isWord_7 rfl rfl ?_
    refine V_getI (pc := 8) C CF6 fl_X6_146 LO6 (by decide) rfl dX6_isWord_8 (v := (mh.1 0 26)) rfl ?_
    refine V_iconst (pc := 11) C (v := 1) dX6_isWord_11 (by decide) ?_
    refine V_icmpne (pc := 12) (tgt := 112) C dX6_isWord_12 (by decide) (fun hc2 => ?_) (fun hc2 => ?_)
    · have h := it_f h hc2
      refine V_iconst (pc := 112) C (v := 0) dX6_isWord_112 (by decide) ?_
      exact V_zret (pc := 113) C rfl (gdo h hG) dX6_isWord_113
    · have h := it_t h hc2
      refine V_aload_n (pc := 15) C dX6_isWord_15 rfl rfl ?_
      refine V_getI (pc := 16) C CF6 fl_X6_137 LO6 (by decide) rfl dX6_isWord_16 (v := (mh.1 0 25)) rfl ?_
      refine V_aload_n (pc := 19) C dX6_isWord_19 rfl rfl ?_
      refine V_getI (pc := 20) C CF6 fl_X6_143 LO6 (by decide) rfl dX6_isWord_20 (v := (mh.1 0 27)) rfl ?_
      refine V_bipush (pc := 23) C (v := 8) dX6_isWord_23 (by decide) ?_
      refine V_iadd (pc := 25) C dX6_isWord_25 ?_
      refine V_icmpgt (pc := 26) (tgt := 112) C dX6_isWord_26 (by decide) (fun hc3 => ?_) (fun hc3 => ?_)
      · have h := it_t h hc3
        refine V_iconst (pc := 112) C (v := 0) dX6_isWord_112 (by decide) ?_
        exact V_zret (pc := 113) C rfl (gdo h hG) dX6_isWord_113
      · have h := it_f h hc3
        refine V_aload_n (pc := 29) C dX6_isWord_29 rfl rfl ?_
        refine V_iconst (pc := 30) C (v := 0) dX6_isWord_30 (by decide) ?_
        refine V_iload_n (pc := 31) C dX6_isWord_31 rfl rfl ?_
        obtain ⟨q4, hq5, h⟩ := bnd_ok h
        refine V_callVi (pc := 32) (rest := []) C cs_X6_170 (c_X6_isLetter (d + 0) 0 v1 mh hq5) CF6.1 LO6 (by omega) (by decide) rfl rfl (Nat.le_of_ble_eq_true rfl) dX6_isWord_32 ?_
        refine V_ifeq (pc := 35) (tgt := 112) C dX6_isWord_35 (by decide) (fun hc6 => ?_) (fun hc6 => ?_)
        · have h := it_t h hc6
          refine V_iconst (pc := 112) C (v := 0) dX6_isWord_112 (by decide) ?_
          exact V_zret (pc := 113) C rfl (gdo h hG) dX6_isWord_113
        · have h := it_f h hc6
          refine V_aload_n (pc := 38) C dX6_isWord_38 rfl rfl ?_
          refine V_iconst (pc := 39) C (v := 1) dX6_isWord_39 (by decide) ?_
          refine V_iload_n (pc := 40) C dX6_isWord_40 rfl rfl ?_
          obtain ⟨q7, hq8, h⟩ := bnd_ok h
          refine V_callVi (pc := 41) (rest := []) C cs_X6_170 (c_X6_isLetter (d + 0) 1 v2 mh hq8) CF6.1 LO6 (by omega) (by decide) rfl rfl (Nat.le_of_ble_eq_true rfl) dX6_isWord_41 ?_
          refine V_ifeq (pc := 44) (tgt := 112) C dX6_isWord_44 (by decide) (fun hc9 => ?_) (fun hc9 => ?_)
          · have h := it_t h hc9
            refine V_iconst (pc := 112) C (v := 0) dX6_isWord_112 (by decide) ?_
            exact V_zret (pc := 113) C rfl (gdo h hG) dX6_isWord_113
          · have h := it_f h hc9
            refine V_aload_n (pc := 47) C dX6_isWord_47 rfl rfl ?_
            refine V_iconst (pc := 48) C (v := 2) dX6_isWord_48 (by decide) ?_
            refine V_iload_n (pc := 49) C dX6_isWord_49 rfl rfl ?_
            obtain ⟨q10, hq11, h⟩ := bnd_ok h
            refine V_callVi (pc := 50) (rest := []) C cs_X6_170 (c_X6_isLetter (d + 0) 2 v3 mh hq11) CF6.1 LO6 (by omega) (by decide) rfl rfl (Nat.le_of_ble_eq_true rfl) dX6_isWord_50 ?_
            refine V_ifeq (pc := 53) (tgt := 112) C dX6_isWord_53 (by decide) (fun hc12 => ?_) (fun hc12 => ?_)
            · have h := it_t h hc12
              refine V_iconst (pc := 112) C (v := 0) dX6_isWord_112 (by decide) ?_
              exact V_zret (pc := 113) C rfl (gdo h hG) dX6_isWord_113
            · have h := it_f h hc12
              refine V_aload_n (pc := 56) C dX6_isWord_56 rfl rfl ?_
              refine V_iconst (pc := 57) C (v := 3) dX6_isWord_57 (by decide) ?_
              refine V_iload (pc := 58) C dX6_isWord_58 rfl ?_
              obtain ⟨q13, hq14, h⟩ := bnd_ok h
              refine V_callVi (pc := 60) (rest := []) C cs_X6_170 (c_X6_isLetter (d + 0) 3 v4 mh hq14) CF6.1 LO6 (by omega) (by decide) rfl rfl (Nat.le_of_ble_eq_true rfl) dX6_isWord_60 ?_
              refine V_ifeq (pc := 63) (tgt := 112) C dX6_isWord_63 (by decide) (fun hc15 => ?_) (fun hc15 => ?_)
              · have h := it_t h hc15
                refine V_iconst (pc := 112) C (v := 0) dX6_isWord_112 (by decide) ?_
                exact V_zret (pc := 113) C rfl (gdo h hG) dX6_isWord_113
              · have h := it_f h hc15
                refine V_aload_n (pc := 66) C dX6_isWord_66 rfl rfl ?_
                refine V_iconst (pc := 67) C (v := 4) dX6_isWord_67 (by decide) ?_
                refine V_iload (pc := 68) C dX6_isWord_68 rfl ?_
                obtain ⟨q16, hq17, h⟩ := bnd_ok h
                refine V_callVi (pc := 70) (rest := []) C cs_X6_170 (c_X6_isLetter (d + 0) 4 v5 mh hq17) CF6.1 LO6 (by omega) (by decide) rfl rfl (Nat.le_of_ble_eq_true rfl) dX6_isWord_70 ?_
                refine V_ifeq (pc := 73) (tgt := 112) C dX6_isWord_73 (by decide) (fun hc18 => ?_) (fun hc18 => ?_)
                · have h := it_t h hc18
                  refine V_iconst (pc := 112) C (v := 0) dX6_isWord_112 (by decide) ?_
                  exact V_zret (pc := 113) C rfl (gdo h hG) dX6_isWord_113
                · have h := it_f h hc18
                  refine V_aload_n (pc := 76) C dX6_isWord_76 rfl rfl ?_
                  refine V_iconst (pc := 77) C (v := 5) dX6_isWord_77 (by decide) ?_
                  refine V_iload (pc := 78) C dX6_isWord_78 rfl ?_
                  obtain ⟨q19, hq20, h⟩ := bnd_ok h
                  refine V_callVi (pc := 80) (rest := []) C cs_X6_170 (c_X6_isLetter (d + 0) 5 v6 mh hq20) CF6.1 LO6 (by omega) (by decide) rfl rfl (Nat.le_of_ble_eq_true rfl) dX6_isWord_80 ?_
                  refine V_ifeq (pc := 83) (tgt := 112) C dX6_isWord_83 (by decide) (fun hc21 => ?_) (fun hc21 => ?_)
                  · have h := it_t h hc21
                    refine V_iconst (pc := 112) C (v := 0) dX6_isWord_112 (by decide) ?_
                    exact V_zret (pc := 113) C rfl (gdo h hG) dX6_isWord_113
                  · have h := it_f h hc21
                    refine V_aload_n (pc := 86) C dX6_isWord_86 rfl rfl ?_
                    refine V_bipush (pc := 87) C (v := 6) dX6_isWord_87 (by decide) ?_
                    refine V_iload (pc := 89) C dX6_isWord_89 rfl ?_
                    obtain ⟨q22, hq23, h⟩ := bnd_ok h
                    refine V_callVi (pc := 91) (rest := []) C cs_X6_170 (c_X6_isLetter (d + 0) 6 v7 mh hq23) CF6.1 LO6 (by omega) (by decide) rfl rfl (Nat.le_of_ble_eq_true rfl) dX6_isWord_91 ?_
                    refine V_ifeq (pc := 94) (tgt := 112) C dX6_isWord_94 (by decide) (fun hc24 => ?_) (fun hc24 => ?_)
                    · have h := it_t h hc24
                      refine V_iconst (pc := 112) C (v := 0) dX6_isWord_112 (by decide) ?_
                      exact V_zret (pc := 113) C rfl (gdo h hG) dX6_isWord_113
                    · have h := it_f h hc24
                      refine V_aload_n (pc := 97) C dX6_isWord_97 rfl rfl ?_
                      refine V_bipush (pc := 98) C (v := 7) dX6_isWord_98 (by decide) ?_
                      refine V_iload (pc := 100) C dX6_isWord_100 rfl ?_
                      obtain ⟨q25, hq26, h⟩ := bnd_ok h
                      refine V_callVi (pc := 102) (rest := []) C cs_X6_170 (c_X6_isLetter (d + 0) 7 v8 mh hq26) CF6.1 LO6 (by omega) (by decide) rfl rfl (Nat.le_of_ble_eq_true rfl) dX6_isWord_102 ?_
                      refine V_ifeq (pc := 105) (tgt := 112) C dX6_isWord_105 (by decide) (fun hc27 => ?_) (fun hc27 => ?_)
                      · have h := it_t h hc27
                        refine V_iconst (pc := 112) C (v := 0) dX6_isWord_112 (by decide) ?_
                        exact V_zret (pc := 113) C rfl (gdo h hG) dX6_isWord_113
                      · have h := it_f h hc27
                        refine V_iconst (pc := 108) C (v := 1) dX6_isWord_108 (by decide) ?_
                        refine V_goto (pc := 109) (tgt := 113) C dX6_isWord_109 (by decide) ?_
                        exact V_zret (pc := 113) C rfl (gdo h hG) dX6_isWord_113
def X6_fail (mh : vMH) : vMH := (if (mh.1 0 30) = 0 then (v_up (v_up mh 0 30 1) 0 31 (mh.1 0 27)) else mh)
set_option maxRecDepth 100000 in
set_option maxHeartbeats 8000000 in
theorem c_X6_fail (d : Nat)  (mh : vMH) : MC LM (d + 0) yX6_fail cX6_fail 1 none [.ref 0] mh none (X6_fail mh) := by
  refine MC_of 0 (by decide) rfl (fun X C hG => ?_)
  replace C : Cx X (d + 0) 1 cX6_fail RX6 none := C
  show Vw LM X (d + 0) 1 0 [some (.ref 0)] [] mh
  obtain ⟨res, h⟩ : ∃ res, X6_fail mh = res := ⟨_, rfl⟩
  rw [h] at hG
  unfold X6_fail at h
  refine V_aload_n (pc := 0) C dX6_fail_0 rfl rfl ?_
  refine V_getI (pc := 1) C CF6 fl_X6_163 LO6 (by decide) rfl dX6_fail_1 (v := (mh.1 0 30)) rfl ?_
  refine V_ifne (pc := 4) (tgt := 20) C dX6_fail_4 (by decide) (fun hc1 => ?_) (fun hc1 => ?_)
  · have h := it_f h hc1
    exact V_ret0 (pc := 20) C (gdtv h hG) dX6_fail_20
  · have h := it_t h hc1
    refine V_aload_n (pc := 7) C dX6_fail_7 rfl rfl ?_
    refine V_iconst (pc := 8) C (v := 1) dX6_fail_8 (by decide) ?_
    refine V_putT (pc := 9) C (t0 := .boolean) CF6 fl_X6_163 LO6 (by decide) rfl rfl rfl rfl rfl dX6_fail_9 ?_
    refine V_aload_n (pc := 12) C dX6_fail_12 rfl rfl ?_
    refine V_aload_n (pc := 13) C dX6_fail_13 rfl rfl ?_
    refine V_getI (pc := 14) C CF6 fl_X6_143 LO6 (by decide) rfl dX6_fail_14 (v := (mh.1 0 27)) (rd_k (by decide)) ?_
    refine V_putI (pc := 17) C CF6 fl_X6_167 LO6 (by decide) rfl rfl rfl dX6_fail_17 ?_
    exact V_ret0 (pc := 20) C (gdtv h hG) dX6_fail_20
def X6_isSign (v1 : Int32) (mh : vMH) : Int32 := (if (mh.1 0 30) = 0 then (if (mh.1 0 26) = 3 then (if (lg_cmp mh.2 (Int32.toInt64 v1)) = 0 then 1 else 0) else 0) else 0)
set_option maxRecDepth 100000 in
set_option maxHeartbeats 8000000 in
theorem c_X6_isSign (d : Nat) (v1 : Int32) (mh : vMH) : MC LM (d + 0) yX6_isSign cX6_isSign 2 (some .boolean) [.ref 0, .int v1] mh (some (.int (X6_isSign v1 mh))) mh := by
  refine MC_of 0 (by decide) rfl (fun X C hG => ?_)
  replace C : Cx X (d + 0) 2 cX6_isSign RX6 (some .boolean) := C
  show Vw LM X (d + 0) 2 0 [some (.ref 0), some (.int v1)] [] mh
  obtain ⟨res, h⟩ : ∃ res, X6_isSign v1 mh = res := ⟨_, rfl⟩
  rw [h] at hG
  unfold X6_isSign at h
  refine V_aload_n (pc := 0) C dX6_isSign_0 rfl rfl ?_
  refine V_getI (pc := 1) C CF6 fl_X6_163 LO6 (by decide) rfl dX6_isSign_1 (v := (mh.1 0 30)) rfl ?_
  refine V_ifne (pc := 4) (tgt := 29) C dX6_isSign_4 (by decide) (fun hc1 => ?_) (fun hc1 => ?_)
  · have h := it_f h hc1
    refine V_iconst (pc := 29) C (v := 0) dX6_isSign_29 (by decide) ?_
    exact V_zret (pc := 30) C rfl (gdt h hG) dX6_isSign_30
  · have h := it_t h hc1
    refine V_aload_n (pc := 7) C dX6_isSign_7 rfl rfl ?_
    refine V_getI (pc := 8) C CF6 fl_X6_146 LO6 (by decide) rfl dX6_isSign_8 (v := (mh.1 0 26)) rfl ?_
    refine V_iconst (pc := 11) C (v := 3) dX6_isSign_11 (by decide) ?_
    refine V_icmpne (pc := 12) (tgt := 29) C dX6_isSign_12 (by decide) (fun hc2 => ?_) (fun hc2 => ?_)
    · have h := it_f h hc2
      refine V_iconst (pc := 29) C (v := 0) dX6_isSign_29 (by decide) ?_
      exact V_zret (pc := 30) C rfl (gdt h hG) dX6_isSign_30
    · have h := it_t h hc2
      refine V_aload_n (pc := 15) C dX6_isSign_15 rfl rfl ?_
      refine V_getL (pc := 16) C CF6 fl_X6_157 LO6 (by decide) rfl dX6_isSign_16 (v := mh.2) rfl ?_
      refine V_iload_n (pc := 19) C dX6_isSign_19 rfl rfl ?_
      refine V_i2l (pc := 20) C dX6_isSign_20 ?_
      refine V_lcmp (pc := 21) C dX6_isSign_21 ?_
      refine V_ifne (pc := 22) (tgt := 29) C dX6_isSign_22 (by decide) (fun hc3 => ?_) (fun hc3 => ?_)
      · have h := it_f h hc3
        refine V_iconst (pc := 29) C (v := 0) dX6_isSign_29 (by decide) ?_
        exact V_zret (pc := 30) C rfl (gdt h hG) dX6_isSign_30
      · have h := it_t h hc3
        refine V_iconst (pc := 25) C (v := 1) dX6_isSign_25 (by decide) ?_
        refine V_goto (pc := 26) (tgt := 30) C dX6_isSign_26 (by decide) ?_
        exact V_zret (pc := 30) C rfl (gdt h hG) dX6_isSign_30
theorem z_X6_isSign (v1 : Int32) (mh : vMH) : narrow .boolean (.int (X6_isSign v1 mh)) = .int (X6_isSign v1 mh) := by
  unfold X6_isSign
  (repeat' split) <;> first | rfl | exact z_X6_in _ _ _
def X6_opens (mh : vMH) : Option (Int32 × vMH) := (if (mh.1 0 29) = 5 then (some (0, (X6_fail mh))) else ((X6_next (v_up mh 0 29 ((mh.1 0 29) + 1))).bind fun q2 => (some (1, q2))))
set_option maxRecDepth 100000 in
set_option maxHeartbeats 8000000 in
theorem c_X6_opens (d : Nat)  (mh : vMH) {res : Int32 × vMH} (h : X6_opens mh = some res) : MC LM (d + 2) yX6_opens cX6_opens 1 (some .boolean) [.ref 0] mh (some (.int res.1)) res.2 := by
  refine MC_of 0 (by decide) rfl (fun X C hG => ?_)
  replace C : Cx X (d + 2) 1 cX6_opens RX6 (some .boolean) := C
  show Vw LM X (d + 2) 1 0 [some (.ref 0)] [] mh
  unfold X6_opens at h
  refine V_aload_n (pc := 0) C dX6_opens_0 rfl rfl ?_
  refine V_getI (pc := 1) C CF6 fl_X6_174 LO6 (by decide) rfl dX6_opens_1 (v := (mh.1 0 29)) rfl ?_
  refine V_iconst (pc := 4) C (v := 5) dX6_opens_4 (by decide) ?_
  refine V_icmpne (pc := 5) (tgt := 14) C dX6_opens_5 (by decide) (fun hc1 => ?_) (fun hc1 => ?_)
  · have h := it_f h hc1
    refine V_aload_n (pc := 14) C dX6_opens_14 rfl rfl ?_
    refine V_dup (pc := 15) C dX6_opens_15 rfl ?_
    refine V_getI (pc := 16) C CF6 fl_X6_174 LO6 (by decide) rfl dX6_opens_16 (v := (mh.1 0 29)) rfl ?_
    refine V_iconst (pc := 19) C (v := 1) dX6_opens_19 (by decide) ?_
    refine V_iadd (pc := 20) C dX6_opens_20 ?_
    refine V_putI (pc := 21) C CF6 fl_X6_174 LO6 (by decide) rfl rfl rfl dX6_opens_21 ?_
    refine V_aload_n (pc := 24) C dX6_opens_24 rfl rfl ?_
    obtain ⟨q2, hq3, h⟩ := bnd_ok h
    refine V_callVv (pc := 25) (rest := []) C cs_X6_180 (c_X6_next (d + 0) (v_up mh 0 29 ((mh.1 0 29) + 1)) hq3) CF6.1 LO6 (by omega) (by decide) rfl rfl (Nat.le_of_ble_eq_true rfl) dX6_opens_25 ?_
    refine V_iconst (pc := 28) C (v := 1) dX6_opens_28 (by decide) ?_
    exact V_zret (pc := 29) C rfl (gdow h hG) dX6_opens_29
  · have h := it_t h hc1
    refine V_aload_n (pc := 8) C dX6_opens_8 rfl rfl ?_
    refine V_callVv (pc := 9) (rest := []) C cs_X6_177 (c_X6_fail (d + 1) mh) CF6.1 LO6 (by omega) (by decide) rfl rfl (Nat.le_of_ble_eq_true rfl) dX6_opens_9 ?_
    refine V_iconst (pc := 12) C (v := 0) dX6_opens_12 (by decide) ?_
    exact V_zret (pc := 13) C rfl (gdow h hG) dX6_opens_13
def X6_name (mh : vMH) : Option (Int32 × vMH) := ((X6_isWord 116 111 110 101 0 0 0 0 mh).bind fun q1 => (if q1 = 0 then ((X6_isWord 108 111 117 100 0 0 0 0 mh).bind fun q4 => (if q4 = 0 then ((X6_isWord 119 101 116 0 0 0 0 0 mh).bind fun q7 => (if q7 = 0 then ((X6_isWord 112 108 97 116 101 0 0 0 mh).bind fun q10 => (if q10 = 0 then ((X6_isWord 121 0 0 0 0 0 0 0 mh).bind fun q13 => (if q13 = 0 then ((X6_isWord 120 0 0 0 0 0 0 0 mh).bind fun q16 => (if q16 = 0 then (some (0, (X6_fail mh))) else (some ((mh.1 0 22), mh)))) else (some ((mh.1 0 21), mh)))) else (some ((mh.1 0 20), mh)))) else (some ((mh.1 0 19), mh)))) else (some ((mh.1 0 18), mh)))) else (some ((mh.1 0 17), mh))))
set_option maxRecDepth 100000 in
set_option maxHeartbeats 8000000 in
theorem c_X6_name (d : Nat)  (mh : vMH) {res : Int32 × vMH} (h : X6_name mh = some res) : MC LM (d + 3) yX6_name cX6_name 1 (some .int) [.ref 0] mh (some (.int res.1)) res.2 := by
  refine MC_of 0 (by decide) rfl (fun X C hG => ?_)
  replace C : Cx X (d + 3) 1 cX6_name RX6 (some .int) := C
  show Vw LM X (d + 3) 1 0 [some (.ref 0)] [] mh
  unfold X6_name at h
  refine V_aload_n (pc := 0) C dX6_name_0 rfl rfl ?_
  refine V_bipush (pc := 1) C (v := 116) dX6_name_1 (by decide) ?_
  refine V_bipush (pc := 3) C (v := 111) dX6_name_3 (by decide) ?_
  refine V_bipush (pc := 5) C (v := 110) dX6_name_5 (by decide) ?_
  refine V_bipush (pc := 7) C (v := 101) dX6_name_7 (by decide) ?_
  refine V_iconst (pc := 9) C (v := 0) dX6_name_9 (by decide) ?_
  refine V_iconst (pc := 10) C (v := 0) dX6_name_10 (by decide) ?_
  refine V_iconst (pc := 11) C (v := 0) dX6_name_11 (by decide) ?_
  refine V_iconst (pc := 12) C (v := 0) dX6_name_12 (by decide) ?_
  obtain ⟨q1, hq2, h⟩ := bnd_ok h
  refine V_callVi (pc := 13) (rest := []) C cs_X6_183 (c_X6_isWord (d + 0) 116 111 110 101 0 0 0 0 mh hq2) CF6.1 LO6 (by omega) (by decide) rfl rfl (Nat.le_of_ble_eq_true rfl) dX6_name_13 ?_
  refine V_ifeq (pc := 16) (tgt := 24) C dX6_name_16 (by decide) (fun hc3 => ?_) (fun hc3 => ?_)
  · have h := it_t h hc3
    refine V_aload_n (pc := 24) C dX6_name_24 rfl rfl ?_
    refine V_bipush (pc := 25) C (v := 108) dX6_name_25 (by decide) ?_
    refine V_bipush (pc := 27) C (v := 111) dX6_name_27 (by decide) ?_
    refine V_bipush (pc := 29) C (v := 117) dX6_name_29 (by decide) ?_
    refine V_bipush (pc := 31) C (v := 100) dX6_name_31 (by decide) ?_
    refine V_iconst (pc := 33) C (v := 0) dX6_name_33 (by decide) ?_
    refine V_iconst (pc := 34) C (v := 0) dX6_name_34 (by decide) ?_
    refine V_iconst (pc := 35) C (v := 0) dX6_name_35 (by decide) ?_
    refine V_iconst (pc := 36) C (v := 0) dX6_name_36 (by decide) ?_
    obtain ⟨q4, hq5, h⟩ := bnd_ok h
    refine V_callVi (pc := 37) (rest := []) C cs_X6_183 (c_X6_isWord (d + 0) 108 111 117 100 0 0 0 0 mh hq5) CF6.1 LO6 (by omega) (by decide) rfl rfl (Nat.le_of_ble_eq_true rfl) dX6_name_37 ?_
    refine V_ifeq (pc := 40) (tgt := 48) C dX6_name_40 (by decide) (fun hc6 => ?_) (fun hc6 => ?_)
    · have h := it_t h hc6
      refine V_aload_n (pc := 48) C dX6_name_48 rfl rfl ?_
      refine V_bipush (pc := 49) C (v := 119) dX6_name_49 (by decide) ?_
      refine V_bipush (pc := 51) C (v := 101) dX6_name_51 (by decide) ?_
      refine V_bipush (pc := 53) C (v := 116) dX6_name_53 (by decide) ?_
      refine V_iconst (pc := 55) C (v := 0) dX6_name_55 (by decide) ?_
      refine V_iconst (pc := 56) C (v := 0) dX6_name_56 (by decide) ?_
      refine V_iconst (pc := 57) C (v := 0) dX6_name_57 (by decide) ?_
      refine V_iconst (pc := 58) C (v := 0) dX6_name_58 (by decide) ?_
      refine V_iconst (pc := 59) C (v := 0) dX6_name_59 (by decide) ?_
      obtain ⟨q7, hq8, h⟩ := bnd_ok h
      refine V_callVi (pc := 60) (rest := []) C cs_X6_183 (c_X6_isWord (d + 0) 119 101 116 0 0 0 0 0 mh hq8) CF6.1 LO6 (by omega) (by decide) rfl rfl (Nat.le_of_ble_eq_true rfl) dX6_name_60 ?_
      refine V_ifeq (pc := 63) (tgt := 71) C dX6_name_63 (by decide) (fun hc9 => ?_) (fun hc9 => ?_)
      · have h := it_t h hc9
        refine V_aload_n (pc := 71) C dX6_name_71 rfl rfl ?_
        refine V_bipush (pc := 72) C (v := 112) dX6_name_72 (by decide) ?_
        refine V_bipush (pc := 74) C (v := 108) dX6_name_74 (by decide) ?_
        refine V_bipush (pc := 76) C (v := 97) dX6_name_76 (by decide) ?_
        refine V_bipush (pc := 78) C (v := 116) dX6_name_78 (by decide) ?_
        refine V_bipush (pc := 80) C (v := 101) dX6_name_80 (by decide) ?_
        refine V_iconst (pc := 82) C (v := 0) dX6_name_82 (by decide) ?_
        refine V_iconst (pc := 83) C (v := 0) dX6_name_83 (by decide) ?_
        refine V_iconst (pc := 84) C (v := 0) dX6_name_84 (by decide) ?_
        obtain ⟨q10, hq11, h⟩ := bnd_ok h
        refine V_callVi (pc := 85) (rest := []) C cs_X6_183 (c_X6_isWord (d + 0) 112 108 97 116 101 0 0 0 mh hq11) CF6.1 LO6 (by omega) (by decide) rfl rfl (Nat.le_of_ble_eq_true rfl) dX6_name_85 ?_
        refine V_ifeq (pc := 88) (tgt := 96) C dX6_name_88 (by decide) (fun hc12 => ?_) (fun hc12 => ?_)
        · have h := it_t h hc12
          refine V_aload_n (pc := 96) C dX6_name_96 rfl rfl ?_
          refine V_bipush (pc := 97) C (v := 121) dX6_name_97 (by decide) ?_
          refine V_iconst (pc := 99) C (v := 0) dX6_name_99 (by decide) ?_
          refine V_iconst (pc := 100) C (v := 0) dX6_name_100 (by decide) ?_
          refine V_iconst (pc := 101) C (v := 0) dX6_name_101 (by decide) ?_
          refine V_iconst (pc := 102) C (v := 0) dX6_name_102 (by decide) ?_
          refine V_iconst (pc := 103) C (v := 0) dX6_name_103 (by decide) ?_
          refine V_iconst (pc := 104) C (v := 0) dX6_name_104 (by decide) ?_
          refine V_iconst (pc := 105) C (v := 0) dX6_name_105 (by decide) ?_
          obtain ⟨q13, hq14, h⟩ := bnd_ok h
          refine V_callVi (pc := 106) (rest := []) C cs_X6_183 (c_X6_isWord (d + 0) 121 0 0 0 0 0 0 0 mh hq14) CF6.1 LO6 (by omega) (by decide) rfl rfl (Nat.le_of_ble_eq_true rfl) dX6_name_106 ?_
          refine V_ifeq (pc := 109) (tgt := 117) C dX6_name_109 (by decide) (fun hc15 => ?_) (fun hc15 => ?_)
          · have h := it_t h hc15
            refine V_aload_n (pc := 117) C dX6_name_117 rfl rfl ?_
            refine V_bipush (pc := 118) C (v := 120) dX6_name_118 (by decide) ?_
            refine V_iconst (pc := 120) C (v := 0) dX6_name_120 (by decide) ?_
            refine V_iconst (pc := 121) C (v := 0) dX6_name_121 (by decide) ?_
            refine V_iconst (pc := 122) C (v := 0) dX6_name_122 (by decide) ?_
            refine V_iconst (pc := 123) C (v := 0) dX6_name_123 (by decide) ?_
            refine V_iconst (pc := 124) C (v := 0) dX6_name_124 (by decide) ?_
            refine V_iconst (pc := 125) C (v := 0) dX6_name_125 (by decide) ?_
            refine V_iconst (pc := 126) C (v := 0) dX6_name_126 (by decide) ?_
            obtain ⟨q16, hq17, h⟩ := bnd_ok h
            refine V_callVi (pc := 127) (rest := []) C cs_X6_183 (c_X6_isWord (d + 0) 120 0 0 0 0 0 0 0 mh hq17) CF6.1 LO6 (by omega) (by decide) rfl rfl (Nat.le_of_ble_eq_true rfl) dX6_name_127 ?_
            refine V_ifeq (pc := 130) (tgt := 138) C dX6_name_130 (by decide) (fun hc18 => ?_) (fun hc18 => ?_)
            · have h := it_t h hc18
              refine V_aload_n (pc := 138) C dX6_name_138 rfl rfl ?_
              refine V_callVv (pc := 139) (rest := []) C cs_X6_177 (c_X6_fail (d + 2) mh) CF6.1 LO6 (by omega) (by decide) rfl rfl (Nat.le_of_ble_eq_true rfl) dX6_name_139 ?_
              refine V_iconst (pc := 142) C (v := 0) dX6_name_142 (by decide) ?_
              exact V_iret (pc := 143) C (gdow h hG) dX6_name_143
            · have h := it_f h hc18
              refine V_aload_n (pc := 133) C dX6_name_133 rfl rfl ?_
              refine V_getI (pc := 134) C CF6 fl_X6_202 LO6 (by decide) rfl dX6_name_134 (v := (mh.1 0 22)) rfl ?_
              exact V_iret (pc := 137) C (gdow h hG) dX6_name_137
          · have h := it_f h hc15
            refine V_aload_n (pc := 112) C dX6_name_112 rfl rfl ?_
            refine V_getI (pc := 113) C CF6 fl_X6_199 LO6 (by decide) rfl dX6_name_113 (v := (mh.1 0 21)) rfl ?_
            exact V_iret (pc := 116) C (gdow h hG) dX6_name_116
        · have h := it_f h hc12
          refine V_aload_n (pc := 91) C dX6_name_91 rfl rfl ?_
          refine V_getI (pc := 92) C CF6 fl_X6_196 LO6 (by decide) rfl dX6_name_92 (v := (mh.1 0 20)) rfl ?_
          exact V_iret (pc := 95) C (gdow h hG) dX6_name_95
      · have h := it_f h hc9
        refine V_aload_n (pc := 66) C dX6_name_66 rfl rfl ?_
        refine V_getI (pc := 67) C CF6 fl_X6_193 LO6 (by decide) rfl dX6_name_67 (v := (mh.1 0 19)) rfl ?_
        exact V_iret (pc := 70) C (gdow h hG) dX6_name_70
    · have h := it_f h hc6
      refine V_aload_n (pc := 43) C dX6_name_43 rfl rfl ?_
      refine V_getI (pc := 44) C CF6 fl_X6_190 LO6 (by decide) rfl dX6_name_44 (v := (mh.1 0 18)) rfl ?_
      exact V_iret (pc := 47) C (gdow h hG) dX6_name_47
  · have h := it_f h hc3
    refine V_aload_n (pc := 19) C dX6_name_19 rfl rfl ?_
    refine V_getI (pc := 20) C CF6 fl_X6_187 LO6 (by decide) rfl dX6_name_20 (v := (mh.1 0 17)) rfl ?_
    exact V_iret (pc := 23) C (gdow h hG) dX6_name_23
def X6_atom_B (R_either : vMH → Option (Int32 × vMH)) (R_atom : vMH → Option (Int32 × vMH)) (mh : vMH) : Option (Int32 × vMH) := (if (X6_isSign 45 mh) = 0 then (if (X6_isSign 40 mh) = 0 then (wj0 (wj0 (some (0, (X6_fail mh))) fun J4 => (if (mh.1 0 30) = 0 then (if (mh.1 0 26) = 1 then ((X6_name mh).bind fun q7 => (if (q7.2.1 0 30) = 0 then ((X6_next q7.2).bind fun q10 => (some (q7.1, q10))) else (some (q7.1, q7.2)))) else J4) else J4)) fun J3 => (if (mh.1 0 30) = 0 then (if (mh.1 0 26) = 2 then ((X6_next mh).bind fun q14 => (some ((Int64.toInt32 mh.2), q14))) else J3) else J3)) else ((X6_opens mh).bind fun q16 => (if q16.1 = 0 then (some (0, q16.2)) else ((R_either q16.2).bind fun q19 => (wj1 (fun (mh21 : vMH) => (if (mh21.1 0 30) = 0 then ((X6_next (v_up mh21 0 29 ((mh21.1 0 29) - 1))).bind fun q24 => (some (q19.1, q24))) else (some (q19.1, (v_up mh21 0 29 ((mh21.1 0 29) - 1)))))) fun J22 => (if (X6_isSign 41 q19.2) = 0 then (J22 (X6_fail q19.2)) else (J22 q19.2))))))) else ((X6_opens mh).bind fun q27 => (if q27.1 = 0 then (some (0, q27.2)) else ((R_atom q27.2).bind fun q30 => (some ((-q30.1), (v_up q30.2 0 29 ((q30.2.1 0 29) - 1))))))))
set_option maxRecDepth 100000 in
set_option maxHeartbeats 8000000 in
theorem c_X6_atom_B (d : Nat) (R_either : vMH → Option (Int32 × vMH)) (R_atom : vMH → Option (Int32 × vMH))  (mh : vMH) (hR_either : ∀  (mh : vMH) {res : Int32 × vMH}, R_either mh = some res → MC LM (d + 3) yX6_either cX6_either 3 (some .int) [.ref 0] mh (some (.int res.1)) res.2) (hR_atom : ∀  (mh : vMH) {res : Int32 × vMH}, R_atom mh = some res → MC LM (d + 3) yX6_atom cX6_atom 2 (some .int) [.ref 0] mh (some (.int res.1)) res.2) {res : Int32 × vMH} (h : X6_atom_B R_either R_atom mh = some res) : MC LM (d + 4) yX6_atom cX6_atom 2 (some .int) [.ref 0] mh (some (.int res.1)) res.2 := by
  refine MC_of 1 (by decide) rfl (fun X C hG => ?_)
  replace C : Cx X (d + 4) 2 cX6_atom RX6 (some .int) := C
  show Vw LM X (d + 4) 2 0 [some (.ref 0), none] [] mh
  unfold X6_atom_B at h
  refine V_iconst (pc := 0) C (v := 0) dX6_atom_0 (by decide) ?_
  refine V_istore_n (pc := 1) C (lv' := [some (.ref 0), some (.int 0)]) dX6_atom_1 rfl (by decide) (Nat.le_of_ble_eq_true rfl) rfl rfl ?_
  refine V_aload_n (pc := 2) C dX6_atom_2 rfl rfl ?_
  refine V_bipush (pc := 3) C (v := 45) dX6_atom_3 (by decide) ?_
  refine V_callVi (pc := 5) (rest := []) C cs_X6_205 (c_X6_isSign (d + 3) 45 mh) CF6.1 LO6 (by omega) (by decide) rfl rfl (Nat.le_of_ble_eq_true rfl) dX6_atom_5 ?_
  refine V_ifeq (pc := 8) (tgt := 37) C dX6_atom_8 (by decide) (fun hc1 => ?_) (fun hc1 => ?_)
  · have h := it_t h hc1
    refine V_aload_n (pc := 37) C dX6_atom_37 rfl rfl ?_
    refine V_bipush (pc := 38) C (v := 40) dX6_atom_38 (by decide) ?_
    refine V_callVi (pc := 40) (rest := []) C cs_X6_205 (c_X6_isSign (d + 3) 40 mh) CF6.1 LO6 (by omega) (by decide) rfl rfl (Nat.le_of_ble_eq_true rfl) dX6_atom_40 ?_
    refine V_ifeq (pc := 43) (tgt := 95) C dX6_atom_43 (by decide) (fun hc2 => ?_) (fun hc2 => ?_)
    · have h := it_t h hc2
      refine V_aload_n (pc := 95) C dX6_atom_95 rfl rfl ?_
      refine V_getI (pc := 96) C CF6 fl_X6_163 LO6 (by decide) rfl dX6_atom_96 (v := (mh.1 0 30)) rfl ?_
      refine wj0_ok (Vw LM X (d + 4) 2 123 [some (.ref 0), some (.int 0)] [] mh) h (fun h => ?_) (fun J3 hJ3 h => ?_)
      · refine V_aload_n (pc := 123) C dX6_atom_123 rfl rfl ?_
        refine V_getI (pc := 124) C CF6 fl_X6_163 LO6 (by decide) rfl dX6_atom_124 (v := (mh.1 0 30)) rfl ?_
        refine wj0_ok (Vw LM X (d + 4) 2 157 [some (.ref 0), some (.int 0)] [] mh) h (fun h => ?_) (fun J4 hJ4 h => ?_)
        · refine V_aload_n (pc := 157) C dX6_atom_157 rfl rfl ?_
          refine V_callVv (pc := 158) (rest := []) C cs_X6_177 (c_X6_fail (d + 3) mh) CF6.1 LO6 (by omega) (by decide) rfl rfl (Nat.le_of_ble_eq_true rfl) dX6_atom_158 ?_
          refine V_iload_n (pc := 161) C dX6_atom_161 rfl rfl ?_
          exact V_iret (pc := 162) C (gdow h hG) dX6_atom_162
        · refine V_ifne (pc := 127) (tgt := 157) C dX6_atom_127 (by decide) (fun hc5 => ?_) (fun hc5 => ?_)
          · have h := it_f h hc5
            exact hJ4 h
          · have h := it_t h hc5
            refine V_aload_n (pc := 130) C dX6_atom_130 rfl rfl ?_
            refine V_getI (pc := 131) C CF6 fl_X6_146 LO6 (by decide) rfl dX6_atom_131 (v := (mh.1 0 26)) rfl ?_
            refine V_iconst (pc := 134) C (v := 1) dX6_atom_134 (by decide) ?_
            refine V_icmpne (pc := 135) (tgt := 157) C dX6_atom_135 (by decide) (fun hc6 => ?_) (fun hc6 => ?_)
            · have h := it_f h hc6
              exact hJ4 h
            · have h := it_t h hc6
              refine V_aload_n (pc := 138) C dX6_atom_138 rfl rfl ?_
              obtain ⟨q7, hq8, h⟩ := bnd_ok h
              refine V_callVi (pc := 139) (rest := []) C cs_X6_219 (c_X6_name (d + 0) mh hq8) CF6.1 LO6 (by omega) (by decide) rfl rfl (Nat.le_of_ble_eq_true rfl) dX6_atom_139 ?_
              refine V_istore_n (pc := 142) C (lv' := [some (.ref 0), some (.int q7.1)]) dX6_atom_142 rfl (by decide) (Nat.le_of_ble_eq_true rfl) rfl rfl ?_
              refine V_aload_n (pc := 143) C dX6_atom_143 rfl rfl ?_
              refine V_getI (pc := 144) C CF6 fl_X6_163 LO6 (by decide) rfl dX6_atom_144 (v := (q7.2.1 0 30)) rfl ?_
              refine V_ifne (pc := 147) (tgt := 161) C dX6_atom_147 (by decide) (fun hc9 => ?_) (fun hc9 => ?_)
              · have h := it_f h hc9
                refine V_iload_n (pc := 161) C dX6_atom_161 rfl rfl ?_
                exact V_iret (pc := 162) C (gdow h hG) dX6_atom_162
              · have h := it_t h hc9
                refine V_aload_n (pc := 150) C dX6_atom_150 rfl rfl ?_
                obtain ⟨q10, hq11, h⟩ := bnd_ok h
                refine V_callVv (pc := 151) (rest := []) C cs_X6_180 (c_X6_next (d + 2) q7.2 hq11) CF6.1 LO6 (by omega) (by decide) rfl rfl (Nat.le_of_ble_eq_true rfl) dX6_atom_151 ?_
                refine V_goto (pc := 154) (tgt := 161) C dX6_atom_154 (by decide) ?_
                refine V_iload_n (pc := 161) C dX6_atom_161 rfl rfl ?_
                exact V_iret (pc := 162) C (gdow h hG) dX6_atom_162
      · refine V_ifne (pc := 99) (tgt := 123) C dX6_atom_99 (by decide) (fun hc12 => ?_) (fun hc12 => ?_)
        · have h := it_f h hc12
          exact hJ3 h
        · have h := it_t h hc12
          refine V_aload_n (pc := 102) C dX6_atom_102 rfl rfl ?_
          refine V_getI (pc := 103) C CF6 fl_X6_146 LO6 (by decide) rfl dX6_atom_103 (v := (mh.1 0 26)) rfl ?_
          refine V_iconst (pc := 106) C (v := 2) dX6_atom_106 (by decide) ?_
          refine V_icmpne (pc := 107) (tgt := 123) C dX6_atom_107 (by decide) (fun hc13 => ?_) (fun hc13 => ?_)
          · have h := it_f h hc13
            exact hJ3 h
          · have h := it_t h hc13
            refine V_aload_n (pc := 110) C dX6_atom_110 rfl rfl ?_
            refine V_getL (pc := 111) C CF6 fl_X6_157 LO6 (by decide) rfl dX6_atom_111 (v := mh.2) rfl ?_
            refine V_l2i (pc := 114) C dX6_atom_114 ?_
            refine V_istore_n (pc := 115) C (lv' := [some (.ref 0), some (.int (Int64.toInt32 mh.2))]) dX6_atom_115 rfl (by decide) (Nat.le_of_ble_eq_true rfl) rfl rfl ?_
            refine V_aload_n (pc := 116) C dX6_atom_116 rfl rfl ?_
            obtain ⟨q14, hq15, h⟩ := bnd_ok h
            refine V_callVv (pc := 117) (rest := []) C cs_X6_180 (c_X6_next (d + 2) mh hq15) CF6.1 LO6 (by omega) (by decide) rfl rfl (Nat.le_of_ble_eq_true rfl) dX6_atom_117 ?_
            refine V_goto (pc := 120) (tgt := 161) C dX6_atom_120 (by decide) ?_
            refine V_iload_n (pc := 161) C dX6_atom_161 rfl rfl ?_
            exact V_iret (pc := 162) C (gdow h hG) dX6_atom_162
    · have h := it_f h hc2
      refine V_aload_n (pc := 46) C dX6_atom_46 rfl rfl ?_
      obtain ⟨q16, hq17, h⟩ := bnd_ok h
      refine V_callVi (pc := 47) (rest := []) C cs_X6_208 (c_X6_opens (d + 1) mh hq17) CF6.1 LO6 (by omega) (by decide) rfl rfl (Nat.le_of_ble_eq_true rfl) dX6_atom_47 ?_
      refine V_ifeq (pc := 50) (tgt := 161) C dX6_atom_50 (by decide) (fun hc18 => ?_) (fun hc18 => ?_)
      · have h := it_t h hc18
        refine V_iload_n (pc := 161) C dX6_atom_161 rfl rfl ?_
        exact V_iret (pc := 162) C (gdow h hG) dX6_atom_162
      · have h := it_f h hc18
        refine V_aload_n (pc := 53) C dX6_atom_53 rfl rfl ?_
        obtain ⟨q19, hq20, h⟩ := bnd_ok h
        refine V_callVi (pc := 54) (rest := []) C cs_X6_216 (hR_either q16.2 hq20) CF6.1 LO6 (by omega) (by decide) rfl rfl (Nat.le_of_ble_eq_true rfl) dX6_atom_54 ?_
        refine V_istore_n (pc := 57) C (lv' := [some (.ref 0), some (.int q19.1)]) dX6_atom_57 rfl (by decide) (Nat.le_of_ble_eq_true rfl) rfl rfl ?_
        refine V_aload_n (pc := 58) C dX6_atom_58 rfl rfl ?_
        refine V_bipush (pc := 59) C (v := 41) dX6_atom_59 (by decide) ?_
        refine V_callVi (pc := 61) (rest := []) C cs_X6_205 (c_X6_isSign (d + 3) 41 q19.2) CF6.1 LO6 (by omega) (by decide) rfl rfl (Nat.le_of_ble_eq_true rfl) dX6_atom_61 ?_
        refine wj1_ok (fun (mh21 : vMH) => Vw LM X (d + 4) 2 71 [some (.ref 0), some (.int q19.1)] [] mh21) h (fun mh21 h => ?_) (fun J22 hJ22 h => ?_)
        · refine V_aload_n (pc := 71) C dX6_atom_71 rfl rfl ?_
          refine V_dup (pc := 72) C dX6_atom_72 rfl ?_
          refine V_getI (pc := 73) C CF6 fl_X6_174 LO6 (by decide) rfl dX6_atom_73 (v := (mh21.1 0 29)) rfl ?_
          refine V_iconst (pc := 76) C (v := 1) dX6_atom_76 (by decide) ?_
          refine V_isub (pc := 77) C dX6_atom_77 ?_
          refine V_putI (pc := 78) C CF6 fl_X6_174 LO6 (by decide) rfl rfl rfl dX6_atom_78 ?_
          refine V_aload_n (pc := 81) C dX6_atom_81 rfl rfl ?_
          refine V_getI (pc := 82) C CF6 fl_X6_163 LO6 (by decide) rfl dX6_atom_82 (v := (mh21.1 0 30)) (rd_k (by decide)) ?_
          refine V_ifne (pc := 85) (tgt := 161) C dX6_atom_85 (by decide) (fun hc23 => ?_) (fun hc23 => ?_)
          · have h := it_f h hc23
            refine V_iload_n (pc := 161) C dX6_atom_161 rfl rfl ?_
            exact V_iret (pc := 162) C (gdow h hG) dX6_atom_162
          · have h := it_t h hc23
            refine V_aload_n (pc := 88) C dX6_atom_88 rfl rfl ?_
            obtain ⟨q24, hq25, h⟩ := bnd_ok h
            refine V_callVv (pc := 89) (rest := []) C cs_X6_180 (c_X6_next (d + 2) (v_up mh21 0 29 ((mh21.1 0 29) - 1)) hq25) CF6.1 LO6 (by omega) (by decide) rfl rfl (Nat.le_of_ble_eq_true rfl) dX6_atom_89 ?_
            refine V_goto (pc := 92) (tgt := 161) C dX6_atom_92 (by decide) ?_
            refine V_iload_n (pc := 161) C dX6_atom_161 rfl rfl ?_
            exact V_iret (pc := 162) C (gdow h hG) dX6_atom_162
        · refine V_ifne (pc := 64) (tgt := 71) C dX6_atom_64 (by decide) (fun hc26 => ?_) (fun hc26 => ?_)
          · have h := it_f h hc26
            exact hJ22 q19.2 h
          · have h := it_t h hc26
            refine V_aload_n (pc := 67) C dX6_atom_67 rfl rfl ?_
            refine V_callVv (pc := 68) (rest := []) C cs_X6_177 (c_X6_fail (d + 3) q19.2) CF6.1 LO6 (by omega) (by decide) rfl rfl (Nat.le_of_ble_eq_true rfl) dX6_atom_68 ?_
            exact hJ22 (X6_fail q19.2) h
  · have h := it_f h hc1
    refine V_aload_n (pc := 11) C dX6_atom_11 rfl rfl ?_
    obtain ⟨q27, hq28, h⟩ := bnd_ok h
    refine V_callVi (pc := 12) (rest := []) C cs_X6_208 (c_X6_opens (d + 1) mh hq28) CF6.1 LO6 (by omega) (by decide) rfl rfl (Nat.le_of_ble_eq_true rfl) dX6_atom_12 ?_
    refine V_ifeq (pc := 15) (tgt := 161) C dX6_atom_15 (by decide) (fun hc29 => ?_) (fun hc29 => ?_)
    · have h := it_t h hc29
      refine V_iload_n (pc := 161) C dX6_atom_161 rfl rfl ?_
      exact V_iret (pc := 162) C (gdow h hG) dX6_atom_162
    · have h := it_f h hc29
      refine V_aload_n (pc := 18) C dX6_atom_18 rfl rfl ?_
      obtain ⟨q30, hq31, h⟩ := bnd_ok h
      refine V_callVi (pc := 19) (rest := []) C cs_X6_212 (hR_atom q27.2 hq31) CF6.1 LO6 (by omega) (by decide) rfl rfl (Nat.le_of_ble_eq_true rfl) dX6_atom_19 ?_
      refine V_ineg (pc := 22) C dX6_atom_22 ?_
      refine V_istore_n (pc := 23) C (lv' := [some (.ref 0), some (.int (-q30.1))]) dX6_atom_23 rfl (by decide) (Nat.le_of_ble_eq_true rfl) rfl rfl ?_
      refine V_aload_n (pc := 24) C dX6_atom_24 rfl rfl ?_
      refine V_dup (pc := 25) C dX6_atom_25 rfl ?_
      refine V_getI (pc := 26) C CF6 fl_X6_174 LO6 (by decide) rfl dX6_atom_26 (v := (q30.2.1 0 29)) rfl ?_
      refine V_iconst (pc := 29) C (v := 1) dX6_atom_29 (by decide) ?_
      refine V_isub (pc := 30) C dX6_atom_30 ?_
      refine V_putI (pc := 31) C CF6 fl_X6_174 LO6 (by decide) rfl rfl rfl dX6_atom_31 ?_
      refine V_goto (pc := 34) (tgt := 161) C dX6_atom_34 (by decide) ?_
      refine V_iload_n (pc := 161) C dX6_atom_161 rfl rfl ?_
      exact V_iret (pc := 162) C (gdow h hG) dX6_atom_162
def X6_term_L5 (R_atom : vMH → Option (Int32 × vMH)) (rec5 : Int32 → vMH → Option (Int32 × vMH)) (v1_3 : Int32) (mh4 : vMH) : Option (Int32 × vMH) := (if (X6_isSign 42 mh4) = 0 then (some (v1_3, mh4)) else ((X6_next mh4).bind fun q7 => ((R_atom q7).bind fun q9 => (rec5 (v1_3 * q9.1) q9.2))))
def X6_term_B (R_atom : vMH → Option (Int32 × vMH)) (mh : vMH) : Option (Int32 × vMH) := ((R_atom mh).bind fun q1 => (lq2 4096 (X6_term_L5 R_atom) q1.1 q1.2))
set_option maxRecDepth 100000 in
set_option maxHeartbeats 8000000 in
theorem c_X6_term_B (d : Nat) (R_atom : vMH → Option (Int32 × vMH))  (mh : vMH) (hR_atom : ∀  (mh : vMH) {res : Int32 × vMH}, R_atom mh = some res → MC LM (d + 3) yX6_atom cX6_atom 2 (some .int) [.ref 0] mh (some (.int res.1)) res.2) {res : Int32 × vMH} (h : X6_term_B R_atom mh = some res) : MC LM (d + 4) yX6_term cX6_term 2 (some .int) [.ref 0] mh (some (.int res.1)) res.2 := by
  refine MC_of 1 (by decide) rfl (fun X C hG => ?_)
  replace C : Cx X (d + 4) 2 cX6_term RX6 (some .int) := C
  show Vw LM X (d + 4) 2 0 [some (.ref 0), none] [] mh
  unfold X6_term_B at h
  refine V_aload_n (pc := 0) C dX6_term_0 rfl rfl ?_
  obtain ⟨q1, hq2, h⟩ := bnd_ok h
  refine V_callVi (pc := 1) (rest := []) C cs_X6_212 (hR_atom mh hq2) CF6.1 LO6 (by omega) (by decide) rfl rfl (Nat.le_of_ble_eq_true rfl) dX6_term_1 ?_
  refine V_istore_n (pc := 4) C (lv' := [some (.ref 0), some (.int q1.1)]) dX6_term_4 rfl (by decide) (Nat.le_of_ble_eq_true rfl) rfl rfl ?_
  refine lq2_ok (fun (v1_3 : Int32) (mh4 : vMH) => Vw LM X (d + 4) 2 5 [some (.ref 0), some (.int v1_3)] [] mh4) h (fun rec5 hrec5 v1_3 mh4 h => ?_)
  unfold X6_term_L5 at h
  refine V_aload_n (pc := 5) C dX6_term_5 rfl rfl ?_
  refine V_bipush (pc := 6) C (v := 42) dX6_term_6 (by decide) ?_
  refine V_callVi (pc := 8) (rest := []) C cs_X6_205 (c_X6_isSign (d + 3) 42 mh4) CF6.1 LO6 (by omega) (by decide) rfl rfl (Nat.le_of_ble_eq_true rfl) dX6_term_8 ?_
  refine V_ifeq (pc := 11) (tgt := 28) C dX6_term_11 (by decide) (fun hc6 => ?_) (fun hc6 => ?_)
  · have h := it_t h hc6
    refine V_iload_n (pc := 28) C dX6_term_28 rfl rfl ?_
    exact V_iret (pc := 29) C (gdow h hG) dX6_term_29
  · have h := it_f h hc6
    refine V_aload_n (pc := 14) C dX6_term_14 rfl rfl ?_
    obtain ⟨q7, hq8, h⟩ := bnd_ok h
    refine V_callVv (pc := 15) (rest := []) C cs_X6_180 (c_X6_next (d + 2) mh4 hq8) CF6.1 LO6 (by omega) (by decide) rfl rfl (Nat.le_of_ble_eq_true rfl) dX6_term_15 ?_
    refine V_iload_n (pc := 18) C dX6_term_18 rfl rfl ?_
    refine V_aload_n (pc := 19) C dX6_term_19 rfl rfl ?_
    obtain ⟨q9, hq10, h⟩ := bnd_ok h
    refine V_callVi (pc := 20) (rest := [.int v1_3]) C cs_X6_212 (hR_atom q7 hq10) CF6.1 LO6 (by omega) (by decide) rfl rfl (Nat.le_of_ble_eq_true rfl) dX6_term_20 ?_
    refine V_imul (pc := 23) C dX6_term_23 ?_
    refine V_istore_n (pc := 24) C (lv' := [some (.ref 0), some (.int (v1_3 * q9.1))]) dX6_term_24 rfl (by decide) (Nat.le_of_ble_eq_true rfl) rfl rfl ?_
    refine V_goto (pc := 25) (tgt := 5) C dX6_term_25 (by decide) ?_
    exact hrec5 (v1_3 * q9.1) q9.2 h
def X6_added_L5 (R_term : vMH → Option (Int32 × vMH)) (rec5 : Int32 → vMH → Option (Int32 × vMH)) (v1_3 : Int32) (mh4 : vMH) : Option (Int32 × vMH) := (wj0 (wj1 (fun (s7 : Int32) => ((X6_next mh4).bind fun q9 => ((R_term q9).bind fun q11 => (if s7 = 0 then (rec5 (v1_3 - q11.1) q11.2) else (rec5 (v1_3 + q11.1) q11.2))))) fun J8 => (if (lg_cmp mh4.2 43) = 0 then (J8 1) else (J8 0))) fun J6 => (if (X6_isSign 43 mh4) = 0 then (if (X6_isSign 45 mh4) = 0 then (some (v1_3, mh4)) else J6) else J6))
def X6_added_B (R_term : vMH → Option (Int32 × vMH)) (mh : vMH) : Option (Int32 × vMH) := ((R_term mh).bind fun q1 => (lq2 4096 (X6_added_L5 R_term) q1.1 q1.2))
set_option maxRecDepth 100000 in
set_option maxHeartbeats 8000000 in
theorem c_X6_added_B (d : Nat) (R_term : vMH → Option (Int32 × vMH))  (mh : vMH) (hR_term : ∀  (mh : vMH) {res : Int32 × vMH}, R_term mh = some res → MC LM (d + 3) yX6_term cX6_term 2 (some .int) [.ref 0] mh (some (.int res.1)) res.2) {res : Int32 × vMH} (h : X6_added_B R_term mh = some res) : MC LM (d + 4) yX6_added cX6_added 4 (some .int) [.ref 0] mh (some (.int res.1)) res.2 := by
  refine MC_of 3 (by decide) rfl (fun X C hG => ?_)
  replace C : Cx X (d + 4) 4 cX6_added RX6 (some .int) := C
  show Vw LM X (d + 4) 4 0 [some (.ref 0), none, none, none] [] mh
  unfold X6_added_B at h
  refine V_aload_n (pc := 0) C dX6_added_0 rfl rfl ?_
  obtain ⟨q1, hq2, h⟩ := bnd_ok h
  refine V_callVi (pc := 1) (rest := []) C cs_X6_222 (hR_term mh hq2) CF6.1 LO6 (by omega) (by decide) rfl rfl (Nat.le_of_ble_eq_true rfl) dX6_added_1 ?_
  refine V_istore_n (pc := 4) C (lv' := [some (.ref 0), some (.int q1.1), none, none]) dX6_added_4 rfl (by decide) (Nat.le_of_ble_eq_true rfl) rfl rfl ?_
  refine lq2_ok (fun (v1_3 : Int32) (mh4 : vMH) => Vw LM X (d + 4) 4 5 [some (.ref 0), some (.int v1_3), none, none] [] mh4) h (fun rec5 hrec5 v1_3 mh4 h => ?_)
  unfold X6_added_L5 at h
  refine V_aload_n (pc := 5) C dX6_added_5 rfl rfl ?_
  refine V_bipush (pc := 6) C (v := 43) dX6_added_6 (by decide) ?_
  refine V_callVi (pc := 8) (rest := []) C cs_X6_205 (c_X6_isSign (d + 3) 43 mh4) CF6.1 LO6 (by omega) (by decide) rfl rfl (Nat.le_of_ble_eq_true rfl) dX6_added_8 ?_
  refine wj0_ok (Vw LM X (d + 4) 4 23 [some (.ref 0), some (.int v1_3), none, none] [] mh4) h (fun h => ?_) (fun J6 hJ6 h => ?_)
  · refine V_aload_n (pc := 23) C dX6_added_23 rfl rfl ?_
    refine V_getL (pc := 24) C CF6 fl_X6_157 LO6 (by decide) rfl dX6_added_24 (v := mh4.2) rfl ?_
    refine V_ldc2 (pc := 27) C dX6_added_27 kc_X6_225 ?_
    refine V_lcmp (pc := 30) C dX6_added_30 ?_
    refine wj1_ok (fun (s7 : Int32) => Vw LM X (d + 4) 4 39 [some (.ref 0), some (.int v1_3), none, none] [.int s7] mh4) h (fun s7 h => ?_) (fun J8 hJ8 h => ?_)
    · refine V_istore_n (pc := 39) C (lv' := [some (.ref 0), some (.int v1_3), some (.int s7), none]) dX6_added_39 rfl (by decide) (Nat.le_of_ble_eq_true rfl) rfl rfl ?_
      refine V_aload_n (pc := 40) C dX6_added_40 rfl rfl ?_
      obtain ⟨q9, hq10, h⟩ := bnd_ok h
      refine V_callVv (pc := 41) (rest := []) C cs_X6_180 (c_X6_next (d + 2) mh4 hq10) CF6.1 LO6 (by omega) (by decide) rfl rfl (Nat.le_of_ble_eq_true rfl) dX6_added_41 ?_
      refine V_aload_n (pc := 44) C dX6_added_44 rfl rfl ?_
      obtain ⟨q11, hq12, h⟩ := bnd_ok h
      refine V_callVi (pc := 45) (rest := []) C cs_X6_222 (hR_term q9 hq12) CF6.1 LO6 (by omega) (by decide) rfl rfl (Nat.le_of_ble_eq_true rfl) dX6_added_45 ?_
      refine V_istore_n (pc := 48) C (lv' := [some (.ref 0), some (.int v1_3), some (.int s7), some (.int q11.1)]) dX6_added_48 rfl (by decide) (Nat.le_of_ble_eq_true rfl) rfl rfl ?_
      refine V_iload_n (pc := 49) C dX6_added_49 rfl rfl ?_
      refine V_ifeq (pc := 50) (tgt := 59) C dX6_added_50 (by decide) (fun hc13 => ?_) (fun hc13 => ?_)
      · have h := it_t h hc13
        refine V_iload_n (pc := 59) C dX6_added_59 rfl rfl ?_
        refine V_iload_n (pc := 60) C dX6_added_60 rfl rfl ?_
        refine V_isub (pc := 61) C dX6_added_61 ?_
        refine V_istore_n (pc := 62) C (lv' := [some (.ref 0), some (.int (v1_3 - q11.1)), some (.int s7), some (.int q11.1)]) dX6_added_62 rfl (by decide) (Nat.le_of_ble_eq_true rfl) rfl rfl ?_
        refine V_goto (pc := 63) (tgt := 5) C dX6_added_63 (by decide) ?_
        refine V_mask [true, true, false, false] (lv' := [some (.ref 0), some (.int (v1_3 - q11.1)), none, none]) rfl ?_
        exact hrec5 (v1_3 - q11.1) q11.2 h
      · have h := it_f h hc13
        refine V_iload_n (pc := 53) C dX6_added_53 rfl rfl ?_
        refine V_iload_n (pc := 54) C dX6_added_54 rfl rfl ?_
        refine V_iadd (pc := 55) C dX6_added_55 ?_
        refine V_goto (pc := 56) (tgt := 62) C dX6_added_56 (by decide) ?_
        refine V_istore_n (pc := 62) C (lv' := [some (.ref 0), some (.int (v1_3 + q11.1)), some (.int s7), some (.int q11.1)]) dX6_added_62 rfl (by decide) (Nat.le_of_ble_eq_true rfl) rfl rfl ?_
        refine V_goto (pc := 63) (tgt := 5) C dX6_added_63 (by decide) ?_
        refine V_mask [true, true, false, false] (lv' := [some (.ref 0), some (.int (v1_3 + q11.1)), none, none]) rfl ?_
        exact hrec5 (v1_3 + q11.1) q11.2 h
    · refine V_ifne (pc := 31) (tgt := 38) C dX6_added_31 (by decide) (fun hc14 => ?_) (fun hc14 => ?_)
      · have h := it_f h hc14
        refine V_iconst (pc := 38) C (v := 0) dX6_added_38 (by decide) ?_
        exact hJ8 0 h
      · have h := it_t h hc14
        refine V_iconst (pc := 34) C (v := 1) dX6_added_34 (by decide) ?_
        refine V_goto (pc := 35) (tgt := 39) C dX6_added_35 (by decide) ?_
        exact hJ8 1 h
  · refine V_ifne (pc := 11) (tgt := 23) C dX6_added_11 (by decide) (fun hc15 => ?_) (fun hc15 => ?_)
    · have h := it_f h hc15
      exact hJ6 h
    · have h := it_t h hc15
      refine V_aload_n (pc := 14) C dX6_added_14 rfl rfl ?_
      refine V_bipush (pc := 15) C (v := 45) dX6_added_15 (by decide) ?_
      refine V_callVi (pc := 17) (rest := []) C cs_X6_205 (c_X6_isSign (d + 3) 45 mh4) CF6.1 LO6 (by omega) (by decide) rfl rfl (Nat.le_of_ble_eq_true rfl) dX6_added_17 ?_
      refine V_ifeq (pc := 20) (tgt := 66) C dX6_added_20 (by decide) (fun hc16 => ?_) (fun hc16 => ?_)
      · have h := it_t h hc16
        refine V_iload_n (pc := 66) C dX6_added_66 rfl rfl ?_
        exact V_iret (pc := 67) C (gdow h hG) dX6_added_67
      · have h := it_f h hc16
        exact hJ6 h
def X6_not_B (R_added : vMH → Option (Int32 × vMH)) (R_not : vMH → Option (Int32 × vMH)) (mh : vMH) : Option (Int32 × vMH) := ((X6_isWord 110 111 116 0 0 0 0 0 mh).bind fun q1 => (if q1 = 0 then ((R_added mh).bind fun q4 => (wj0 (wj1 (fun (s7 : Int32) => ((X6_next q4.2).bind fun q9 => ((R_added q9).bind fun q11 => (if s7 = 0 then (if q4.1 = q11.1 then (some (1, q11.2)) else (some (0, q11.2))) else (if q11.1 ≤ q4.1 then (some (0, q11.2)) else (some (1, q11.2))))))) fun J8 => (if (lg_cmp q4.2.2 60) = 0 then (J8 1) else (J8 0))) fun J6 => (if (X6_isSign 60 q4.2) = 0 then (if (X6_isSign 61 q4.2) = 0 then (some (q4.1, q4.2)) else J6) else J6))) else ((X6_opens mh).bind fun q19 => (if q19.1 = 0 then (some (0, q19.2)) else ((R_not q19.2).bind fun q22 => (if q22.1 = 0 then (some (1, (v_up q22.2 0 29 ((q22.2.1 0 29) - 1)))) else (some (0, (v_up q22.2 0 29 ((q22.2.1 0 29) - 1))))))))))
set_option maxRecDepth 100000 in
set_option maxHeartbeats 8000000 in
theorem c_X6_not_B (d : Nat) (R_added : vMH → Option (Int32 × vMH)) (R_not : vMH → Option (Int32 × vMH))  (mh : vMH) (hR_added : ∀  (mh : vMH) {res : Int32 × vMH}, R_added mh = some res → MC LM (d + 3) yX6_added cX6_added 4 (some .int) [.ref 0] mh (some (.int res.1)) res.2) (hR_not : ∀  (mh : vMH) {res : Int32 × vMH}, R_not mh = some res → MC LM (d + 3) yX6_not cX6_not 4 (some .int) [.ref 0] mh (some (.int res.1)) res.2) {res : Int32 × vMH} (h : X6_not_B R_added R_not mh = some res) : MC LM (d + 4) yX6_not cX6_not 4 (some .int) [.ref 0] mh (some (.int res.1)) res.2 := by
  refine MC_of 3 (by decide) rfl (fun X C hG => ?_)
  replace C : Cx X (d + 4) 4 cX6_not RX6 (some .int) := C
  show Vw LM X (d + 4) 4 0 [some (.ref 0), none, none, none] [] mh
  unfold X6_not_B at h
  refine V_aload_n (pc := 0) C dX6_not_0 rfl rfl ?_
  refine V_bipush (pc := 1) C (v := 110) dX6_not_1 (by decide) ?_
  refine V_bipush (pc := 3) C (v := 111) dX6_not_3 (by decide) ?_
  refine V_bipush (pc := 5) C (v := 116) dX6_not_5 (by decide) ?_
  refine V_iconst (pc := 7) C (v := 0) dX6_not_7 (by decide) ?_
  refine V_iconst (pc := 8) C (v := 0) dX6_not_8 (by decide) ?_
  refine V_iconst (pc := 9) C (v := 0) dX6_not_9 (by decide) ?_
  refine V_iconst (pc := 10) C (v := 0) dX6_not_10 (by decide) ?_
  refine V_iconst (pc := 11) C (v := 0) dX6_not_11 (by decide) ?_
  obtain ⟨q1, hq2, h⟩ := bnd_ok h
  refine V_callVi (pc := 12) (rest := []) C cs_X6_183 (c_X6_isWord (d + 1) 110 111 116 0 0 0 0 0 mh hq2) CF6.1 LO6 (by omega) (by decide) rfl rfl (Nat.le_of_ble_eq_true rfl) dX6_not_12 ?_
  refine V_ifeq (pc := 15) (tgt := 52) C dX6_not_15 (by decide) (fun hc3 => ?_) (fun hc3 => ?_)
  · have h := it_t h hc3
    refine V_aload_n (pc := 52) C dX6_not_52 rfl rfl ?_
    obtain ⟨q4, hq5, h⟩ := bnd_ok h
    refine V_callVi (pc := 53) (rest := []) C cs_X6_230 (hR_added mh hq5) CF6.1 LO6 (by omega) (by decide) rfl rfl (Nat.le_of_ble_eq_true rfl) dX6_not_53 ?_
    refine V_istore_n (pc := 56) C (lv' := [some (.ref 0), some (.int q4.1), none, none]) dX6_not_56 rfl (by decide) (Nat.le_of_ble_eq_true rfl) rfl rfl ?_
    refine V_aload_n (pc := 57) C dX6_not_57 rfl rfl ?_
    refine V_bipush (pc := 58) C (v := 60) dX6_not_58 (by decide) ?_
    refine V_callVi (pc := 60) (rest := []) C cs_X6_205 (c_X6_isSign (d + 3) 60 q4.2) CF6.1 LO6 (by omega) (by decide) rfl rfl (Nat.le_of_ble_eq_true rfl) dX6_not_60 ?_
    refine wj0_ok (Vw LM X (d + 4) 4 77 [some (.ref 0), some (.int q4.1), none, none] [] q4.2) h (fun h => ?_) (fun J6 hJ6 h => ?_)
    · refine V_aload_n (pc := 77) C dX6_not_77 rfl rfl ?_
      refine V_getL (pc := 78) C CF6 fl_X6_157 LO6 (by decide) rfl dX6_not_78 (v := q4.2.2) rfl ?_
      refine V_ldc2 (pc := 81) C dX6_not_81 kc_X6_233 ?_
      refine V_lcmp (pc := 84) C dX6_not_84 ?_
      refine wj1_ok (fun (s7 : Int32) => Vw LM X (d + 4) 4 93 [some (.ref 0), some (.int q4.1), none, none] [.int s7] q4.2) h (fun s7 h => ?_) (fun J8 hJ8 h => ?_)
      · refine V_istore_n (pc := 93) C (lv' := [some (.ref 0), some (.int q4.1), some (.int s7), none]) dX6_not_93 rfl (by decide) (Nat.le_of_ble_eq_true rfl) rfl rfl ?_
        refine V_aload_n (pc := 94) C dX6_not_94 rfl rfl ?_
        obtain ⟨q9, hq10, h⟩ := bnd_ok h
        refine V_callVv (pc := 95) (rest := []) C cs_X6_180 (c_X6_next (d + 2) q4.2 hq10) CF6.1 LO6 (by omega) (by decide) rfl rfl (Nat.le_of_ble_eq_true rfl) dX6_not_95 ?_
        refine V_aload_n (pc := 98) C dX6_not_98 rfl rfl ?_
        obtain ⟨q11, hq12, h⟩ := bnd_ok h
        refine V_callVi (pc := 99) (rest := []) C cs_X6_230 (hR_added q9 hq12) CF6.1 LO6 (by omega) (by decide) rfl rfl (Nat.le_of_ble_eq_true rfl) dX6_not_99 ?_
        refine V_istore_n (pc := 102) C (lv' := [some (.ref 0), some (.int q4.1), some (.int s7), some (.int q11.1)]) dX6_not_102 rfl (by decide) (Nat.le_of_ble_eq_true rfl) rfl rfl ?_
        refine V_iload_n (pc := 103) C dX6_not_103 rfl rfl ?_
        refine V_ifeq (pc := 104) (tgt := 115) C dX6_not_104 (by decide) (fun hc13 => ?_) (fun hc13 => ?_)
        · have h := it_t h hc13
          refine V_iload_n (pc := 115) C dX6_not_115 rfl rfl ?_
          refine V_iload_n (pc := 116) C dX6_not_116 rfl rfl ?_
          refine V_icmpne (pc := 117) (tgt := 124) C dX6_not_117 (by decide) (fun hc14 => ?_) (fun hc14 => ?_)
          · have h := it_f h hc14
            refine V_iconst (pc := 124) C (v := 0) dX6_not_124 (by decide) ?_
            exact V_iret (pc := 125) C (gdow h hG) dX6_not_125
          · have h := it_t h hc14
            refine V_iconst (pc := 120) C (v := 1) dX6_not_120 (by decide) ?_
            refine V_goto (pc := 121) (tgt := 125) C dX6_not_121 (by decide) ?_
            exact V_iret (pc := 125) C (gdow h hG) dX6_not_125
        · have h := it_f h hc13
          refine V_iload_n (pc := 107) C dX6_not_107 rfl rfl ?_
          refine V_iload_n (pc := 108) C dX6_not_108 rfl rfl ?_
          refine V_icmpge (pc := 109) (tgt := 124) C dX6_not_109 (by decide) (fun hc15 => ?_) (fun hc15 => ?_)
          · have h := it_t h hc15
            refine V_iconst (pc := 124) C (v := 0) dX6_not_124 (by decide) ?_
            exact V_iret (pc := 125) C (gdow h hG) dX6_not_125
          · have h := it_f h hc15
            refine V_goto (pc := 112) (tgt := 120) C dX6_not_112 (by decide) ?_
            refine V_iconst (pc := 120) C (v := 1) dX6_not_120 (by decide) ?_
            refine V_goto (pc := 121) (tgt := 125) C dX6_not_121 (by decide) ?_
            exact V_iret (pc := 125) C (gdow h hG) dX6_not_125
      · refine V_ifne (pc := 85) (tgt := 92) C dX6_not_85 (by decide) (fun hc16 => ?_) (fun hc16 => ?_)
        · have h := it_f h hc16
          refine V_iconst (pc := 92) C (v := 0) dX6_not_92 (by decide) ?_
          exact hJ8 0 h
        · have h := it_t h hc16
          refine V_iconst (pc := 88) C (v := 1) dX6_not_88 (by decide) ?_
          refine V_goto (pc := 89) (tgt := 93) C dX6_not_89 (by decide) ?_
          exact hJ8 1 h
    · refine V_ifne (pc := 63) (tgt := 77) C dX6_not_63 (by decide) (fun hc17 => ?_) (fun hc17 => ?_)
      · have h := it_f h hc17
        exact hJ6 h
      · have h := it_t h hc17
        refine V_aload_n (pc := 66) C dX6_not_66 rfl rfl ?_
        refine V_bipush (pc := 67) C (v := 61) dX6_not_67 (by decide) ?_
        refine V_callVi (pc := 69) (rest := []) C cs_X6_205 (c_X6_isSign (d + 3) 61 q4.2) CF6.1 LO6 (by omega) (by decide) rfl rfl (Nat.le_of_ble_eq_true rfl) dX6_not_69 ?_
        refine V_ifne (pc := 72) (tgt := 77) C dX6_not_72 (by decide) (fun hc18 => ?_) (fun hc18 => ?_)
        · have h := it_f h hc18
          exact hJ6 h
        · have h := it_t h hc18
          refine V_iload_n (pc := 75) C dX6_not_75 rfl rfl ?_
          exact V_iret (pc := 76) C (gdow h hG) dX6_not_76
  · have h := it_f h hc3
    refine V_aload_n (pc := 18) C dX6_not_18 rfl rfl ?_
    obtain ⟨q19, hq20, h⟩ := bnd_ok h
    refine V_callVi (pc := 19) (rest := []) C cs_X6_208 (c_X6_opens (d + 1) mh hq20) CF6.1 LO6 (by omega) (by decide) rfl rfl (Nat.le_of_ble_eq_true rfl) dX6_not_19 ?_
    refine V_ifne (pc := 22) (tgt := 27) C dX6_not_22 (by decide) (fun hc21 => ?_) (fun hc21 => ?_)
    · have h := it_f h hc21
      refine V_aload_n (pc := 27) C dX6_not_27 rfl rfl ?_
      obtain ⟨q22, hq23, h⟩ := bnd_ok h
      refine V_callVi (pc := 28) (rest := []) C cs_X6_227 (hR_not q19.2 hq23) CF6.1 LO6 (by omega) (by decide) rfl rfl (Nat.le_of_ble_eq_true rfl) dX6_not_28 ?_
      refine V_istore_n (pc := 31) C (lv' := [some (.ref 0), some (.int q22.1), none, none]) dX6_not_31 rfl (by decide) (Nat.le_of_ble_eq_true rfl) rfl rfl ?_
      refine V_aload_n (pc := 32) C dX6_not_32 rfl rfl ?_
      refine V_dup (pc := 33) C dX6_not_33 rfl ?_
      refine V_getI (pc := 34) C CF6 fl_X6_174 LO6 (by decide) rfl dX6_not_34 (v := (q22.2.1 0 29)) rfl ?_
      refine V_iconst (pc := 37) C (v := 1) dX6_not_37 (by decide) ?_
      refine V_isub (pc := 38) C dX6_not_38 ?_
      refine V_putI (pc := 39) C CF6 fl_X6_174 LO6 (by decide) rfl rfl rfl dX6_not_39 ?_
      refine V_iload_n (pc := 42) C dX6_not_42 rfl rfl ?_
      refine V_ifne (pc := 43) (tgt := 50) C dX6_not_43 (by decide) (fun hc24 => ?_) (fun hc24 => ?_)
      · have h := it_f h hc24
        refine V_iconst (pc := 50) C (v := 0) dX6_not_50 (by decide) ?_
        exact V_iret (pc := 51) C (gdow h hG) dX6_not_51
      · have h := it_t h hc24
        refine V_iconst (pc := 46) C (v := 1) dX6_not_46 (by decide) ?_
        refine V_goto (pc := 47) (tgt := 51) C dX6_not_47 (by decide) ?_
        exact V_iret (pc := 51) C (gdow h hG) dX6_not_51
    · have h := it_t h hc21
      refine V_iconst (pc := 25) C (v := 0) dX6_not_25 (by decide) ?_
      exact V_iret (pc := 26) C (gdow h hG) dX6_not_26
def X6_both_L5 (R_not : vMH → Option (Int32 × vMH)) (rec5 : Int32 → vMH → Option (Int32 × vMH)) (v1_3 : Int32) (mh4 : vMH) : Option (Int32 × vMH) := ((X6_isWord 97 110 100 0 0 0 0 0 mh4).bind fun q6 => (if q6 = 0 then (some (v1_3, mh4)) else ((X6_next mh4).bind fun q9 => ((R_not q9).bind fun q11 => (wj0 (rec5 0 q11.2) fun J13 => (if v1_3 = 0 then J13 else (if q11.1 = 0 then J13 else (rec5 1 q11.2))))))))
def X6_both_B (R_not : vMH → Option (Int32 × vMH)) (mh : vMH) : Option (Int32 × vMH) := ((R_not mh).bind fun q1 => (lq2 4096 (X6_both_L5 R_not) q1.1 q1.2))
set_option maxRecDepth 100000 in
set_option maxHeartbeats 8000000 in
theorem c_X6_both_B (d : Nat) (R_not : vMH → Option (Int32 × vMH))  (mh : vMH) (hR_not : ∀  (mh : vMH) {res : Int32 × vMH}, R_not mh = some res → MC LM (d + 3) yX6_not cX6_not 4 (some .int) [.ref 0] mh (some (.int res.1)) res.2) {res : Int32 × vMH} (h : X6_both_B R_not mh = some res) : MC LM (d + 4) yX6_both cX6_both 3 (some .int) [.ref 0] mh (some (.int res.1)) res.2 := by
  refine MC_of 2 (by decide) rfl (fun X C hG => ?_)
  replace C : Cx X (d + 4) 3 cX6_both RX6 (some .int) := C
  show Vw LM X (d + 4) 3 0 [some (.ref 0), none, none] [] mh
  unfold X6_both_B at h
  refine V_aload_n (pc := 0) C dX6_both_0 rfl rfl ?_
  obtain ⟨q1, hq2, h⟩ := bnd_ok h
  refine V_callVi (pc := 1) (rest := []) C cs_X6_227 (hR_not mh hq2) CF6.1 LO6 (by omega) (by decide) rfl rfl (Nat.le_of_ble_eq_true rfl) dX6_both_1 ?_
  refine V_istore_n (pc := 4) C (lv' := [some (.ref 0), some (.int q1.1), none]) dX6_both_4 rfl (by decide) (Nat.le_of_ble_eq_true rfl) rfl rfl ?_
  refine lq2_ok (fun (v1_3 : Int32) (mh4 : vMH) => Vw LM X (d + 4) 3 5 [some (.ref 0), some (.int v1_3), none] [] mh4) h (fun rec5 hrec5 v1_3 mh4 h => ?_)
  unfold X6_both_L5 at h
  refine V_aload_n (pc := 5) C dX6_both_5 rfl rfl ?_
  refine V_bipush (pc := 6) C (v := 97) dX6_both_6 (by decide) ?_
  refine V_bipush (pc := 8) C (v := 110) dX6_both_8 (by decide) ?_
  refine V_bipush (pc := 10) C (v := 100) dX6_both_10 (by decide) ?_
  refine V_iconst (pc := 12) C (v := 0) dX6_both_12 (by decide) ?_
  refine V_iconst (pc := 13) C (v := 0) dX6_both_13 (by decide) ?_
  refine V_iconst (pc := 14) C (v := 0) dX6_both_14 (by decide) ?_
  refine V_iconst (pc := 15) C (v := 0) dX6_both_15 (by decide) ?_
  refine V_iconst (pc := 16) C (v := 0) dX6_both_16 (by decide) ?_
  obtain ⟨q6, hq7, h⟩ := bnd_ok h
  refine V_callVi (pc := 17) (rest := []) C cs_X6_183 (c_X6_isWord (d + 1) 97 110 100 0 0 0 0 0 mh4 hq7) CF6.1 LO6 (by omega) (by decide) rfl rfl (Nat.le_of_ble_eq_true rfl) dX6_both_17 ?_
  refine V_ifeq (pc := 20) (tgt := 49) C dX6_both_20 (by decide) (fun hc8 => ?_) (fun hc8 => ?_)
  · have h := it_t h hc8
    refine V_iload_n (pc := 49) C dX6_both_49 rfl rfl ?_
    exact V_iret (pc := 50) C (gdow h hG) dX6_both_50
  · have h := it_f h hc8
    refine V_aload_n (pc := 23) C dX6_both_23 rfl rfl ?_
    obtain ⟨q9, hq10, h⟩ := bnd_ok h
    refine V_callVv (pc := 24) (rest := []) C cs_X6_180 (c_X6_next (d + 2) mh4 hq10) CF6.1 LO6 (by omega) (by decide) rfl rfl (Nat.le_of_ble_eq_true rfl) dX6_both_24 ?_
    refine V_aload_n (pc := 27) C dX6_both_27 rfl rfl ?_
    obtain ⟨q11, hq12, h⟩ := bnd_ok h
    refine V_callVi (pc := 28) (rest := []) C cs_X6_227 (hR_not q9 hq12) CF6.1 LO6 (by omega) (by decide) rfl rfl (Nat.le_of_ble_eq_true rfl) dX6_both_28 ?_
    refine V_istore_n (pc := 31) C (lv' := [some (.ref 0), some (.int v1_3), some (.int q11.1)]) dX6_both_31 rfl (by decide) (Nat.le_of_ble_eq_true rfl) rfl rfl ?_
    refine V_iload_n (pc := 32) C dX6_both_32 rfl rfl ?_
    refine wj0_ok (Vw LM X (d + 4) 3 44 [some (.ref 0), some (.int v1_3), some (.int q11.1)] [] q11.2) h (fun h => ?_) (fun J13 hJ13 h => ?_)
    · refine V_iconst (pc := 44) C (v := 0) dX6_both_44 (by decide) ?_
      refine V_istore_n (pc := 45) C (lv' := [some (.ref 0), some (.int 0), some (.int q11.1)]) dX6_both_45 rfl (by decide) (Nat.le_of_ble_eq_true rfl) rfl rfl ?_
      refine V_goto (pc := 46) (tgt := 5) C dX6_both_46 (by decide) ?_
      refine V_mask [true, true, false] (lv' := [some (.ref 0), some (.int 0), none]) rfl ?_
      exact hrec5 0 q11.2 h
    · refine V_ifeq (pc := 33) (tgt := 44) C dX6_both_33 (by decide) (fun hc14 => ?_) (fun hc14 => ?_)
      · have h := it_t h hc14
        exact hJ13 h
      · have h := it_f h hc14
        refine V_iload_n (pc := 36) C dX6_both_36 rfl rfl ?_
        refine V_ifeq (pc := 37) (tgt := 44) C dX6_both_37 (by decide) (fun hc15 => ?_) (fun hc15 => ?_)
        · have h := it_t h hc15
          exact hJ13 h
        · have h := it_f h hc15
          refine V_iconst (pc := 40) C (v := 1) dX6_both_40 (by decide) ?_
          refine V_goto (pc := 41) (tgt := 45) C dX6_both_41 (by decide) ?_
          refine V_istore_n (pc := 45) C (lv' := [some (.ref 0), some (.int 1), some (.int q11.1)]) dX6_both_45 rfl (by decide) (Nat.le_of_ble_eq_true rfl) rfl rfl ?_
          refine V_goto (pc := 46) (tgt := 5) C dX6_both_46 (by decide) ?_
          refine V_mask [true, true, false] (lv' := [some (.ref 0), some (.int 1), none]) rfl ?_
          exact hrec5 1 q11.2 h
def X6_either_L5 (R_both : vMH → Option (Int32 × vMH)) (rec5 : Int32 → vMH → Option (Int32 × vMH)) (v1_3 : Int32) (mh4 : vMH) : Option (Int32 × vMH) := ((X6_isWord 111 114 0 0 0 0 0 0 mh4).bind fun q6 => (if q6 = 0 then (some (v1_3, mh4)) else ((X6_next mh4).bind fun q9 => ((R_both q9).bind fun q11 => (wj0 (rec5 1 q11.2) fun J13 => (if v1_3 = 0 then (if q11.1 = 0 then (rec5 0 q11.2) else J13) else J13))))))
def X6_either_B (R_both : vMH → Option (Int32 × vMH)) (mh : vMH) : Option (Int32 × vMH) := ((R_both mh).bind fun q1 => (lq2 4096 (X6_either_L5 R_both) q1.1 q1.2))
set_option maxRecDepth 100000 in
set_option maxHeartbeats 8000000 in
theorem c_X6_either_B (d : Nat) (R_both : vMH → Option (Int32 × vMH))  (mh : vMH) (hR_both : ∀  (mh : vMH) {res : Int32 × vMH}, R_both mh = some res → MC LM (d + 3) yX6_both cX6_both 3 (some .int) [.ref 0] mh (some (.int res.1)) res.2) {res : Int32 × vMH} (h : X6_either_B R_both mh = some res) : MC LM (d + 4) yX6_either cX6_either 3 (some .int) [.ref 0] mh (some (.int res.1)) res.2 := by
  refine MC_of 2 (by decide) rfl (fun X C hG => ?_)
  replace C : Cx X (d + 4) 3 cX6_either RX6 (some .int) := C
  show Vw LM X (d + 4) 3 0 [some (.ref 0), none, none] [] mh
  unfold X6_either_B at h
  refine V_aload_n (pc := 0) C dX6_either_0 rfl rfl ?_
  obtain ⟨q1, hq2, h⟩ := bnd_ok h
  refine V_callVi (pc := 1) (rest := []) C cs_X6_235 (hR_both mh hq2) CF6.1 LO6 (by omega) (by decide) rfl rfl (Nat.le_of_ble_eq_true rfl) dX6_either_1 ?_
  refine V_istore_n (pc := 4) C (lv' := [some (.ref 0), some (.int q1.1), none]) dX6_either_4 rfl (by decide) (Nat.le_of_ble_eq_true rfl) rfl rfl ?_
  refine lq2_ok (fun (v1_3 : Int32) (mh4 : vMH) => Vw LM X (d + 4) 3 5 [some (.ref 0), some (.int v1_3), none] [] mh4) h (fun rec5 hrec5 v1_3 mh4 h => ?_)
  unfold X6_either_L5 at h
  refine V_aload_n (pc := 5) C dX6_either_5 rfl rfl ?_
  refine V_bipush (pc := 6) C (v := 111) dX6_either_6 (by decide) ?_
  refine V_bipush (pc := 8) C (v := 114) dX6_either_8 (by decide) ?_
  refine V_iconst (pc := 10) C (v := 0) dX6_either_10 (by decide) ?_
  refine V_iconst (pc := 11) C (v := 0) dX6_either_11 (by decide) ?_
  refine V_iconst (pc := 12) C (v := 0) dX6_either_12 (by decide) ?_
  refine V_iconst (pc := 13) C (v := 0) dX6_either_13 (by decide) ?_
  refine V_iconst (pc := 14) C (v := 0) dX6_either_14 (by decide) ?_
  refine V_iconst (pc := 15) C (v := 0) dX6_either_15 (by decide) ?_
  obtain ⟨q6, hq7, h⟩ := bnd_ok h
  refine V_callVi (pc := 16) (rest := []) C cs_X6_183 (c_X6_isWord (d + 1) 111 114 0 0 0 0 0 0 mh4 hq7) CF6.1 LO6 (by omega) (by decide) rfl rfl (Nat.le_of_ble_eq_true rfl) dX6_either_16 ?_
  refine V_ifeq (pc := 19) (tgt := 48) C dX6_either_19 (by decide) (fun hc8 => ?_) (fun hc8 => ?_)
  · have h := it_t h hc8
    refine V_iload_n (pc := 48) C dX6_either_48 rfl rfl ?_
    exact V_iret (pc := 49) C (gdow h hG) dX6_either_49
  · have h := it_f h hc8
    refine V_aload_n (pc := 22) C dX6_either_22 rfl rfl ?_
    obtain ⟨q9, hq10, h⟩ := bnd_ok h
    refine V_callVv (pc := 23) (rest := []) C cs_X6_180 (c_X6_next (d + 2) mh4 hq10) CF6.1 LO6 (by omega) (by decide) rfl rfl (Nat.le_of_ble_eq_true rfl) dX6_either_23 ?_
    refine V_aload_n (pc := 26) C dX6_either_26 rfl rfl ?_
    obtain ⟨q11, hq12, h⟩ := bnd_ok h
    refine V_callVi (pc := 27) (rest := []) C cs_X6_235 (hR_both q9 hq12) CF6.1 LO6 (by omega) (by decide) rfl rfl (Nat.le_of_ble_eq_true rfl) dX6_either_27 ?_
    refine V_istore_n (pc := 30) C (lv' := [some (.ref 0), some (.int v1_3), some (.int q11.1)]) dX6_either_30 rfl (by decide) (Nat.le_of_ble_eq_true rfl) rfl rfl ?_
    refine V_iload_n (pc := 31) C dX6_either_31 rfl rfl ?_
    refine wj0_ok (Vw LM X (d + 4) 3 39 [some (.ref 0), some (.int v1_3), some (.int q11.1)] [] q11.2) h (fun h => ?_) (fun J13 hJ13 h => ?_)
    · refine V_iconst (pc := 39) C (v := 1) dX6_either_39 (by decide) ?_
      refine V_goto (pc := 40) (tgt := 44) C dX6_either_40 (by decide) ?_
      refine V_istore_n (pc := 44) C (lv' := [some (.ref 0), some (.int 1), some (.int q11.1)]) dX6_either_44 rfl (by decide) (Nat.le_of_ble_eq_true rfl) rfl rfl ?_
      refine V_goto (pc := 45) (tgt := 5) C dX6_either_45 (by decide) ?_
      refine V_mask [true, true, false] (lv' := [some (.ref 0), some (.int 1), none]) rfl ?_
      exact hrec5 1 q11.2 h
    · refine V_ifne (pc := 32) (tgt := 39) C dX6_either_32 (by decide) (fun hc14 => ?_) (fun hc14 => ?_)
      · have h := it_f h hc14
        exact hJ13 h
      · have h := it_t h hc14
        refine V_iload_n (pc := 35) C dX6_either_35 rfl rfl ?_
        refine V_ifeq (pc := 36) (tgt := 43) C dX6_either_36 (by decide) (fun hc15 => ?_) (fun hc15 => ?_)
        · have h := it_t h hc15
          refine V_iconst (pc := 43) C (v := 0) dX6_either_43 (by decide) ?_
          refine V_istore_n (pc := 44) C (lv' := [some (.ref 0), some (.int 0), some (.int q11.1)]) dX6_either_44 rfl (by decide) (Nat.le_of_ble_eq_true rfl) rfl rfl ?_
          refine V_goto (pc := 45) (tgt := 5) C dX6_either_45 (by decide) ?_
          refine V_mask [true, true, false] (lv' := [some (.ref 0), some (.int 0), none]) rfl ?_
          exact hrec5 0 q11.2 h
        · have h := it_f h hc15
          exact hJ13 h
def X6_rec : Nat → Nat → vMH → Option (Int32 × vMH)
  | 0, _, _ => none
  | n + 1, 0, mh => X6_atom_B (X6_rec n 5) (X6_rec n 0) mh
  | n + 1, 1, mh => X6_term_B (X6_rec n 0) mh
  | n + 1, 2, mh => X6_added_B (X6_rec n 1) mh
  | n + 1, 3, mh => X6_not_B (X6_rec n 2) (X6_rec n 3) mh
  | n + 1, 4, mh => X6_both_B (X6_rec n 3) mh
  | n + 1, 5, mh => X6_either_B (X6_rec n 4) mh
  | _, _, _ => none
theorem c_X6_rec (d : Nat) : ∀ n : Nat, (∀  (mh : vMH) {res : Int32 × vMH}, X6_rec n 0 mh = some res → MC LM (d + n + 4) yX6_atom cX6_atom 2 (some .int) [.ref 0] mh (some (.int res.1)) res.2) ∧ (∀  (mh : vMH) {res : Int32 × vMH}, X6_rec n 1 mh = some res → MC LM (d + n + 4) yX6_term cX6_term 2 (some .int) [.ref 0] mh (some (.int res.1)) res.2) ∧ (∀  (mh : vMH) {res : Int32 × vMH}, X6_rec n 2 mh = some res → MC LM (d + n + 4) yX6_added cX6_added 4 (some .int) [.ref 0] mh (some (.int res.1)) res.2) ∧ (∀  (mh : vMH) {res : Int32 × vMH}, X6_rec n 3 mh = some res → MC LM (d + n + 4) yX6_not cX6_not 4 (some .int) [.ref 0] mh (some (.int res.1)) res.2) ∧ (∀  (mh : vMH) {res : Int32 × vMH}, X6_rec n 4 mh = some res → MC LM (d + n + 4) yX6_both cX6_both 3 (some .int) [.ref 0] mh (some (.int res.1)) res.2) ∧ (∀  (mh : vMH) {res : Int32 × vMH}, X6_rec n 5 mh = some res → MC LM (d + n + 4) yX6_either cX6_either 3 (some .int) [.ref 0] mh (some (.int res.1)) res.2) := by
  intro n
  induction n with
  | zero => exact ⟨fun _ _ h => (by cases h), fun _ _ h => (by cases h), fun _ _ h => (by cases h), fun _ _ h => (by cases h), fun _ _ h => (by cases h), fun _ _ h => (by cases h)⟩
  | succ n ih =>
    obtain ⟨ih0, ih1, ih2, ih3, ih4, ih5⟩ := ih
    exact ⟨fun mh _ h => c_X6_atom_B (d + n + 1) (X6_rec n 5) (X6_rec n 0)  mh (fun mh _ h => ih5 mh h) (fun mh _ h => ih0 mh h) h,
      fun mh _ h => c_X6_term_B (d + n + 1) (X6_rec n 0)  mh (fun mh _ h => ih0 mh h) h,
      fun mh _ h => c_X6_added_B (d + n + 1) (X6_rec n 1)  mh (fun mh _ h => ih1 mh h) h,
      fun mh _ h => c_X6_not_B (d + n + 1) (X6_rec n 2) (X6_rec n 3)  mh (fun mh _ h => ih2 mh h) (fun mh _ h => ih3 mh h) h,
      fun mh _ h => c_X6_both_B (d + n + 1) (X6_rec n 3)  mh (fun mh _ h => ih3 mh h) h,
      fun mh _ h => c_X6_either_B (d + n + 1) (X6_rec n 4)  mh (fun mh _ h => ih4 mh h) h⟩
def X6_atom  (mh : vMH) : Option (Int32 × vMH) := X6_rec 64 0 mh
theorem c_X6_atom (d : Nat)  (mh : vMH) {res : Int32 × vMH} (h : X6_atom  mh = some res) : MC LM (d + 68) yX6_atom cX6_atom 2 (some .int) [.ref 0] mh (some (.int res.1)) res.2 := (c_X6_rec d 64).1  mh h
def X6_term  (mh : vMH) : Option (Int32 × vMH) := X6_rec 64 1 mh
theorem c_X6_term (d : Nat)  (mh : vMH) {res : Int32 × vMH} (h : X6_term  mh = some res) : MC LM (d + 68) yX6_term cX6_term 2 (some .int) [.ref 0] mh (some (.int res.1)) res.2 := (c_X6_rec d 64).2.1  mh h
def X6_added  (mh : vMH) : Option (Int32 × vMH) := X6_rec 64 2 mh
theorem c_X6_added (d : Nat)  (mh : vMH) {res : Int32 × vMH} (h : X6_added  mh = some res) : MC LM (d + 68) yX6_added cX6_added 4 (some .int) [.ref 0] mh (some (.int res.1)) res.2 := (c_X6_rec d 64).2.2.1  mh h
def X6_not  (mh : vMH) : Option (Int32 × vMH) := X6_rec 64 3 mh
theorem c_X6_not (d : Nat)  (mh : vMH) {res : Int32 × vMH} (h : X6_not  mh = some res) : MC LM (d + 68) yX6_not cX6_not 4 (some .int) [.ref 0] mh (some (.int res.1)) res.2 := (c_X6_rec d 64).2.2.2.1  mh h
def X6_both  (mh : vMH) : Option (Int32 × vMH) := X6_rec 64 4 mh
theorem c_X6_both (d : Nat)  (mh : vMH) {res : Int32 × vMH} (h : X6_both  mh = some res) : MC LM (d + 68) yX6_both cX6_both 3 (some .int) [.ref 0] mh (some (.int res.1)) res.2 := (c_X6_rec d 64).2.2.2.2.1  mh h
def X6_either  (mh : vMH) : Option (Int32 × vMH) := X6_rec 64 5 mh
theorem c_X6_either (d : Nat)  (mh : vMH) {res : Int32 × vMH} (h : X6_either  mh = some res) : MC LM (d + 68) yX6_either cX6_either 3 (some .int) [.ref 0] mh (some (.int res.1)) res.2 := (c_X6_rec d 64).2.2.2.2.2  mh h
def X6_part (v1 : Int32) (mh : vMH) : Option (Int32 × vMH) := (wj1 (fun (mh1 : vMH) => (wj1 (fun (mh3 : vMH) => (wj2 (fun (s5 : Int32) (mh6 : vMH) => (wj1 (fun (mh8 : vMH) => (if (mh8.1 0 30) = 0 then ((X6_next mh8).bind fun q11 => (some (s5, q11))) else (some (s5, mh8)))) fun J9 => (if (X6_isSign 59 mh6) = 0 then (J9 (X6_fail mh6)) else (J9 mh6)))) fun J7 => (if (mh3.1 0 30) = 0 then ((X6_either mh3).bind fun q15 => (J7 q15.1 q15.2)) else (J7 0 mh3)))) fun J4 => (if (mh1.1 0 30) = 0 then ((X6_next mh1).bind fun q18 => (J4 q18)) else (J4 mh1)))) fun J2 => (if v1 = 0 then (J2 (X6_fail mh)) else (J2 mh)))
set_option maxRecDepth 100000 in
set_option maxHeartbeats 8000000 in
theorem c_X6_part (d : Nat) (v1 : Int32) (mh : vMH) {res : Int32 × vMH} (h : X6_part v1 mh = some res) : MC LM (d + 69) yX6_part cX6_part 3 (some .int) [.ref 0, .int v1] mh (some (.int res.1)) res.2 := by
  refine MC_of 1 (by decide) rfl (fun X C hG => ?_)
  replace C : Cx X (d + 69) 3 cX6_part RX6 (some .int) := C
  show Vw LM X (d + 69) 3 0 [some (.ref 0), some (.int v1), none] [] mh
  unfold X6_part at h
  refine V_iload_n (pc := 0) C dX6_part_0 rfl rfl ?_
  refine wj1_ok (fun (mh1 : vMH) => Vw LM X (d + 69) 3 8 [some (.ref 0), some (.int v1), none] [] mh1) h (fun mh1 h => ?_) (fun J2 hJ2 h => ?_)
  · refine V_aload_n (pc := 8) C dX6_part_8 rfl rfl ?_
    refine V_getI (pc := 9) C CF6 fl_X6_163 LO6 (by decide) rfl dX6_part_9 (v := (mh1.1 0 30)) rfl ?_
    refine wj1_ok (fun (mh3 : vMH) => Vw LM X (d + 69) 3 19 [some (.ref 0), some (.int v1), none] [] mh3) h (fun mh3 h => ?_) (fun J4 hJ4 h => ?_)
    · refine V_aload_n (pc := 19) C dX6_part_19 rfl rfl ?_
      refine V_getI (pc := 20) C CF6 fl_X6_163 LO6 (by decide) rfl dX6_part_20 (v := (mh3.1 0 30)) rfl ?_
      refine wj2_ok (fun (s5 : Int32) (mh6 : vMH) => Vw LM X (d + 69) 3 34 [some (.ref 0), some (.int v1), none] [.int s5] mh6) h (fun s5 mh6 h => ?_) (fun J7 hJ7 h => ?_)
      · refine V_istore_n (pc := 34) C (lv' := [some (.ref 0), some (.int v1), some (.int s5)]) dX6_part_34 rfl (by decide) (Nat.le_of_ble_eq_true rfl) rfl rfl ?_
        refine V_aload_n (pc := 35) C dX6_part_35 rfl rfl ?_
        refine V_bipush (pc := 36) C (v := 59) dX6_part_36 (by decide) ?_
        refine V_callVi (pc := 38) (rest := []) C cs_X6_205 (c_X6_isSign (d + 68) 59 mh6) CF6.1 LO6 (by omega) (by decide) rfl rfl (Nat.le_of_ble_eq_true rfl) dX6_part_38 ?_
        refine wj1_ok (fun (mh8 : vMH) => Vw LM X (d + 69) 3 48 [some (.ref 0), some (.int v1), some (.int s5)] [] mh8) h (fun mh8 h => ?_) (fun J9 hJ9 h => ?_)
        · refine V_aload_n (pc := 48) C dX6_part_48 rfl rfl ?_
          refine V_getI (pc := 49) C CF6 fl_X6_163 LO6 (by decide) rfl dX6_part_49 (v := (mh8.1 0 30)) rfl ?_
          refine V_ifne (pc := 52) (tgt := 59) C dX6_part_52 (by decide) (fun hc10 => ?_) (fun hc10 => ?_)
          · have h := it_f h hc10
            refine V_iload_n (pc := 59) C dX6_part_59 rfl rfl ?_
            exact V_iret (pc := 60) C (gdow h hG) dX6_part_60
          · have h := it_t h hc10
            refine V_aload_n (pc := 55) C dX6_part_55 rfl rfl ?_
            obtain ⟨q11, hq12, h⟩ := bnd_ok h
            refine V_callVv (pc := 56) (rest := []) C cs_X6_180 (c_X6_next (d + 67) mh8 hq12) CF6.1 LO6 (by omega) (by decide) rfl rfl (Nat.le_of_ble_eq_true rfl) dX6_part_56 ?_
            refine V_iload_n (pc := 59) C dX6_part_59 rfl rfl ?_
            exact V_iret (pc := 60) C (gdow h hG) dX6_part_60
        · refine V_ifne (pc := 41) (tgt := 48) C dX6_part_41 (by decide) (fun hc13 => ?_) (fun hc13 => ?_)
          · have h := it_f h hc13
            exact hJ9 mh6 h
          · have h := it_t h hc13
            refine V_aload_n (pc := 44) C dX6_part_44 rfl rfl ?_
            refine V_callVv (pc := 45) (rest := []) C cs_X6_177 (c_X6_fail (d + 68) mh6) CF6.1 LO6 (by omega) (by decide) rfl rfl (Nat.le_of_ble_eq_true rfl) dX6_part_45 ?_
            exact hJ9 (X6_fail mh6) h
      · refine V_ifeq (pc := 23) (tgt := 30) C dX6_part_23 (by decide) (fun hc14 => ?_) (fun hc14 => ?_)
        · have h := it_t h hc14
          refine V_aload_n (pc := 30) C dX6_part_30 rfl rfl ?_
          obtain ⟨q15, hq16, h⟩ := bnd_ok h
          refine V_callVi (pc := 31) (rest := []) C cs_X6_216 (c_X6_either (d + 0) mh3 hq16) CF6.1 LO6 (by omega) (by decide) rfl rfl (Nat.le_of_ble_eq_true rfl) dX6_part_31 ?_
          exact hJ7 q15.1 q15.2 h
        · have h := it_f h hc14
          refine V_iconst (pc := 26) C (v := 0) dX6_part_26 (by decide) ?_
          refine V_goto (pc := 27) (tgt := 34) C dX6_part_27 (by decide) ?_
          exact hJ7 0 mh3 h
    · refine V_ifne (pc := 12) (tgt := 19) C dX6_part_12 (by decide) (fun hc17 => ?_) (fun hc17 => ?_)
      · have h := it_f h hc17
        exact hJ4 mh1 h
      · have h := it_t h hc17
        refine V_aload_n (pc := 15) C dX6_part_15 rfl rfl ?_
        obtain ⟨q18, hq19, h⟩ := bnd_ok h
        refine V_callVv (pc := 16) (rest := []) C cs_X6_180 (c_X6_next (d + 67) mh1 hq19) CF6.1 LO6 (by omega) (by decide) rfl rfl (Nat.le_of_ble_eq_true rfl) dX6_part_16 ?_
        exact hJ4 q18 h
  · refine V_ifne (pc := 1) (tgt := 8) C dX6_part_1 (by decide) (fun hc20 => ?_) (fun hc20 => ?_)
    · have h := it_f h hc20
      exact hJ2 mh h
    · have h := it_t h hc20
      refine V_aload_n (pc := 4) C dX6_part_4 rfl rfl ?_
      refine V_callVv (pc := 5) (rest := []) C cs_X6_177 (c_X6_fail (d + 68) mh) CF6.1 LO6 (by omega) (by decide) rfl rfl (Nat.le_of_ble_eq_true rfl) dX6_part_5 ?_
      exact hJ2 (X6_fail mh) h
def X6_read (v1 : Int32) (v2 : Int32) (mh : vMH) : Option (Int32 × vMH) := (chk (inb v1 6) ((X6_next (v_up (v_up (v_up (v_up (v_up mh 0 23 (160 * v1)) 0 24 (mh.1 2 (jn v1))) 0 25 0) 0 29 0) 0 30 0)).bind fun q2 => ((X6_isWord 100 105 103 115 0 0 0 0 q2).bind fun q4 => ((X6_part q4 q2).bind fun q6 => (wj2 (fun (s8 : Int32) (mh9 : vMH) => (wj2 (fun (s11 : Int32) (mh12 : vMH) => (wj1 (fun (mh14 : vMH) => (if v2 = 0 then (some (q6.1, mh14)) else (if v2 = 1 then (some (s8, mh14)) else (some (s11, mh14))))) fun J15 => (if (mh12.1 0 30) = 0 then (if (mh12.1 0 26) = 0 then (J15 mh12) else (J15 (X6_fail mh12))) else (J15 mh12)))) fun J13 => (if (mh9.1 0 30) = 0 then ((X6_isWord 119 111 114 116 104 0 0 0 mh9).bind fun q21 => ((X6_part q21 mh9).bind fun q23 => (J13 q23.1 q23.2))) else (J13 0 mh9)))) fun J10 => (if (q6.2.1 0 30) = 0 then ((X6_isWord 104 101 97 114 115 0 0 0 q6.2).bind fun q26 => ((X6_part q26 q6.2).bind fun q28 => (J10 q28.1 q28.2))) else (J10 0 q6.2)))))))
set_option maxRecDepth 100000 in
set_option maxHeartbeats 8000000 in
theorem c_X6_read (d : Nat) (v1 : Int32) (v2 : Int32) (mh : vMH) {res : Int32 × vMH} (h : X6_read v1 v2 mh = some res) : MC LM (d + 70) yX6_read cX6_read 6 (some .int) [.ref 0, .int v1, .int v2] mh (some (.int res.1)) res.2 := by
  refine MC_of 3 (by decide) rfl (fun X C hG => ?_)
  replace C : Cx X (d + 70) 6 cX6_read RX6 (some .int) := C
  show Vw LM X (d + 70) 6 0 [some (.ref 0), some (.int v1), some (.int v2), none, none, none] [] mh
  unfold X6_read at h
  refine V_aload_n (pc := 0) C dX6_read_0 rfl rfl ?_
  refine V_sipush (pc := 1) C (v := 160) dX6_read_1 (by decide) ?_
  refine V_iload_n (pc := 4) C dX6_read_4 rfl rfl ?_
  refine V_imul (pc := 5) C dX6_read_5 ?_
  refine V_putI (pc := 6) C CF6 fl_X6_134 LO6 (by decide) rfl rfl rfl dX6_read_6 ?_
  refine V_aload_n (pc := 9) C dX6_read_9 rfl rfl ?_
  refine V_aload_n (pc := 10) C dX6_read_10 rfl rfl ?_
  refine V_getR (pc := 11) C (r' := 2) CF6 fl_X6_17 LO6 (by decide) rfl dX6_read_11 ?_
  refine V_iload_n (pc := 14) C dX6_read_14 rfl rfl ?_
  obtain ⟨hi1, h⟩ := chk_ok h
  refine V_iald (pc := 15) C LAM2 hi1 dX6_read_15 (v := (mh.1 2 (jn v1))) (rd_ao LO6 LAM2) ?_
  refine V_putI (pc := 16) C CF6 fl_X6_131 LO6 (by decide) rfl rfl rfl dX6_read_16 ?_
  refine V_aload_n (pc := 19) C dX6_read_19 rfl rfl ?_
  refine V_iconst (pc := 20) C (v := 0) dX6_read_20 (by decide) ?_
  refine V_putI (pc := 21) C CF6 fl_X6_137 LO6 (by decide) rfl rfl rfl dX6_read_21 ?_
  refine V_aload_n (pc := 24) C dX6_read_24 rfl rfl ?_
  refine V_iconst (pc := 25) C (v := 0) dX6_read_25 (by decide) ?_
  refine V_putI (pc := 26) C CF6 fl_X6_174 LO6 (by decide) rfl rfl rfl dX6_read_26 ?_
  refine V_aload_n (pc := 29) C dX6_read_29 rfl rfl ?_
  refine V_iconst (pc := 30) C (v := 0) dX6_read_30 (by decide) ?_
  refine V_putT (pc := 31) C (t0 := .boolean) CF6 fl_X6_163 LO6 (by decide) rfl rfl rfl rfl rfl dX6_read_31 ?_
  refine V_aload_n (pc := 34) C dX6_read_34 rfl rfl ?_
  obtain ⟨q2, hq3, h⟩ := bnd_ok h
  refine V_callVv (pc := 35) (rest := []) C cs_X6_180 (c_X6_next (d + 68) (v_up (v_up (v_up (v_up (v_up mh 0 23 (160 * v1)) 0 24 (mh.1 2 (jn v1))) 0 25 0) 0 29 0) 0 30 0) hq3) CF6.1 LO6 (by omega) (by decide) rfl rfl (Nat.le_of_ble_eq_true rfl) dX6_read_35 ?_
  refine V_aload_n (pc := 38) C dX6_read_38 rfl rfl ?_
  refine V_aload_n (pc := 39) C dX6_read_39 rfl rfl ?_
  refine V_bipush (pc := 40) C (v := 100) dX6_read_40 (by decide) ?_
  refine V_bipush (pc := 42) C (v := 105) dX6_read_42 (by decide) ?_
  refine V_bipush (pc := 44) C (v := 103) dX6_read_44 (by decide) ?_
  refine V_bipush (pc := 46) C (v := 115) dX6_read_46 (by decide) ?_
  refine V_iconst (pc := 48) C (v := 0) dX6_read_48 (by decide) ?_
  refine V_iconst (pc := 49) C (v := 0) dX6_read_49 (by decide) ?_
  refine V_iconst (pc := 50) C (v := 0) dX6_read_50 (by decide) ?_
  refine V_iconst (pc := 51) C (v := 0) dX6_read_51 (by decide) ?_
  obtain ⟨q4, hq5, h⟩ := bnd_ok h
  refine V_callVi (pc := 52) (rest := [.ref 0]) C cs_X6_183 (c_X6_isWord (d + 67) 100 105 103 115 0 0 0 0 q2 hq5) CF6.1 LO6 (by omega) (by decide) rfl rfl (Nat.le_of_ble_eq_true rfl) dX6_read_52 ?_
  obtain ⟨q6, hq7, h⟩ := bnd_ok h
  refine V_callVi (pc := 55) (rest := []) C cs_X6_238 (c_X6_part (d + 0) q4 q2 hq7) CF6.1 LO6 (by omega) (by decide) rfl rfl (Nat.le_of_ble_eq_true rfl) dX6_read_55 ?_
  refine V_istore_n (pc := 58) C (lv' := [some (.ref 0), some (.int v1), some (.int v2), some (.int q6.1), none, none]) dX6_read_58 rfl (by decide) (Nat.le_of_ble_eq_true rfl) rfl rfl ?_
  refine V_aload_n (pc := 59) C dX6_read_59 rfl rfl ?_
  refine V_getI (pc := 60) C CF6 fl_X6_163 LO6 (by decide) rfl dX6_read_60 (v := (q6.2.1 0 30)) rfl ?_
  refine wj2_ok (fun (s8 : Int32) (mh9 : vMH) => Vw LM X (d + 70) 6 91 [some (.ref 0), some (.int v1), some (.int v2), some (.int q6.1), none, none] [.int s8] mh9) h (fun s8 mh9 h => ?_) (fun J10 hJ10 h => ?_)
  · refine V_istore (pc := 91) C (lv' := [some (.ref 0), some (.int v1), some (.int v2), some (.int q6.1), some (.int s8), none]) dX6_read_91 (by decide) (Nat.le_of_ble_eq_true rfl) rfl rfl ?_
    refine V_aload_n (pc := 93) C dX6_read_93 rfl rfl ?_
    refine V_getI (pc := 94) C CF6 fl_X6_163 LO6 (by decide) rfl dX6_read_94 (v := (mh9.1 0 30)) rfl ?_
    refine wj2_ok (fun (s11 : Int32) (mh12 : vMH) => Vw LM X (d + 70) 6 125 [some (.ref 0), some (.int v1), some (.int v2), some (.int q6.1), some (.int s8), none] [.int s11] mh12) h (fun s11 mh12 h => ?_) (fun J13 hJ13 h => ?_)
    · refine V_istore (pc := 125) C (lv' := [some (.ref 0), some (.int v1), some (.int v2), some (.int q6.1), some (.int s8), some (.int s11)]) dX6_read_125 (by decide) (Nat.le_of_ble_eq_true rfl) rfl rfl ?_
      refine V_aload_n (pc := 127) C dX6_read_127 rfl rfl ?_
      refine V_getI (pc := 128) C CF6 fl_X6_163 LO6 (by decide) rfl dX6_read_128 (v := (mh12.1 0 30)) rfl ?_
      refine wj1_ok (fun (mh14 : vMH) => Vw LM X (d + 70) 6 145 [some (.ref 0), some (.int v1), some (.int v2), some (.int q6.1), some (.int s8), some (.int s11)] [] mh14) h (fun mh14 h => ?_) (fun J15 hJ15 h => ?_)
      · refine V_iload_n (pc := 145) C dX6_read_145 rfl rfl ?_
        refine V_ifne (pc := 146) (tgt := 153) C dX6_read_146 (by decide) (fun hc16 => ?_) (fun hc16 => ?_)
        · have h := it_f h hc16
          refine V_iload_n (pc := 153) C dX6_read_153 rfl rfl ?_
          refine V_iconst (pc := 154) C (v := 1) dX6_read_154 (by decide) ?_
          refine V_icmpne (pc := 155) (tgt := 163) C dX6_read_155 (by decide) (fun hc17 => ?_) (fun hc17 => ?_)
          · have h := it_f h hc17
            refine V_iload (pc := 163) C dX6_read_163 rfl ?_
            exact V_iret (pc := 165) C (gdow h hG) dX6_read_165
          · have h := it_t h hc17
            refine V_iload (pc := 158) C dX6_read_158 rfl ?_
            refine V_goto (pc := 160) (tgt := 165) C dX6_read_160 (by decide) ?_
            exact V_iret (pc := 165) C (gdow h hG) dX6_read_165
        · have h := it_t h hc16
          refine V_iload_n (pc := 149) C dX6_read_149 rfl rfl ?_
          refine V_goto (pc := 150) (tgt := 165) C dX6_read_150 (by decide) ?_
          exact V_iret (pc := 165) C (gdow h hG) dX6_read_165
      · refine V_ifne (pc := 131) (tgt := 145) C dX6_read_131 (by decide) (fun hc18 => ?_) (fun hc18 => ?_)
        · have h := it_f h hc18
          exact hJ15 mh12 h
        · have h := it_t h hc18
          refine V_aload_n (pc := 134) C dX6_read_134 rfl rfl ?_
          refine V_getI (pc := 135) C CF6 fl_X6_146 LO6 (by decide) rfl dX6_read_135 (v := (mh12.1 0 26)) rfl ?_
          refine V_ifeq (pc := 138) (tgt := 145) C dX6_read_138 (by decide) (fun hc19 => ?_) (fun hc19 => ?_)
          · have h := it_t h hc19
            exact hJ15 mh12 h
          · have h := it_f h hc19
            refine V_aload_n (pc := 141) C dX6_read_141 rfl rfl ?_
            refine V_callVv (pc := 142) (rest := []) C cs_X6_177 (c_X6_fail (d + 69) mh12) CF6.1 LO6 (by omega) (by decide) rfl rfl (Nat.le_of_ble_eq_true rfl) dX6_read_142 ?_
            exact hJ15 (X6_fail mh12) h
    · refine V_ifeq (pc := 97) (tgt := 104) C dX6_read_97 (by decide) (fun hc20 => ?_) (fun hc20 => ?_)
      · have h := it_t h hc20
        refine V_aload_n (pc := 104) C dX6_read_104 rfl rfl ?_
        refine V_aload_n (pc := 105) C dX6_read_105 rfl rfl ?_
        refine V_bipush (pc := 106) C (v := 119) dX6_read_106 (by decide) ?_
        refine V_bipush (pc := 108) C (v := 111) dX6_read_108 (by decide) ?_
        refine V_bipush (pc := 110) C (v := 114) dX6_read_110 (by decide) ?_
        refine V_bipush (pc := 112) C (v := 116) dX6_read_112 (by decide) ?_
        refine V_bipush (pc := 114) C (v := 104) dX6_read_114 (by decide) ?_
        refine V_iconst (pc := 116) C (v := 0) dX6_read_116 (by decide) ?_
        refine V_iconst (pc := 117) C (v := 0) dX6_read_117 (by decide) ?_
        refine V_iconst (pc := 118) C (v := 0) dX6_read_118 (by decide) ?_
        obtain ⟨q21, hq22, h⟩ := bnd_ok h
        refine V_callVi (pc := 119) (rest := [.ref 0]) C cs_X6_183 (c_X6_isWord (d + 67) 119 111 114 116 104 0 0 0 mh9 hq22) CF6.1 LO6 (by omega) (by decide) rfl rfl (Nat.le_of_ble_eq_true rfl) dX6_read_119 ?_
        obtain ⟨q23, hq24, h⟩ := bnd_ok h
        refine V_callVi (pc := 122) (rest := []) C cs_X6_238 (c_X6_part (d + 0) q21 mh9 hq24) CF6.1 LO6 (by omega) (by decide) rfl rfl (Nat.le_of_ble_eq_true rfl) dX6_read_122 ?_
        exact hJ13 q23.1 q23.2 h
      · have h := it_f h hc20
        refine V_iconst (pc := 100) C (v := 0) dX6_read_100 (by decide) ?_
        refine V_goto (pc := 101) (tgt := 125) C dX6_read_101 (by decide) ?_
        exact hJ13 0 mh9 h
  · refine V_ifeq (pc := 63) (tgt := 70) C dX6_read_63 (by decide) (fun hc25 => ?_) (fun hc25 => ?_)
    · have h := it_t h hc25
      refine V_aload_n (pc := 70) C dX6_read_70 rfl rfl ?_
      refine V_aload_n (pc := 71) C dX6_read_71 rfl rfl ?_
      refine V_bipush (pc := 72) C (v := 104) dX6_read_72 (by decide) ?_
      refine V_bipush (pc := 74) C (v := 101) dX6_read_74 (by decide) ?_
      refine V_bipush (pc := 76) C (v := 97) dX6_read_76 (by decide) ?_
      refine V_bipush (pc := 78) C (v := 114) dX6_read_78 (by decide) ?_
      refine V_bipush (pc := 80) C (v := 115) dX6_read_80 (by decide) ?_
      refine V_iconst (pc := 82) C (v := 0) dX6_read_82 (by decide) ?_
      refine V_iconst (pc := 83) C (v := 0) dX6_read_83 (by decide) ?_
      refine V_iconst (pc := 84) C (v := 0) dX6_read_84 (by decide) ?_
      obtain ⟨q26, hq27, h⟩ := bnd_ok h
      refine V_callVi (pc := 85) (rest := [.ref 0]) C cs_X6_183 (c_X6_isWord (d + 67) 104 101 97 114 115 0 0 0 q6.2 hq27) CF6.1 LO6 (by omega) (by decide) rfl rfl (Nat.le_of_ble_eq_true rfl) dX6_read_85 ?_
      obtain ⟨q28, hq29, h⟩ := bnd_ok h
      refine V_callVi (pc := 88) (rest := []) C cs_X6_238 (c_X6_part (d + 0) q26 q6.2 hq29) CF6.1 LO6 (by omega) (by decide) rfl rfl (Nat.le_of_ble_eq_true rfl) dX6_read_88 ?_
      exact hJ10 q28.1 q28.2 h
    · have h := it_f h hc25
      refine V_iconst (pc := 66) C (v := 0) dX6_read_66 (by decide) ?_
      refine V_goto (pc := 67) (tgt := 91) C dX6_read_67 (by decide) ?_
      exact hJ10 0 q6.2 h
