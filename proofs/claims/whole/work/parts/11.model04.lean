def X6_drawn_L8 (J4 : vMH → Option (Int32 × vMH)) (rec12 : Int32 → Int32 → vMH → Option (Int32 × vMH)) (v2_9 : Int32) (v3_10 : Int32) (mh11 : vMH) : Option (Int32 × vMH) := (if (mh11.1 0 11) ≤ v3_10 then (J4 mh11) else (if (X6_lies v3_10 mh11) = 0 then (rec12 v2_9 (v3_10 + 1) mh11) else (chk (inb v3_10 12) (rec12 ((v2_9 * 1103515245) + 12345) (v3_10 + 1) (v_up (v_up mh11 5 (jn v3_10) (jr (ju ((v2_9 * 1103515245) + 12345) 9) 48)) 6 (jn v3_10) (jr (ju ((v2_9 * 1103515245) + 12345) 16) 21))))))
def X6_drawn (v1 : Int32) (mh : vMH) : Option (Int32 × vMH) := ((X6_laysAside mh).bind fun q1 => (wj1 (fun (mh3 : vMH) => ((X6_walksAll 63 mh3).bind fun q5 => ((X6_laysBack q5).bind fun q7 => (some ((q5.1 0 32), q7))))) fun J4 => (lq3 4096 (X6_drawn_L8 J4) v1 0 q1)))
set_option maxRecDepth 100000 in
set_option maxHeartbeats 8000000 in
theorem c_X6_drawn (d : Nat) (v1 : Int32) (mh : vMH) {res : Int32 × vMH} (h : X6_drawn v1 mh = some res) : MC LM (d + 77) yX6_drawn cX6_drawn 4 (some .int) [.ref 0, .int v1] mh (some (.int res.1)) res.2 := by
  refine MC_of 2 (by decide) rfl (fun X C hG => ?_)
  replace C : Cx X (d + 77) 4 cX6_drawn RX6 (some .int) := C
  show Vw LM X (d + 77) 4 0 [some (.ref 0), some (.int v1), none, none] [] mh
  unfold X6_drawn at h
  refine V_aload_n (pc := 0) C dX6_drawn_0 rfl rfl ?_
  obtain ⟨q1, hq2, h⟩ := bnd_ok h
  refine V_callVv (pc := 1) (rest := []) C cs_X6_293 (c_X6_laysAside (d + 76) mh hq2) CF6.1 LO6 (by omega) (by decide) rfl rfl (Nat.le_of_ble_eq_true rfl) dX6_drawn_1 ?_
  refine V_iload_n (pc := 4) C dX6_drawn_4 rfl rfl ?_
  refine V_istore_n (pc := 5) C (lv' := [some (.ref 0), some (.int v1), some (.int v1), none]) dX6_drawn_5 rfl (by decide) (Nat.le_of_ble_eq_true rfl) rfl rfl ?_
  refine V_iconst (pc := 6) C (v := 0) dX6_drawn_6 (by decide) ?_
  refine V_istore_n (pc := 7) C (lv' := [some (.ref 0), some (.int v1), some (.int v1), some (.int 0)]) dX6_drawn_7 rfl (by decide) (Nat.le_of_ble_eq_true rfl) rfl rfl ?_
  refine wj1_ok (fun (mh3 : vMH) => Vw LM X (d + 77) 4 66 [some (.ref 0), some (.int v1), none, none] [] mh3) h (fun mh3 h => ?_) (fun J4 hJ4 h => ?_)
  · refine V_aload_n (pc := 66) C dX6_drawn_66 rfl rfl ?_
    refine V_bipush (pc := 67) C (v := 63) dX6_drawn_67 (by decide) ?_
    obtain ⟨q5, hq6, h⟩ := bnd_ok h
    refine V_callVv (pc := 69) (rest := []) C cs_X6_296 (c_X6_walksAll (d + 0) 63 mh3 hq6) CF6.1 LO6 (by omega) (by decide) rfl rfl (Nat.le_of_ble_eq_true rfl) dX6_drawn_69 ?_
    refine V_aload_n (pc := 72) C dX6_drawn_72 rfl rfl ?_
    refine V_getI (pc := 73) C CF6 fl_X6_260 LO6 (by decide) rfl dX6_drawn_73 (v := (q5.1 0 32)) rfl ?_
    refine V_istore_n (pc := 76) C (lv' := [some (.ref 0), some (.int v1), none, some (.int (q5.1 0 32))]) dX6_drawn_76 rfl (by decide) (Nat.le_of_ble_eq_true rfl) rfl rfl ?_
    refine V_aload_n (pc := 77) C dX6_drawn_77 rfl rfl ?_
    obtain ⟨q7, hq8, h⟩ := bnd_ok h
    refine V_callVv (pc := 78) (rest := []) C cs_X6_299 (c_X6_laysBack (d + 76) q5 hq8) CF6.1 LO6 (by omega) (by decide) rfl rfl (Nat.le_of_ble_eq_true rfl) dX6_drawn_78 ?_
    refine V_iload_n (pc := 81) C dX6_drawn_81 rfl rfl ?_
    exact V_iret (pc := 82) C (gdow h hG) dX6_drawn_82
  · refine lq3_ok (fun (v2_9 : Int32) (v3_10 : Int32) (mh11 : vMH) => Vw LM X (d + 77) 4 8 [some (.ref 0), some (.int v1), some (.int v2_9), some (.int v3_10)] [] mh11) h (fun rec12 hrec12 v2_9 v3_10 mh11 h => ?_)
    unfold X6_drawn_L8 at h
    refine V_iload_n (pc := 8) C dX6_drawn_8 rfl rfl ?_
    refine V_aload_n (pc := 9) C dX6_drawn_9 rfl rfl ?_
    refine V_getI (pc := 10) C CF6 fl_X6_73 LO6 (by decide) rfl dX6_drawn_10 (v := (mh11.1 0 11)) rfl ?_
    refine V_icmpge (pc := 13) (tgt := 66) C dX6_drawn_13 (by decide) (fun hc13 => ?_) (fun hc13 => ?_)
    · have h := it_t h hc13
      refine V_mask [true, true, false, false] (lv' := [some (.ref 0), some (.int v1), none, none]) rfl ?_
      exact hJ4 mh11 h
    · have h := it_f h hc13
      refine V_aload_n (pc := 16) C dX6_drawn_16 rfl rfl ?_
      refine V_iload_n (pc := 17) C dX6_drawn_17 rfl rfl ?_
      refine V_callVi (pc := 18) (rest := []) C cs_X6_102 (c_X6_lies (d + 76) v3_10 mh11) CF6.1 LO6 (by omega) (by decide) rfl rfl (Nat.le_of_ble_eq_true rfl) dX6_drawn_18 ?_
      refine V_ifeq (pc := 21) (tgt := 60) C dX6_drawn_21 (by decide) (fun hc14 => ?_) (fun hc14 => ?_)
      · have h := it_t h hc14
        refine V_iinc (pc := 60) C (v := (v3_10 + 1)) (lv' := [some (.ref 0), some (.int v1), some (.int v2_9), some (.int (v3_10 + 1))]) dX6_drawn_60 rfl rfl (by decide) (Nat.le_of_ble_eq_true rfl) rfl rfl ?_
        refine V_goto (pc := 63) (tgt := 8) C dX6_drawn_63 (by decide) ?_
        exact hrec12 v2_9 (v3_10 + 1) mh11 h
      · have h := it_f h hc14
        refine V_iload_n (pc := 24) C dX6_drawn_24 rfl rfl ?_
        refine V_ldcw (pc := 25) C dX6_drawn_25 kc_X6_316 ?_
        refine V_imul (pc := 28) C dX6_drawn_28 ?_
        refine V_sipush (pc := 29) C (v := 12345) dX6_drawn_29 (by decide) ?_
        refine V_iadd (pc := 32) C dX6_drawn_32 ?_
        refine V_istore_n (pc := 33) C (lv' := [some (.ref 0), some (.int v1), some (.int ((v2_9 * 1103515245) + 12345)), some (.int v3_10)]) dX6_drawn_33 rfl (by decide) (Nat.le_of_ble_eq_true rfl) rfl rfl ?_
        refine V_aload_n (pc := 34) C dX6_drawn_34 rfl rfl ?_
        refine V_getR (pc := 35) C (r' := 5) CF6 fl_X6_26 LO6 (by decide) rfl dX6_drawn_35 ?_
        refine V_iload_n (pc := 38) C dX6_drawn_38 rfl rfl ?_
        refine V_iload_n (pc := 39) C dX6_drawn_39 rfl rfl ?_
        refine V_bipush (pc := 40) C (v := 9) dX6_drawn_40 (by decide) ?_
        refine V_iushr (pc := 42) C dX6_drawn_42 ?_
        refine V_bipush (pc := 43) C (v := 48) dX6_drawn_43 (by decide) ?_
        refine V_irem (pc := 45) C dX6_drawn_45 (by decide) ?_
        obtain ⟨hi15, h⟩ := chk_ok h
        refine V_iast (pc := 46) C LAM5 hi15 dX6_drawn_46 ?_
        refine V_aload_n (pc := 47) C dX6_drawn_47 rfl rfl ?_
        refine V_getR (pc := 48) C (r' := 6) CF6 fl_X6_29 LO6 (by decide) rfl dX6_drawn_48 ?_
        refine V_iload_n (pc := 51) C dX6_drawn_51 rfl rfl ?_
        refine V_iload_n (pc := 52) C dX6_drawn_52 rfl rfl ?_
        refine V_bipush (pc := 53) C (v := 16) dX6_drawn_53 (by decide) ?_
        refine V_iushr (pc := 55) C dX6_drawn_55 ?_
        refine V_bipush (pc := 56) C (v := 21) dX6_drawn_56 (by decide) ?_
        refine V_irem (pc := 58) C dX6_drawn_58 (by decide) ?_
        refine V_iast (pc := 59) C LAM6 hi15 dX6_drawn_59 ?_
        refine V_iinc (pc := 60) C (v := (v3_10 + 1)) (lv' := [some (.ref 0), some (.int v1), some (.int ((v2_9 * 1103515245) + 12345)), some (.int (v3_10 + 1))]) dX6_drawn_60 rfl rfl (by decide) (Nat.le_of_ble_eq_true rfl) rfl rfl ?_
        refine V_goto (pc := 63) (tgt := 8) C dX6_drawn_63 (by decide) ?_
        exact hrec12 ((v2_9 * 1103515245) + 12345) (v3_10 + 1) (v_up (v_up mh11 5 (jn v3_10) (jr (ju ((v2_9 * 1103515245) + 12345) 9) 48)) 6 (jn v3_10) (jr (ju ((v2_9 * 1103515245) + 12345) 16) 21)) h
def X6_odds_L87 (J8 : Int64 → Option (Int64 × vMH)) (rec14 : Int64 → Int64 → Option (Int64 × vMH)) (v7_12 : Int64) (v9_13 : Int64) : Option (Int64 × vMH) := (if (lg_cmp v9_13 0) = 0 then (J8 v7_12) else (chk (¬ v9_13 = 0) (rec14 v9_13 (jrl v7_12 v9_13))))
def X6_odds_L45 (v1 : Int32) (v2 : Int32) (v3 : Int32) (J6 : Int64 → vMH → Option (Int64 × vMH)) (rec20 : Int64 → Int32 → vMH → Option (Int64 × vMH)) (v5_17 : Int64) (v7_18 : Int32) (mh19 : vMH) : Option (Int64 × vMH) := (if v2 ≤ v7_18 then (J6 v5_17 mh19) else ((X6_drawn (v1 + v7_18) mh19).bind fun q22 => (if q22.1 < v3 then (rec20 (v5_17 + 0) (v7_18 + 1) q22.2) else (rec20 (v5_17 + 1) (v7_18 + 1) q22.2))))
def X6_odds (v1 : Int32) (v2 : Int32) (v3 : Int32) (v4 : Int32) (mh : vMH) : Option (Int64 × vMH) := (if (X6_in (Int32.toInt64 v2) 1 20) = 0 then (some ((-4611686018427387904), mh)) else (if (X6_in (Int32.toInt64 v3) 0 12) = 0 then (some ((-4611686018427387904), mh)) else (if (X6_in (Int32.toInt64 v4) 0 1) = 0 then (some ((-4611686018427387904), mh)) else (wj2 (fun (v5_4 : Int64) (mh5 : vMH) => (wj1 (fun (v7_7 : Int64) => (if v4 = 0 then (chk (¬ v7_7 = 0) (some ((v5_4 / v7_7), mh5))) else (chk (¬ v7_7 = 0) (some (((Int32.toInt64 v2) / v7_7), mh5))))) fun J8 => (lq2 4096 (X6_odds_L87 J8) v5_4 (Int32.toInt64 v2)))) fun J6 => (lq3 4096 (X6_odds_L45 v1 v2 v3 J6) 0 0 mh)))))
set_option maxRecDepth 100000 in
set_option maxHeartbeats 8000000 in
theorem c_X6_odds (d : Nat) (v1 : Int32) (v2 : Int32) (v3 : Int32) (v4 : Int32) (mh : vMH) {res : Int64 × vMH} (h : X6_odds v1 v2 v3 v4 mh = some res) : MC LM (d + 78) yX6_odds cX6_odds 13 (some .long) [.ref 0, .int v1, .int v2, .int v3, .int v4] mh (some (.long res.1)) res.2 := by
  refine MC_of 8 (by decide) rfl (fun X C hG => ?_)
  replace C : Cx X (d + 78) 13 cX6_odds RX6 (some .long) := C
  show Vw LM X (d + 78) 13 0 [some (.ref 0), some (.int v1), some (.int v2), some (.int v3), some (.int v4), none, none, none, none, none, none, none, none] [] mh
  unfold X6_odds at h
  refine V_iload_n (pc := 0) C dX6_odds_0 rfl rfl ?_
  refine V_i2l (pc := 1) C dX6_odds_1 ?_
  refine V_lconst (pc := 2) C (v := 1) dX6_odds_2 (by decide) ?_
  refine V_ldc2 (pc := 3) C dX6_odds_3 kc_X6_98 ?_
  refine V_callSi (pc := 6) (rest := []) C cs_X6_76 (c_X6_in (d + 77) (Int32.toInt64 v2) 1 20 mh) (by omega) (by decide) rfl rfl (Nat.le_of_ble_eq_true rfl) dX6_odds_6 ?_
  refine V_ifeq (pc := 9) (tgt := 35) C dX6_odds_9 (by decide) (fun hc1 => ?_) (fun hc1 => ?_)
  · have h := it_t h hc1
    refine V_ldc2 (pc := 35) C dX6_odds_35 kc_X6_319 ?_
    exact V_lret (pc := 38) C (gdoLw h hG) dX6_odds_38
  · have h := it_f h hc1
    refine V_iload_n (pc := 12) C dX6_odds_12 rfl rfl ?_
    refine V_i2l (pc := 13) C dX6_odds_13 ?_
    refine V_lconst (pc := 14) C (v := 0) dX6_odds_14 (by decide) ?_
    refine V_ldc2 (pc := 15) C dX6_odds_15 kc_X6_317 ?_
    refine V_callSi (pc := 18) (rest := []) C cs_X6_76 (c_X6_in (d + 77) (Int32.toInt64 v3) 0 12 mh) (by omega) (by decide) rfl rfl (Nat.le_of_ble_eq_true rfl) dX6_odds_18 ?_
    refine V_ifeq (pc := 21) (tgt := 35) C dX6_odds_21 (by decide) (fun hc2 => ?_) (fun hc2 => ?_)
    · have h := it_t h hc2
      refine V_ldc2 (pc := 35) C dX6_odds_35 kc_X6_319 ?_
      exact V_lret (pc := 38) C (gdoLw h hG) dX6_odds_38
    · have h := it_f h hc2
      refine V_iload (pc := 24) C dX6_odds_24 rfl ?_
      refine V_i2l (pc := 26) C dX6_odds_26 ?_
      refine V_lconst (pc := 27) C (v := 0) dX6_odds_27 (by decide) ?_
      refine V_lconst (pc := 28) C (v := 1) dX6_odds_28 (by decide) ?_
      refine V_callSi (pc := 29) (rest := []) C cs_X6_76 (c_X6_in (d + 77) (Int32.toInt64 v4) 0 1 mh) (by omega) (by decide) rfl rfl (Nat.le_of_ble_eq_true rfl) dX6_odds_29 ?_
      refine V_ifne (pc := 32) (tgt := 39) C dX6_odds_32 (by decide) (fun hc3 => ?_) (fun hc3 => ?_)
      · have h := it_f h hc3
        refine V_lconst (pc := 39) C (v := 0) dX6_odds_39 (by decide) ?_
        refine V_lstore (pc := 40) C (lv' := [some (.ref 0), some (.int v1), some (.int v2), some (.int v3), some (.int v4), some (.long 0), none, none, none, none, none, none, none]) dX6_odds_40 (by decide) (Nat.le_of_ble_eq_true rfl) rfl rfl ?_
        refine V_iconst (pc := 42) C (v := 0) dX6_odds_42 (by decide) ?_
        refine V_istore (pc := 43) C (lv' := [some (.ref 0), some (.int v1), some (.int v2), some (.int v3), some (.int v4), some (.long 0), none, some (.int 0), none, none, none, none, none]) dX6_odds_43 (by decide) (Nat.le_of_ble_eq_true rfl) rfl rfl ?_
        refine wj2_ok (fun (v5_4 : Int64) (mh5 : vMH) => Vw LM X (d + 78) 13 79 [some (.ref 0), some (.int v1), some (.int v2), some (.int v3), some (.int v4), some (.long v5_4), none, none, none, none, none, none, none] [] mh5) h (fun v5_4 mh5 h => ?_) (fun J6 hJ6 h => ?_)
        · refine V_lload (pc := 79) C dX6_odds_79 rfl ?_
          refine V_lstore (pc := 81) C (lv' := [some (.ref 0), some (.int v1), some (.int v2), some (.int v3), some (.int v4), some (.long v5_4), none, some (.long v5_4), none, none, none, none, none]) dX6_odds_81 (by decide) (Nat.le_of_ble_eq_true rfl) rfl rfl ?_
          refine V_iload_n (pc := 83) C dX6_odds_83 rfl rfl ?_
          refine V_i2l (pc := 84) C dX6_odds_84 ?_
          refine V_lstore (pc := 85) C (lv' := [some (.ref 0), some (.int v1), some (.int v2), some (.int v3), some (.int v4), some (.long v5_4), none, some (.long v5_4), none, some (.long (Int32.toInt64 v2)), none, none, none]) dX6_odds_85 (by decide) (Nat.le_of_ble_eq_true rfl) rfl rfl ?_
          refine wj1_ok (fun (v7_7 : Int64) => Vw LM X (d + 78) 13 112 [some (.ref 0), some (.int v1), some (.int v2), some (.int v3), some (.int v4), some (.long v5_4), none, some (.long v7_7), none, none, none, none, none] [] mh5) h (fun v7_7 h => ?_) (fun J8 hJ8 h => ?_)
          · refine V_iload (pc := 112) C dX6_odds_112 rfl ?_
            refine V_ifne (pc := 114) (tgt := 125) C dX6_odds_114 (by decide) (fun hc9 => ?_) (fun hc9 => ?_)
            · have h := it_f h hc9
              refine V_iload_n (pc := 125) C dX6_odds_125 rfl rfl ?_
              refine V_i2l (pc := 126) C dX6_odds_126 ?_
              refine V_lload (pc := 127) C dX6_odds_127 rfl ?_
              obtain ⟨hi10, h⟩ := chk_ok h
              refine V_ldiv (pc := 129) C dX6_odds_129 hi10 ?_
              exact V_lret (pc := 130) C (gdoLw h hG) dX6_odds_130
            · have h := it_t h hc9
              refine V_lload (pc := 117) C dX6_odds_117 rfl ?_
              refine V_lload (pc := 119) C dX6_odds_119 rfl ?_
              obtain ⟨hi11, h⟩ := chk_ok h
              refine V_ldiv (pc := 121) C dX6_odds_121 hi11 ?_
              refine V_goto (pc := 122) (tgt := 130) C dX6_odds_122 (by decide) ?_
              exact V_lret (pc := 130) C (gdoLw h hG) dX6_odds_130
          · refine lq2_ok (fun (v7_12 : Int64) (v9_13 : Int64) => Vw LM X (d + 78) 13 87 [some (.ref 0), some (.int v1), some (.int v2), some (.int v3), some (.int v4), some (.long v5_4), none, some (.long v7_12), none, some (.long v9_13), none, none, none] [] mh5) h (fun rec14 hrec14 v7_12 v9_13 h => ?_)
            unfold X6_odds_L87 at h
            refine V_lload (pc := 87) C dX6_odds_87 rfl ?_
            refine V_lconst (pc := 89) C (v := 0) dX6_odds_89 (by decide) ?_
            refine V_lcmp (pc := 90) C dX6_odds_90 ?_
            refine V_ifeq (pc := 91) (tgt := 112) C dX6_odds_91 (by decide) (fun hc15 => ?_) (fun hc15 => ?_)
            · have h := it_t h hc15
              refine V_mask [true, true, true, true, true, true, true, true, true, false, true, true, true] (lv' := [some (.ref 0), some (.int v1), some (.int v2), some (.int v3), some (.int v4), some (.long v5_4), none, some (.long v7_12), none, none, none, none, none]) rfl ?_
              exact hJ8 v7_12 h
            · have h := it_f h hc15
              refine V_lload (pc := 94) C dX6_odds_94 rfl ?_
              refine V_lload (pc := 96) C dX6_odds_96 rfl ?_
              obtain ⟨hi16, h⟩ := chk_ok h
              refine V_lrem (pc := 98) C dX6_odds_98 hi16 ?_
              refine V_lstore (pc := 99) C (lv' := [some (.ref 0), some (.int v1), some (.int v2), some (.int v3), some (.int v4), some (.long v5_4), none, some (.long v7_12), none, some (.long v9_13), none, some (.long (jrl v7_12 v9_13)), none]) dX6_odds_99 (by decide) (Nat.le_of_ble_eq_true rfl) rfl rfl ?_
              refine V_lload (pc := 101) C dX6_odds_101 rfl ?_
              refine V_lstore (pc := 103) C (lv' := [some (.ref 0), some (.int v1), some (.int v2), some (.int v3), some (.int v4), some (.long v5_4), none, some (.long v9_13), none, some (.long v9_13), none, some (.long (jrl v7_12 v9_13)), none]) dX6_odds_103 (by decide) (Nat.le_of_ble_eq_true rfl) rfl rfl ?_
              refine V_lload (pc := 105) C dX6_odds_105 rfl ?_
              refine V_lstore (pc := 107) C (lv' := [some (.ref 0), some (.int v1), some (.int v2), some (.int v3), some (.int v4), some (.long v5_4), none, some (.long v9_13), none, some (.long (jrl v7_12 v9_13)), none, some (.long (jrl v7_12 v9_13)), none]) dX6_odds_107 (by decide) (Nat.le_of_ble_eq_true rfl) rfl rfl ?_
              refine V_goto (pc := 109) (tgt := 87) C dX6_odds_109 (by decide) ?_
              refine V_mask [true, true, true, true, true, true, true, true, true, true, true, false, true] (lv' := [some (.ref 0), some (.int v1), some (.int v2), some (.int v3), some (.int v4), some (.long v5_4), none, some (.long v9_13), none, some (.long (jrl v7_12 v9_13)), none, none, none]) rfl ?_
              exact hrec14 v9_13 (jrl v7_12 v9_13) h
        · refine lq3_ok (fun (v5_17 : Int64) (v7_18 : Int32) (mh19 : vMH) => Vw LM X (d + 78) 13 45 [some (.ref 0), some (.int v1), some (.int v2), some (.int v3), some (.int v4), some (.long v5_17), none, some (.int v7_18), none, none, none, none, none] [] mh19) h (fun rec20 hrec20 v5_17 v7_18 mh19 h => ?_)
          unfold X6_odds_L45 at h
          refine V_iload (pc := 45) C dX6_odds_45 rfl ?_
          refine V_iload_n (pc := 47) C dX6_odds_47 rfl rfl ?_
          refine V_icmpge (pc := 48) (tgt := 79) C dX6_odds_48 (by decide) (fun hc21 => ?_) (fun hc21 => ?_)
          · have h := it_t h hc21
            refine V_mask [true, true, true, true, true, true, true, false, true, true, true, true, true] (lv' := [some (.ref 0), some (.int v1), some (.int v2), some (.int v3), some (.int v4), some (.long v5_17), none, none, none, none, none, none, none]) rfl ?_
            exact hJ6 v5_17 mh19 h
          · have h := it_f h hc21
            refine V_lload (pc := 51) C dX6_odds_51 rfl ?_
            refine V_aload_n (pc := 53) C dX6_odds_53 rfl rfl ?_
            refine V_iload_n (pc := 54) C dX6_odds_54 rfl rfl ?_
            refine V_iload (pc := 55) C dX6_odds_55 rfl ?_
            refine V_iadd (pc := 57) C dX6_odds_57 ?_
            obtain ⟨q22, hq23, h⟩ := bnd_ok h
            refine V_callVi (pc := 58) (rest := [.long v5_17]) C cs_X6_321 (c_X6_drawn (d + 0) (v1 + v7_18) mh19 hq23) CF6.1 LO6 (by omega) (by decide) rfl rfl (Nat.le_of_ble_eq_true rfl) dX6_odds_58 ?_
            refine V_iload_n (pc := 61) C dX6_odds_61 rfl rfl ?_
            refine V_icmplt (pc := 62) (tgt := 69) C dX6_odds_62 (by decide) (fun hc24 => ?_) (fun hc24 => ?_)
            · have h := it_t h hc24
              refine V_lconst (pc := 69) C (v := 0) dX6_odds_69 (by decide) ?_
              refine V_ladd (pc := 70) C dX6_odds_70 ?_
              refine V_lstore (pc := 71) C (lv' := [some (.ref 0), some (.int v1), some (.int v2), some (.int v3), some (.int v4), some (.long (v5_17 + 0)), none, some (.int v7_18), none, none, none, none, none]) dX6_odds_71 (by decide) (Nat.le_of_ble_eq_true rfl) rfl rfl ?_
              refine V_iinc (pc := 73) C (v := (v7_18 + 1)) (lv' := [some (.ref 0), some (.int v1), some (.int v2), some (.int v3), some (.int v4), some (.long (v5_17 + 0)), none, some (.int (v7_18 + 1)), none, none, none, none, none]) dX6_odds_73 rfl rfl (by decide) (Nat.le_of_ble_eq_true rfl) rfl rfl ?_
              refine V_goto (pc := 76) (tgt := 45) C dX6_odds_76 (by decide) ?_
              exact hrec20 (v5_17 + 0) (v7_18 + 1) q22.2 h
            · have h := it_f h hc24
              refine V_lconst (pc := 65) C (v := 1) dX6_odds_65 (by decide) ?_
              refine V_goto (pc := 66) (tgt := 70) C dX6_odds_66 (by decide) ?_
              refine V_ladd (pc := 70) C dX6_odds_70 ?_
              refine V_lstore (pc := 71) C (lv' := [some (.ref 0), some (.int v1), some (.int v2), some (.int v3), some (.int v4), some (.long (v5_17 + 1)), none, some (.int v7_18), none, none, none, none, none]) dX6_odds_71 (by decide) (Nat.le_of_ble_eq_true rfl) rfl rfl ?_
              refine V_iinc (pc := 73) C (v := (v7_18 + 1)) (lv' := [some (.ref 0), some (.int v1), some (.int v2), some (.int v3), some (.int v4), some (.long (v5_17 + 1)), none, some (.int (v7_18 + 1)), none, none, none, none, none]) dX6_odds_73 rfl rfl (by decide) (Nat.le_of_ble_eq_true rfl) rfl rfl ?_
              refine V_goto (pc := 76) (tgt := 45) C dX6_odds_76 (by decide) ?_
              exact hrec20 (v5_17 + 1) (v7_18 + 1) q22.2 h
      · have h := it_t h hc3
        refine V_ldc2 (pc := 35) C dX6_odds_35 kc_X6_319 ?_
        exact V_lret (pc := 38) C (gdoLw h hG) dX6_odds_38
def X6_image_L2 (J2 : vMH → Option (Int32 × vMH)) (rec7 : Int32 → vMH → Option (Int32 × vMH)) (v1_5 : Int32) (mh6 : vMH) : Option (Int32 × vMH) := (if 12 ≤ v1_5 then (J2 mh6) else (chk (inb v1_5 12) (rec7 (v1_5 + 1) (v_up (v_up mh6 10 (jn v1_5) (mh6.1 5 (jn v1_5))) 11 (jn v1_5) (mh6.1 6 (jn v1_5))))))
def X6_image (mh : vMH) : Option (Int32 × vMH) := (wj1 (fun (mh1 : vMH) => ((X6_bitsOf (mh1.1 0 12)).bind fun q3 => (some (((mh1.1 0 11) - q3), (v_up (v_up (v_up (v_up (v_up (v_up (v_up mh1 0 41 (mh1.1 0 11)) 0 42 (mh1.1 0 12)) 0 43 (mh1.1 0 13)) 0 44 (mh1.1 0 14)) 0 45 (mh1.1 0 15)) 0 46 (mh1.1 0 16)) 0 47 (mh1.1 0 4)))))) fun J2 => (lq2 4096 (X6_image_L2 J2) 0 mh))
set_option maxRecDepth 100000 in
set_option maxHeartbeats 8000000 in
theorem c_X6_image (d : Nat)  (mh : vMH) {res : Int32 × vMH} (h : X6_image mh = some res) : MC LM (d + 1) yX6_image cX6_image 2 (some .int) [.ref 0] mh (some (.int res.1)) res.2 := by
  refine MC_of 1 (by decide) rfl (fun X C hG => ?_)
  replace C : Cx X (d + 1) 2 cX6_image RX6 (some .int) := C
  show Vw LM X (d + 1) 2 0 [some (.ref 0), none] [] mh
  unfold X6_image at h
  refine V_iconst (pc := 0) C (v := 0) dX6_image_0 (by decide) ?_
  refine V_istore_n (pc := 1) C (lv' := [some (.ref 0), some (.int 0)]) dX6_image_1 rfl (by decide) (Nat.le_of_ble_eq_true rfl) rfl rfl ?_
  refine wj1_ok (fun (mh1 : vMH) => Vw LM X (d + 1) 2 38 [some (.ref 0), none] [] mh1) h (fun mh1 h => ?_) (fun J2 hJ2 h => ?_)
  · refine V_aload_n (pc := 38) C dX6_image_38 rfl rfl ?_
    refine V_aload_n (pc := 39) C dX6_image_39 rfl rfl ?_
    refine V_getI (pc := 40) C CF6 fl_X6_73 LO6 (by decide) rfl dX6_image_40 (v := (mh1.1 0 11)) rfl ?_
    refine V_putI (pc := 43) C CF6 fl_X6_50 LO6 (by decide) rfl rfl rfl dX6_image_43 ?_
    refine V_aload_n (pc := 46) C dX6_image_46 rfl rfl ?_
    refine V_aload_n (pc := 47) C dX6_image_47 rfl rfl ?_
    refine V_getI (pc := 48) C CF6 fl_X6_80 LO6 (by decide) rfl dX6_image_48 (v := (mh1.1 0 12)) (rd_k (by decide)) ?_
    refine V_putI (pc := 51) C CF6 fl_X6_324 LO6 (by decide) rfl rfl rfl dX6_image_51 ?_
    refine V_aload_n (pc := 54) C dX6_image_54 rfl rfl ?_
    refine V_aload_n (pc := 55) C dX6_image_55 rfl rfl ?_
    refine V_getI (pc := 56) C CF6 fl_X6_105 LO6 (by decide) rfl dX6_image_56 (v := (mh1.1 0 13)) ((rd_k (by decide)).trans (rd_k (by decide))) ?_
    refine V_putI (pc := 59) C CF6 fl_X6_327 LO6 (by decide) rfl rfl rfl dX6_image_59 ?_
    refine V_aload_n (pc := 62) C dX6_image_62 rfl rfl ?_
    refine V_aload_n (pc := 63) C dX6_image_63 rfl rfl ?_
    refine V_getI (pc := 64) C CF6 fl_X6_35 LO6 (by decide) rfl dX6_image_64 (v := (mh1.1 0 14)) ((rd_k (by decide)).trans ((rd_k (by decide)).trans (rd_k (by decide)))) ?_
    refine V_putI (pc := 67) C CF6 fl_X6_330 LO6 (by decide) rfl rfl rfl dX6_image_67 ?_
    refine V_aload_n (pc := 70) C dX6_image_70 rfl rfl ?_
    refine V_aload_n (pc := 71) C dX6_image_71 rfl rfl ?_
    refine V_getI (pc := 72) C CF6 fl_X6_276 LO6 (by decide) rfl dX6_image_72 (v := (mh1.1 0 15)) ((rd_k (by decide)).trans ((rd_k (by decide)).trans ((rd_k (by decide)).trans (rd_k (by decide))))) ?_
    refine V_putI (pc := 75) C CF6 fl_X6_333 LO6 (by decide) rfl rfl rfl dX6_image_75 ?_
    refine V_aload_n (pc := 78) C dX6_image_78 rfl rfl ?_
    refine V_aload_n (pc := 79) C dX6_image_79 rfl rfl ?_
    refine V_getI (pc := 80) C CF6 fl_X6_273 LO6 (by decide) rfl dX6_image_80 (v := (mh1.1 0 16)) ((rd_k (by decide)).trans ((rd_k (by decide)).trans ((rd_k (by decide)).trans ((rd_k (by decide)).trans (rd_k (by decide)))))) ?_
    refine V_putI (pc := 83) C CF6 fl_X6_336 LO6 (by decide) rfl rfl rfl dX6_image_83 ?_
    refine V_aload_n (pc := 86) C dX6_image_86 rfl rfl ?_
    refine V_aload_n (pc := 87) C dX6_image_87 rfl rfl ?_
    refine V_getI (pc := 88) C CF6 fl_X6_245 LO6 (by decide) rfl dX6_image_88 (v := (mh1.1 0 4)) ((rd_k (by decide)).trans ((rd_k (by decide)).trans ((rd_k (by decide)).trans ((rd_k (by decide)).trans ((rd_k (by decide)).trans (rd_k (by decide))))))) ?_
    refine V_putI (pc := 91) C CF6 fl_X6_339 LO6 (by decide) rfl rfl rfl dX6_image_91 ?_
    refine V_aload_n (pc := 94) C dX6_image_94 rfl rfl ?_
    refine V_getI (pc := 95) C CF6 fl_X6_73 LO6 (by decide) rfl dX6_image_95 (v := (mh1.1 0 11)) ((rd_k (by decide)).trans ((rd_k (by decide)).trans ((rd_k (by decide)).trans ((rd_k (by decide)).trans ((rd_k (by decide)).trans ((rd_k (by decide)).trans (rd_k (by decide)))))))) ?_
    refine V_aload_n (pc := 98) C dX6_image_98 rfl rfl ?_
    refine V_getI (pc := 99) C CF6 fl_X6_80 LO6 (by decide) rfl dX6_image_99 (v := (mh1.1 0 12)) ((rd_k (by decide)).trans ((rd_k (by decide)).trans ((rd_k (by decide)).trans ((rd_k (by decide)).trans ((rd_k (by decide)).trans ((rd_k (by decide)).trans (rd_k (by decide)))))))) ?_
    obtain ⟨q3, hq4, h⟩ := bnd_ok h
    refine V_callSi (pc := 102) (rest := [.int (mh1.1 0 11)]) C cs_X6_304 (c_X6_bitsOf (d + 0) (mh1.1 0 12) (v_up (v_up (v_up (v_up (v_up (v_up (v_up mh1 0 41 (mh1.1 0 11)) 0 42 (mh1.1 0 12)) 0 43 (mh1.1 0 13)) 0 44 (mh1.1 0 14)) 0 45 (mh1.1 0 15)) 0 46 (mh1.1 0 16)) 0 47 (mh1.1 0 4)) hq4) (by omega) (by decide) rfl rfl (Nat.le_of_ble_eq_true rfl) dX6_image_102 ?_
    refine V_isub (pc := 105) C dX6_image_105 ?_
    exact V_iret (pc := 106) C (gdow h hG) dX6_image_106
  · refine lq2_ok (fun (v1_5 : Int32) (mh6 : vMH) => Vw LM X (d + 1) 2 2 [some (.ref 0), some (.int v1_5)] [] mh6) h (fun rec7 hrec7 v1_5 mh6 h => ?_)
    unfold X6_image_L2 at h
    refine V_iload_n (pc := 2) C dX6_image_2 rfl rfl ?_
    refine V_bipush (pc := 3) C (v := 12) dX6_image_3 (by decide) ?_
    refine V_icmpge (pc := 5) (tgt := 38) C dX6_image_5 (by decide) (fun hc8 => ?_) (fun hc8 => ?_)
    · have h := it_t h hc8
      refine V_mask [true, false] (lv' := [some (.ref 0), none]) rfl ?_
      exact hJ2 mh6 h
    · have h := it_f h hc8
      refine V_aload_n (pc := 8) C dX6_image_8 rfl rfl ?_
      refine V_getR (pc := 9) C (r' := 10) CF6 fl_X6_44 LO6 (by decide) rfl dX6_image_9 ?_
      refine V_iload_n (pc := 12) C dX6_image_12 rfl rfl ?_
      refine V_aload_n (pc := 13) C dX6_image_13 rfl rfl ?_
      refine V_getR (pc := 14) C (r' := 5) CF6 fl_X6_26 LO6 (by decide) rfl dX6_image_14 ?_
      refine V_iload_n (pc := 17) C dX6_image_17 rfl rfl ?_
      obtain ⟨hi9, h⟩ := chk_ok h
      refine V_iald (pc := 18) C LAM5 hi9 dX6_image_18 (v := (mh6.1 5 (jn v1_5))) rfl ?_
      refine V_iast (pc := 19) C LAM10 hi9 dX6_image_19 ?_
      refine V_aload_n (pc := 20) C dX6_image_20 rfl rfl ?_
      refine V_getR (pc := 21) C (r' := 11) CF6 fl_X6_47 LO6 (by decide) rfl dX6_image_21 ?_
      refine V_iload_n (pc := 24) C dX6_image_24 rfl rfl ?_
      refine V_aload_n (pc := 25) C dX6_image_25 rfl rfl ?_
      refine V_getR (pc := 26) C (r' := 6) CF6 fl_X6_29 LO6 (by decide) rfl dX6_image_26 ?_
      refine V_iload_n (pc := 29) C dX6_image_29 rfl rfl ?_
      refine V_iald (pc := 30) C LAM6 hi9 dX6_image_30 (v := (mh6.1 6 (jn v1_5))) (rd_ne (by decide)) ?_
      refine V_iast (pc := 31) C LAM11 hi9 dX6_image_31 ?_
      refine V_iinc (pc := 32) C (v := (v1_5 + 1)) (lv' := [some (.ref 0), some (.int (v1_5 + 1))]) dX6_image_32 rfl rfl (by decide) (Nat.le_of_ble_eq_true rfl) rfl rfl ?_
      refine V_goto (pc := 35) (tgt := 2) C dX6_image_35 (by decide) ?_
      exact hrec7 (v1_5 + 1) (v_up (v_up mh6 10 (jn v1_5) (mh6.1 5 (jn v1_5))) 11 (jn v1_5) (mh6.1 6 (jn v1_5))) h
def X6_back_L13 (J3 : vMH → Option (Int32 × vMH)) (rec8 : Int32 → vMH → Option (Int32 × vMH)) (v1_6 : Int32) (mh7 : vMH) : Option (Int32 × vMH) := (if (mh7.1 0 41) ≤ v1_6 then (J3 mh7) else (chk (inb v1_6 12) (rec8 (v1_6 + 1) (v_up (v_up mh7 5 (jn v1_6) (mh7.1 10 (jn v1_6))) 6 (jn v1_6) (mh7.1 11 (jn v1_6))))))
def X6_back (mh : vMH) : Option (Int32 × vMH) := (if (mh.1 0 41) = (-1) then (some ((-3), mh)) else (wj1 (fun (mh2 : vMH) => ((X6_bitsOf (mh2.1 0 42)).bind fun q4 => (some (((mh2.1 0 41) - q4), (v_up (v_up (v_up (v_up (v_up (v_up (v_up mh2 0 11 (mh2.1 0 41)) 0 12 (mh2.1 0 42)) 0 13 (mh2.1 0 43)) 0 14 (mh2.1 0 44)) 0 15 (mh2.1 0 45)) 0 16 (mh2.1 0 46)) 0 4 (mh2.1 0 47)))))) fun J3 => (lq2 4096 (X6_back_L13 J3) 0 mh)))
set_option maxRecDepth 100000 in
set_option maxHeartbeats 8000000 in
theorem c_X6_back (d : Nat)  (mh : vMH) {res : Int32 × vMH} (h : X6_back mh = some res) : MC LM (d + 1) yX6_back cX6_back 2 (some .int) [.ref 0] mh (some (.int res.1)) res.2 := by
  refine MC_of 1 (by decide) rfl (fun X C hG => ?_)
  replace C : Cx X (d + 1) 2 cX6_back RX6 (some .int) := C
  show Vw LM X (d + 1) 2 0 [some (.ref 0), none] [] mh
  unfold X6_back at h
  refine V_aload_n (pc := 0) C dX6_back_0 rfl rfl ?_
  refine V_getI (pc := 1) C CF6 fl_X6_50 LO6 (by decide) rfl dX6_back_1 (v := (mh.1 0 41)) rfl ?_
  refine V_iconst (pc := 4) C (v := (-1)) dX6_back_4 (by decide) ?_
  refine V_icmpne (pc := 5) (tgt := 11) C dX6_back_5 (by decide) (fun hc1 => ?_) (fun hc1 => ?_)
  · have h := it_f h hc1
    refine V_iconst (pc := 11) C (v := 0) dX6_back_11 (by decide) ?_
    refine V_istore_n (pc := 12) C (lv' := [some (.ref 0), some (.int 0)]) dX6_back_12 rfl (by decide) (Nat.le_of_ble_eq_true rfl) rfl rfl ?_
    refine wj1_ok (fun (mh2 : vMH) => Vw LM X (d + 1) 2 51 [some (.ref 0), none] [] mh2) h (fun mh2 h => ?_) (fun J3 hJ3 h => ?_)
    · refine V_aload_n (pc := 51) C dX6_back_51 rfl rfl ?_
      refine V_aload_n (pc := 52) C dX6_back_52 rfl rfl ?_
      refine V_getI (pc := 53) C CF6 fl_X6_50 LO6 (by decide) rfl dX6_back_53 (v := (mh2.1 0 41)) rfl ?_
      refine V_putI (pc := 56) C CF6 fl_X6_73 LO6 (by decide) rfl rfl rfl dX6_back_56 ?_
      refine V_aload_n (pc := 59) C dX6_back_59 rfl rfl ?_
      refine V_aload_n (pc := 60) C dX6_back_60 rfl rfl ?_
      refine V_getI (pc := 61) C CF6 fl_X6_324 LO6 (by decide) rfl dX6_back_61 (v := (mh2.1 0 42)) (rd_k (by decide)) ?_
      refine V_putI (pc := 64) C CF6 fl_X6_80 LO6 (by decide) rfl rfl rfl dX6_back_64 ?_
      refine V_aload_n (pc := 67) C dX6_back_67 rfl rfl ?_
      refine V_aload_n (pc := 68) C dX6_back_68 rfl rfl ?_
      refine V_getI (pc := 69) C CF6 fl_X6_327 LO6 (by decide) rfl dX6_back_69 (v := (mh2.1 0 43)) ((rd_k (by decide)).trans (rd_k (by decide))) ?_
      refine V_putI (pc := 72) C CF6 fl_X6_105 LO6 (by decide) rfl rfl rfl dX6_back_72 ?_
      refine V_aload_n (pc := 75) C dX6_back_75 rfl rfl ?_
      refine V_aload_n (pc := 76) C dX6_back_76 rfl rfl ?_
      refine V_getI (pc := 77) C CF6 fl_X6_330 LO6 (by decide) rfl dX6_back_77 (v := (mh2.1 0 44)) ((rd_k (by decide)).trans ((rd_k (by decide)).trans (rd_k (by decide)))) ?_
      refine V_putI (pc := 80) C CF6 fl_X6_35 LO6 (by decide) rfl rfl rfl dX6_back_80 ?_
      refine V_aload_n (pc := 83) C dX6_back_83 rfl rfl ?_
      refine V_aload_n (pc := 84) C dX6_back_84 rfl rfl ?_
      refine V_getI (pc := 85) C CF6 fl_X6_333 LO6 (by decide) rfl dX6_back_85 (v := (mh2.1 0 45)) ((rd_k (by decide)).trans ((rd_k (by decide)).trans ((rd_k (by decide)).trans (rd_k (by decide))))) ?_
      refine V_putI (pc := 88) C CF6 fl_X6_276 LO6 (by decide) rfl rfl rfl dX6_back_88 ?_
      refine V_aload_n (pc := 91) C dX6_back_91 rfl rfl ?_
      refine V_aload_n (pc := 92) C dX6_back_92 rfl rfl ?_
      refine V_getI (pc := 93) C CF6 fl_X6_336 LO6 (by decide) rfl dX6_back_93 (v := (mh2.1 0 46)) ((rd_k (by decide)).trans ((rd_k (by decide)).trans ((rd_k (by decide)).trans ((rd_k (by decide)).trans (rd_k (by decide)))))) ?_
      refine V_putI (pc := 96) C CF6 fl_X6_273 LO6 (by decide) rfl rfl rfl dX6_back_96 ?_
      refine V_aload_n (pc := 99) C dX6_back_99 rfl rfl ?_
      refine V_aload_n (pc := 100) C dX6_back_100 rfl rfl ?_
      refine V_getI (pc := 101) C CF6 fl_X6_339 LO6 (by decide) rfl dX6_back_101 (v := (mh2.1 0 47)) ((rd_k (by decide)).trans ((rd_k (by decide)).trans ((rd_k (by decide)).trans ((rd_k (by decide)).trans ((rd_k (by decide)).trans (rd_k (by decide))))))) ?_
      refine V_putI (pc := 104) C CF6 fl_X6_245 LO6 (by decide) rfl rfl rfl dX6_back_104 ?_
      refine V_aload_n (pc := 107) C dX6_back_107 rfl rfl ?_
      refine V_getI (pc := 108) C CF6 fl_X6_73 LO6 (by decide) rfl dX6_back_108 (v := (mh2.1 0 41)) ((rd_k (by decide)).trans ((rd_k (by decide)).trans ((rd_k (by decide)).trans ((rd_k (by decide)).trans ((rd_k (by decide)).trans ((rd_k (by decide)).trans rd_eq)))))) ?_
      refine V_aload_n (pc := 111) C dX6_back_111 rfl rfl ?_
      refine V_getI (pc := 112) C CF6 fl_X6_80 LO6 (by decide) rfl dX6_back_112 (v := (mh2.1 0 42)) ((rd_k (by decide)).trans ((rd_k (by decide)).trans ((rd_k (by decide)).trans ((rd_k (by decide)).trans ((rd_k (by decide)).trans rd_eq))))) ?_
      obtain ⟨q4, hq5, h⟩ := bnd_ok h
      refine V_callSi (pc := 115) (rest := [.int (mh2.1 0 41)]) C cs_X6_304 (c_X6_bitsOf (d + 0) (mh2.1 0 42) (v_up (v_up (v_up (v_up (v_up (v_up (v_up mh2 0 11 (mh2.1 0 41)) 0 12 (mh2.1 0 42)) 0 13 (mh2.1 0 43)) 0 14 (mh2.1 0 44)) 0 15 (mh2.1 0 45)) 0 16 (mh2.1 0 46)) 0 4 (mh2.1 0 47)) hq5) (by omega) (by decide) rfl rfl (Nat.le_of_ble_eq_true rfl) dX6_back_115 ?_
      refine V_isub (pc := 118) C dX6_back_118 ?_
      exact V_iret (pc := 119) C (gdow h hG) dX6_back_119
    · refine lq2_ok (fun (v1_6 : Int32) (mh7 : vMH) => Vw LM X (d + 1) 2 13 [some (.ref 0), some (.int v1_6)] [] mh7) h (fun rec8 hrec8 v1_6 mh7 h => ?_)
      unfold X6_back_L13 at h
      refine V_iload_n (pc := 13) C dX6_back_13 rfl rfl ?_
      refine V_aload_n (pc := 14) C dX6_back_14 rfl rfl ?_
      refine V_getI (pc := 15) C CF6 fl_X6_50 LO6 (by decide) rfl dX6_back_15 (v := (mh7.1 0 41)) rfl ?_
      refine V_icmpge (pc := 18) (tgt := 51) C dX6_back_18 (by decide) (fun hc9 => ?_) (fun hc9 => ?_)
      · have h := it_t h hc9
        refine V_mask [true, false] (lv' := [some (.ref 0), none]) rfl ?_
        exact hJ3 mh7 h
      · have h := it_f h hc9
        refine V_aload_n (pc := 21) C dX6_back_21 rfl rfl ?_
        refine V_getR (pc := 22) C (r' := 5) CF6 fl_X6_26 LO6 (by decide) rfl dX6_back_22 ?_
        refine V_iload_n (pc := 25) C dX6_back_25 rfl rfl ?_
        refine V_aload_n (pc := 26) C dX6_back_26 rfl rfl ?_
        refine V_getR (pc := 27) C (r' := 10) CF6 fl_X6_44 LO6 (by decide) rfl dX6_back_27 ?_
        refine V_iload_n (pc := 30) C dX6_back_30 rfl rfl ?_
        obtain ⟨hi10, h⟩ := chk_ok h
        refine V_iald (pc := 31) C LAM10 hi10 dX6_back_31 (v := (mh7.1 10 (jn v1_6))) rfl ?_
        refine V_iast (pc := 32) C LAM5 hi10 dX6_back_32 ?_
        refine V_aload_n (pc := 33) C dX6_back_33 rfl rfl ?_
        refine V_getR (pc := 34) C (r' := 6) CF6 fl_X6_29 LO6 (by decide) rfl dX6_back_34 ?_
        refine V_iload_n (pc := 37) C dX6_back_37 rfl rfl ?_
        refine V_aload_n (pc := 38) C dX6_back_38 rfl rfl ?_
        refine V_getR (pc := 39) C (r' := 11) CF6 fl_X6_47 LO6 (by decide) rfl dX6_back_39 ?_
        refine V_iload_n (pc := 42) C dX6_back_42 rfl rfl ?_
        refine V_iald (pc := 43) C LAM11 hi10 dX6_back_43 (v := (mh7.1 11 (jn v1_6))) (rd_ne (by decide)) ?_
        refine V_iast (pc := 44) C LAM6 hi10 dX6_back_44 ?_
        refine V_iinc (pc := 45) C (v := (v1_6 + 1)) (lv' := [some (.ref 0), some (.int (v1_6 + 1))]) dX6_back_45 rfl rfl (by decide) (Nat.le_of_ble_eq_true rfl) rfl rfl ?_
        refine V_goto (pc := 48) (tgt := 13) C dX6_back_48 (by decide) ?_
        exact hrec8 (v1_6 + 1) (v_up (v_up mh7 5 (jn v1_6) (mh7.1 10 (jn v1_6))) 6 (jn v1_6) (mh7.1 11 (jn v1_6))) h
  · have h := it_t h hc1
    refine V_bipush (pc := 8) C (v := (-3)) dX6_back_8 (by decide) ?_
    exact V_iret (pc := 10) C (gdow h hG) dX6_back_10
def X6_count (v1 : Int32) (mh : vMH) : Option (Int32) := (if (X6_in (Int32.toInt64 v1) 0 8) = 0 then (some (-2)) else (if 4 ≤ v1 then (if 6 ≤ v1 then (if v1 = 6 then (some (mh.1 0 3)) else (if v1 = 7 then (some (mh.1 0 6)) else (some (mh.1 0 4)))) else (if v1 = 4 then (some (mh.1 0 15)) else (some (mh.1 0 16)))) else (if v1 = 0 then (some (mh.1 0 11)) else (if v1 = 1 then ((X6_bitsOf (mh.1 0 12)).bind fun q10 => (some q10)) else (if v1 = 2 then (some (mh.1 0 13)) else (some (mh.1 0 14)))))))
set_option maxRecDepth 100000 in
set_option maxHeartbeats 8000000 in
theorem c_X6_count (d : Nat) (v1 : Int32) (mh : vMH) {res : Int32} (h : X6_count v1 mh = some res) : MC LM (d + 1) yX6_count cX6_count 2 (some .int) [.ref 0, .int v1] mh (some (.int res)) mh := by
  refine MC_of 0 (by decide) rfl (fun X C hG => ?_)
  replace C : Cx X (d + 1) 2 cX6_count RX6 (some .int) := C
  show Vw LM X (d + 1) 2 0 [some (.ref 0), some (.int v1)] [] mh
  unfold X6_count at h
  refine V_iload_n (pc := 0) C dX6_count_0 rfl rfl ?_
  refine V_i2l (pc := 1) C dX6_count_1 ?_
  refine V_lconst (pc := 2) C (v := 0) dX6_count_2 (by decide) ?_
  refine V_ldc2 (pc := 3) C dX6_count_3 kc_X6_342 ?_
  refine V_callSi (pc := 6) (rest := []) C cs_X6_76 (c_X6_in (d + 0) (Int32.toInt64 v1) 0 8 mh) (by omega) (by decide) rfl rfl (Nat.le_of_ble_eq_true rfl) dX6_count_6 ?_
  refine V_ifne (pc := 9) (tgt := 15) C dX6_count_9 (by decide) (fun hc1 => ?_) (fun hc1 => ?_)
  · have h := it_f h hc1
    refine V_iload_n (pc := 15) C dX6_count_15 rfl rfl ?_
    refine V_iconst (pc := 16) C (v := 4) dX6_count_16 (by decide) ?_
    refine V_icmpge (pc := 17) (tgt := 63) C dX6_count_17 (by decide) (fun hc2 => ?_) (fun hc2 => ?_)
    · have h := it_t h hc2
      refine V_iload_n (pc := 63) C dX6_count_63 rfl rfl ?_
      refine V_bipush (pc := 64) C (v := 6) dX6_count_64 (by decide) ?_
      refine V_icmpge (pc := 66) (tgt := 86) C dX6_count_66 (by decide) (fun hc3 => ?_) (fun hc3 => ?_)
      · have h := it_t h hc3
        refine V_iload_n (pc := 86) C dX6_count_86 rfl rfl ?_
        refine V_bipush (pc := 87) C (v := 6) dX6_count_87 (by decide) ?_
        refine V_icmpne (pc := 89) (tgt := 99) C dX6_count_89 (by decide) (fun hc4 => ?_) (fun hc4 => ?_)
        · have h := it_f h hc4
          refine V_iload_n (pc := 99) C dX6_count_99 rfl rfl ?_
          refine V_bipush (pc := 100) C (v := 7) dX6_count_100 (by decide) ?_
          refine V_icmpne (pc := 102) (tgt := 112) C dX6_count_102 (by decide) (fun hc5 => ?_) (fun hc5 => ?_)
          · have h := it_f h hc5
            refine V_aload_n (pc := 112) C dX6_count_112 rfl rfl ?_
            refine V_getI (pc := 113) C CF6 fl_X6_245 LO6 (by decide) rfl dX6_count_113 (v := (mh.1 0 4)) rfl ?_
            exact V_iret (pc := 116) C (gdo h hG) dX6_count_116
          · have h := it_t h hc5
            refine V_aload_n (pc := 105) C dX6_count_105 rfl rfl ?_
            refine V_getI (pc := 106) C CF6 fl_X6_128 LO6 (by decide) rfl dX6_count_106 (v := (mh.1 0 6)) rfl ?_
            refine V_goto (pc := 109) (tgt := 116) C dX6_count_109 (by decide) ?_
            exact V_iret (pc := 116) C (gdo h hG) dX6_count_116
        · have h := it_t h hc4
          refine V_aload_n (pc := 92) C dX6_count_92 rfl rfl ?_
          refine V_getI (pc := 93) C CF6 fl_X6_70 LO6 (by decide) rfl dX6_count_93 (v := (mh.1 0 3)) rfl ?_
          refine V_goto (pc := 96) (tgt := 116) C dX6_count_96 (by decide) ?_
          exact V_iret (pc := 116) C (gdo h hG) dX6_count_116
      · have h := it_f h hc3
        refine V_iload_n (pc := 69) C dX6_count_69 rfl rfl ?_
        refine V_iconst (pc := 70) C (v := 4) dX6_count_70 (by decide) ?_
        refine V_icmpne (pc := 71) (tgt := 81) C dX6_count_71 (by decide) (fun hc6 => ?_) (fun hc6 => ?_)
        · have h := it_f h hc6
          refine V_aload_n (pc := 81) C dX6_count_81 rfl rfl ?_
          refine V_getI (pc := 82) C CF6 fl_X6_273 LO6 (by decide) rfl dX6_count_82 (v := (mh.1 0 16)) rfl ?_
          exact V_iret (pc := 85) C (gdo h hG) dX6_count_85
        · have h := it_t h hc6
          refine V_aload_n (pc := 74) C dX6_count_74 rfl rfl ?_
          refine V_getI (pc := 75) C CF6 fl_X6_276 LO6 (by decide) rfl dX6_count_75 (v := (mh.1 0 15)) rfl ?_
          refine V_goto (pc := 78) (tgt := 85) C dX6_count_78 (by decide) ?_
          exact V_iret (pc := 85) C (gdo h hG) dX6_count_85
    · have h := it_f h hc2
      refine V_iload_n (pc := 20) C dX6_count_20 rfl rfl ?_
      refine V_ifne (pc := 21) (tgt := 31) C dX6_count_21 (by decide) (fun hc7 => ?_) (fun hc7 => ?_)
      · have h := it_f h hc7
        refine V_iload_n (pc := 31) C dX6_count_31 rfl rfl ?_
        refine V_iconst (pc := 32) C (v := 1) dX6_count_32 (by decide) ?_
        refine V_icmpne (pc := 33) (tgt := 46) C dX6_count_33 (by decide) (fun hc8 => ?_) (fun hc8 => ?_)
        · have h := it_f h hc8
          refine V_iload_n (pc := 46) C dX6_count_46 rfl rfl ?_
          refine V_iconst (pc := 47) C (v := 2) dX6_count_47 (by decide) ?_
          refine V_icmpne (pc := 48) (tgt := 58) C dX6_count_48 (by decide) (fun hc9 => ?_) (fun hc9 => ?_)
          · have h := it_f h hc9
            refine V_aload_n (pc := 58) C dX6_count_58 rfl rfl ?_
            refine V_getI (pc := 59) C CF6 fl_X6_35 LO6 (by decide) rfl dX6_count_59 (v := (mh.1 0 14)) rfl ?_
            exact V_iret (pc := 62) C (gdo h hG) dX6_count_62
          · have h := it_t h hc9
            refine V_aload_n (pc := 51) C dX6_count_51 rfl rfl ?_
            refine V_getI (pc := 52) C CF6 fl_X6_105 LO6 (by decide) rfl dX6_count_52 (v := (mh.1 0 13)) rfl ?_
            refine V_goto (pc := 55) (tgt := 62) C dX6_count_55 (by decide) ?_
            exact V_iret (pc := 62) C (gdo h hG) dX6_count_62
        · have h := it_t h hc8
          refine V_aload_n (pc := 36) C dX6_count_36 rfl rfl ?_
          refine V_getI (pc := 37) C CF6 fl_X6_80 LO6 (by decide) rfl dX6_count_37 (v := (mh.1 0 12)) rfl ?_
          obtain ⟨q10, hq11, h⟩ := bnd_ok h
          refine V_callSi (pc := 40) (rest := []) C cs_X6_304 (c_X6_bitsOf (d + 0) (mh.1 0 12) mh hq11) (by omega) (by decide) rfl rfl (Nat.le_of_ble_eq_true rfl) dX6_count_40 ?_
          refine V_goto (pc := 43) (tgt := 62) C dX6_count_43 (by decide) ?_
          exact V_iret (pc := 62) C (gdo h hG) dX6_count_62
      · have h := it_t h hc7
        refine V_aload_n (pc := 24) C dX6_count_24 rfl rfl ?_
        refine V_getI (pc := 25) C CF6 fl_X6_73 LO6 (by decide) rfl dX6_count_25 (v := (mh.1 0 11)) rfl ?_
        refine V_goto (pc := 28) (tgt := 62) C dX6_count_28 (by decide) ?_
        exact V_iret (pc := 62) C (gdo h hG) dX6_count_62
  · have h := it_t h hc1
    refine V_bipush (pc := 12) C (v := (-2)) dX6_count_12 (by decide) ?_
    exact V_iret (pc := 14) C (gdo h hG) dX6_count_14
def X6_sheet_L77 (v1 : Int32) (v2 : Int32) (v3 : Int32) (rec11 : Int32 → vMH → Option (Int32 × vMH)) (v4_9 : Int32) (mh10 : vMH) : Option (Int32 × vMH) := (if v3 ≤ v4_9 then (some (1, mh10)) else (if v2 < 0 then (some (1, mh10)) else (chk (inb ((40 * v1) + v4_9) 160) (rec11 (v4_9 + 1) (v_up mh10 15 (jn ((40 * v1) + v4_9)) 0)))))
def X6_sheet (v1 : Int32) (v2 : Int32) (v3 : Int32) (mh : vMH) : Option (Int32 × vMH) := (if (X6_isSheet v1) = 0 then (some ((-2), mh)) else (if (X6_in (Int32.toInt64 v2) (-1) 2) = 0 then (some ((-2), mh)) else (wj0 (wj0 (wj1 (fun (s5 : Int32) => (chk (inb v1 4) (chk (s5 = 0 ∨ s5 = 1) (lq2 4096 (X6_sheet_L77 v1 v2 v3) 0 (v_up (v_up (v_up mh 12 (jn v1) s5) 13 (jn v1) v2) 14 (jn v1) v3))))) fun J6 => (if v2 < 0 then (J6 0) else (J6 1))) fun J4 => (if v2 < 0 then J4 else (if 0 ≤ v3 then J4 else (some ((-14), mh))))) fun J3 => (if v2 < 0 then J3 else (if v3 ≤ 40 then J3 else (some ((-2), mh)))))))
set_option maxRecDepth 100000 in
set_option maxHeartbeats 8000000 in
theorem c_X6_sheet (d : Nat) (v1 : Int32) (v2 : Int32) (v3 : Int32) (mh : vMH) {res : Int32 × vMH} (h : X6_sheet v1 v2 v3 mh = some res) : MC LM (d + 2) yX6_sheet cX6_sheet 5 (some .int) [.ref 0, .int v1, .int v2, .int v3] mh (some (.int res.1)) res.2 := by
  refine MC_of 1 (by decide) rfl (fun X C hG => ?_)
  replace C : Cx X (d + 2) 5 cX6_sheet RX6 (some .int) := C
  show Vw LM X (d + 2) 5 0 [some (.ref 0), some (.int v1), some (.int v2), some (.int v3), none] [] mh
  unfold X6_sheet at h
  refine V_iload_n (pc := 0) C dX6_sheet_0 rfl rfl ?_
  refine V_callSi (pc := 1) (rest := []) C cs_X6_313 (c_X6_isSheet (d + 0) v1 mh) (by omega) (by decide) rfl rfl (Nat.le_of_ble_eq_true rfl) dX6_sheet_1 ?_
  refine V_ifeq (pc := 4) (tgt := 31) C dX6_sheet_4 (by decide) (fun hc1 => ?_) (fun hc1 => ?_)
  · have h := it_t h hc1
    refine V_bipush (pc := 31) C (v := (-2)) dX6_sheet_31 (by decide) ?_
    exact V_iret (pc := 33) C (gdow h hG) dX6_sheet_33
  · have h := it_f h hc1
    refine V_iload_n (pc := 7) C dX6_sheet_7 rfl rfl ?_
    refine V_i2l (pc := 8) C dX6_sheet_8 ?_
    refine V_ldc2 (pc := 9) C dX6_sheet_9 kc_X6_346 ?_
    refine V_ldc2 (pc := 12) C dX6_sheet_12 kc_X6_348 ?_
    refine V_callSi (pc := 15) (rest := []) C cs_X6_76 (c_X6_in (d + 1) (Int32.toInt64 v2) (-1) 2 mh) (by omega) (by decide) rfl rfl (Nat.le_of_ble_eq_true rfl) dX6_sheet_15 ?_
    refine V_ifeq (pc := 18) (tgt := 31) C dX6_sheet_18 (by decide) (fun hc2 => ?_) (fun hc2 => ?_)
    · have h := it_t h hc2
      refine V_bipush (pc := 31) C (v := (-2)) dX6_sheet_31 (by decide) ?_
      exact V_iret (pc := 33) C (gdow h hG) dX6_sheet_33
    · have h := it_f h hc2
      refine V_iload_n (pc := 21) C dX6_sheet_21 rfl rfl ?_
      refine wj0_ok (Vw LM X (d + 2) 5 34 [some (.ref 0), some (.int v1), some (.int v2), some (.int v3), none] [] mh) h (fun h => ?_) (fun J3 hJ3 h => ?_)
      · refine V_iload_n (pc := 34) C dX6_sheet_34 rfl rfl ?_
        refine wj0_ok (Vw LM X (d + 2) 5 45 [some (.ref 0), some (.int v1), some (.int v2), some (.int v3), none] [] mh) h (fun h => ?_) (fun J4 hJ4 h => ?_)
        · refine V_aload_n (pc := 45) C dX6_sheet_45 rfl rfl ?_
          refine V_getR (pc := 46) C (r' := 12) CF6 fl_X6_53 LO6 (by decide) rfl dX6_sheet_46 ?_
          refine V_iload_n (pc := 49) C dX6_sheet_49 rfl rfl ?_
          refine V_iload_n (pc := 50) C dX6_sheet_50 rfl rfl ?_
          refine wj1_ok (fun (s5 : Int32) => Vw LM X (d + 2) 5 59 [some (.ref 0), some (.int v1), some (.int v2), some (.int v3), none] [.int s5, .int v1, .ref 12] mh) h (fun s5 h => ?_) (fun J6 hJ6 h => ?_)
          · obtain ⟨hi7, h⟩ := chk_ok h
            obtain ⟨hi8, h⟩ := chk_ok h
            refine V_zast (pc := 59) C LAM12 hi7 hi8 dX6_sheet_59 ?_
            refine V_aload_n (pc := 60) C dX6_sheet_60 rfl rfl ?_
            refine V_getR (pc := 61) C (r' := 13) CF6 fl_X6_57 LO6 (by decide) rfl dX6_sheet_61 ?_
            refine V_iload_n (pc := 64) C dX6_sheet_64 rfl rfl ?_
            refine V_iload_n (pc := 65) C dX6_sheet_65 rfl rfl ?_
            refine V_iast (pc := 66) C LAM13 hi7 dX6_sheet_66 ?_
            refine V_aload_n (pc := 67) C dX6_sheet_67 rfl rfl ?_
            refine V_getR (pc := 68) C (r' := 14) CF6 fl_X6_60 LO6 (by decide) rfl dX6_sheet_68 ?_
            refine V_iload_n (pc := 71) C dX6_sheet_71 rfl rfl ?_
            refine V_iload_n (pc := 72) C dX6_sheet_72 rfl rfl ?_
            refine V_iast (pc := 73) C LAM14 hi7 dX6_sheet_73 ?_
            refine V_iconst (pc := 74) C (v := 0) dX6_sheet_74 (by decide) ?_
            refine V_istore (pc := 75) C (lv' := [some (.ref 0), some (.int v1), some (.int v2), some (.int v3), some (.int 0)]) dX6_sheet_75 (by decide) (Nat.le_of_ble_eq_true rfl) rfl rfl ?_
            refine lq2_ok (fun (v4_9 : Int32) (mh10 : vMH) => Vw LM X (d + 2) 5 77 [some (.ref 0), some (.int v1), some (.int v2), some (.int v3), some (.int v4_9)] [] mh10) h (fun rec11 hrec11 v4_9 mh10 h => ?_)
            unfold X6_sheet_L77 at h
            refine V_iload (pc := 77) C dX6_sheet_77 rfl ?_
            refine V_iload_n (pc := 79) C dX6_sheet_79 rfl rfl ?_
            refine V_icmpge (pc := 80) (tgt := 106) C dX6_sheet_80 (by decide) (fun hc12 => ?_) (fun hc12 => ?_)
            · have h := it_t h hc12
              refine V_iconst (pc := 106) C (v := 1) dX6_sheet_106 (by decide) ?_
              exact V_iret (pc := 107) C (gdow h hG) dX6_sheet_107
            · have h := it_f h hc12
              refine V_iload_n (pc := 83) C dX6_sheet_83 rfl rfl ?_
              refine V_iflt (pc := 84) (tgt := 106) C dX6_sheet_84 (by decide) (fun hc13 => ?_) (fun hc13 => ?_)
              · have h := it_t h hc13
                refine V_iconst (pc := 106) C (v := 1) dX6_sheet_106 (by decide) ?_
                exact V_iret (pc := 107) C (gdow h hG) dX6_sheet_107
              · have h := it_f h hc13
                refine V_aload_n (pc := 87) C dX6_sheet_87 rfl rfl ?_
                refine V_getR (pc := 88) C (r' := 15) CF6 fl_X6_63 LO6 (by decide) rfl dX6_sheet_88 ?_
                refine V_bipush (pc := 91) C (v := 40) dX6_sheet_91 (by decide) ?_
                refine V_iload_n (pc := 93) C dX6_sheet_93 rfl rfl ?_
                refine V_imul (pc := 94) C dX6_sheet_94 ?_
                refine V_iload (pc := 95) C dX6_sheet_95 rfl ?_
                refine V_iadd (pc := 97) C dX6_sheet_97 ?_
                refine V_iconst (pc := 98) C (v := 0) dX6_sheet_98 (by decide) ?_
                obtain ⟨hi14, h⟩ := chk_ok h
                refine V_iast (pc := 99) C LAM15 hi14 dX6_sheet_99 ?_
                refine V_iinc (pc := 100) C (v := (v4_9 + 1)) (lv' := [some (.ref 0), some (.int v1), some (.int v2), some (.int v3), some (.int (v4_9 + 1))]) dX6_sheet_100 rfl rfl (by decide) (Nat.le_of_ble_eq_true rfl) rfl rfl ?_
                refine V_goto (pc := 103) (tgt := 77) C dX6_sheet_103 (by decide) ?_
                exact hrec11 (v4_9 + 1) (v_up mh10 15 (jn ((40 * v1) + v4_9)) 0) h
          · refine V_iflt (pc := 51) (tgt := 58) C dX6_sheet_51 (by decide) (fun hc15 => ?_) (fun hc15 => ?_)
            · have h := it_t h hc15
              refine V_iconst (pc := 58) C (v := 0) dX6_sheet_58 (by decide) ?_
              exact hJ6 0 h
            · have h := it_f h hc15
              refine V_iconst (pc := 54) C (v := 1) dX6_sheet_54 (by decide) ?_
              refine V_goto (pc := 55) (tgt := 59) C dX6_sheet_55 (by decide) ?_
              exact hJ6 1 h
        · refine V_iflt (pc := 35) (tgt := 45) C dX6_sheet_35 (by decide) (fun hc16 => ?_) (fun hc16 => ?_)
          · have h := it_t h hc16
            exact hJ4 h
          · have h := it_f h hc16
            refine V_iload_n (pc := 38) C dX6_sheet_38 rfl rfl ?_
            refine V_ifge (pc := 39) (tgt := 45) C dX6_sheet_39 (by decide) (fun hc17 => ?_) (fun hc17 => ?_)
            · have h := it_t h hc17
              exact hJ4 h
            · have h := it_f h hc17
              refine V_bipush (pc := 42) C (v := (-14)) dX6_sheet_42 (by decide) ?_
              exact V_iret (pc := 44) C (gdow h hG) dX6_sheet_44
      · refine V_iflt (pc := 22) (tgt := 34) C dX6_sheet_22 (by decide) (fun hc18 => ?_) (fun hc18 => ?_)
        · have h := it_t h hc18
          exact hJ3 h
        · have h := it_f h hc18
          refine V_iload_n (pc := 25) C dX6_sheet_25 rfl rfl ?_
          refine V_bipush (pc := 26) C (v := 40) dX6_sheet_26 (by decide) ?_
          refine V_icmple (pc := 28) (tgt := 34) C dX6_sheet_28 (by decide) (fun hc19 => ?_) (fun hc19 => ?_)
          · have h := it_t h hc19
            exact hJ3 h
          · have h := it_f h hc19
            refine V_bipush (pc := 31) C (v := (-2)) dX6_sheet_31 (by decide) ?_
            exact V_iret (pc := 33) C (gdow h hG) dX6_sheet_33
def X6_cell (v1 : Int32) (v2 : Int32) (v3 : Int32) (mh : vMH) : Option (Int32 × vMH) := (if (X6_isSheet v1) = 0 then (some ((-2), mh)) else (chk (inb v1 4) (if (mh.1 12 (jn v1)) = 0 then (some ((-11), mh)) else (if (X6_in (Int32.toInt64 v2) 0 (Int32.toInt64 ((mh.1 14 (jn v1)) - 1))) = 0 then (some ((-12), mh)) else (wj1 (fun (s5 : Int32) => (chk (inb ((40 * v1) + v2) 160) (some (1, (v_up mh 15 (jn ((40 * v1) + v2)) s5))))) fun J6 => (if (mh.1 13 (jn v1)) = 0 then (J6 ((Int32.toInt8 v3).toInt32)) else (if (mh.1 13 (jn v1)) = 1 then (J6 ((Int32.toInt16 v3).toInt32)) else (J6 v3))))))))
set_option maxRecDepth 100000 in
set_option maxHeartbeats 8000000 in
theorem c_X6_cell (d : Nat) (v1 : Int32) (v2 : Int32) (v3 : Int32) (mh : vMH) {res : Int32 × vMH} (h : X6_cell v1 v2 v3 mh = some res) : MC LM (d + 2) yX6_cell cX6_cell 4 (some .int) [.ref 0, .int v1, .int v2, .int v3] mh (some (.int res.1)) res.2 := by
  refine MC_of 0 (by decide) rfl (fun X C hG => ?_)
  replace C : Cx X (d + 2) 4 cX6_cell RX6 (some .int) := C
  show Vw LM X (d + 2) 4 0 [some (.ref 0), some (.int v1), some (.int v2), some (.int v3)] [] mh
  unfold X6_cell at h
  refine V_iload_n (pc := 0) C dX6_cell_0 rfl rfl ?_
  refine V_callSi (pc := 1) (rest := []) C cs_X6_313 (c_X6_isSheet (d + 0) v1 mh) (by omega) (by decide) rfl rfl (Nat.le_of_ble_eq_true rfl) dX6_cell_1 ?_
  refine V_ifne (pc := 4) (tgt := 10) C dX6_cell_4 (by decide) (fun hc1 => ?_) (fun hc1 => ?_)
  · have h := it_f h hc1
    refine V_aload_n (pc := 10) C dX6_cell_10 rfl rfl ?_
    refine V_getR (pc := 11) C (r' := 12) CF6 fl_X6_53 LO6 (by decide) rfl dX6_cell_11 ?_
    refine V_iload_n (pc := 14) C dX6_cell_14 rfl rfl ?_
    obtain ⟨hi2, h⟩ := chk_ok h
    refine V_zald (pc := 15) C LAM12 hi2 dX6_cell_15 (v := (mh.1 12 (jn v1))) rfl ?_
    refine V_ifne (pc := 16) (tgt := 22) C dX6_cell_16 (by decide) (fun hc3 => ?_) (fun hc3 => ?_)
    · have h := it_f h hc3
      refine V_iload_n (pc := 22) C dX6_cell_22 rfl rfl ?_
      refine V_i2l (pc := 23) C dX6_cell_23 ?_
      refine V_lconst (pc := 24) C (v := 0) dX6_cell_24 (by decide) ?_
      refine V_aload_n (pc := 25) C dX6_cell_25 rfl rfl ?_
      refine V_getR (pc := 26) C (r' := 14) CF6 fl_X6_60 LO6 (by decide) rfl dX6_cell_26 ?_
      refine V_iload_n (pc := 29) C dX6_cell_29 rfl rfl ?_
      refine V_iald (pc := 30) C LAM14 hi2 dX6_cell_30 (v := (mh.1 14 (jn v1))) rfl ?_
      refine V_iconst (pc := 31) C (v := 1) dX6_cell_31 (by decide) ?_
      refine V_isub (pc := 32) C dX6_cell_32 ?_
      refine V_i2l (pc := 33) C dX6_cell_33 ?_
      refine V_callSi (pc := 34) (rest := []) C cs_X6_76 (c_X6_in (d + 1) (Int32.toInt64 v2) 0 (Int32.toInt64 ((mh.1 14 (jn v1)) - 1)) mh) (by omega) (by decide) rfl rfl (Nat.le_of_ble_eq_true rfl) dX6_cell_34 ?_
      refine V_ifne (pc := 37) (tgt := 43) C dX6_cell_37 (by decide) (fun hc4 => ?_) (fun hc4 => ?_)
      · have h := it_f h hc4
        refine V_aload_n (pc := 43) C dX6_cell_43 rfl rfl ?_
        refine V_getR (pc := 44) C (r' := 15) CF6 fl_X6_63 LO6 (by decide) rfl dX6_cell_44 ?_
        refine V_bipush (pc := 47) C (v := 40) dX6_cell_47 (by decide) ?_
        refine V_iload_n (pc := 49) C dX6_cell_49 rfl rfl ?_
        refine V_imul (pc := 50) C dX6_cell_50 ?_
        refine V_iload_n (pc := 51) C dX6_cell_51 rfl rfl ?_
        refine V_iadd (pc := 52) C dX6_cell_52 ?_
        refine V_aload_n (pc := 53) C dX6_cell_53 rfl rfl ?_
        refine V_getR (pc := 54) C (r' := 13) CF6 fl_X6_57 LO6 (by decide) rfl dX6_cell_54 ?_
        refine V_iload_n (pc := 57) C dX6_cell_57 rfl rfl ?_
        refine V_iald (pc := 58) C LAM13 hi2 dX6_cell_58 (v := (mh.1 13 (jn v1))) rfl ?_
        refine wj1_ok (fun (s5 : Int32) => Vw LM X (d + 2) 4 83 [some (.ref 0), some (.int v1), some (.int v2), some (.int v3)] [.int s5, .int ((40 * v1) + v2), .ref 15] mh) h (fun s5 h => ?_) (fun J6 hJ6 h => ?_)
        · obtain ⟨hi7, h⟩ := chk_ok h
          refine V_iast (pc := 83) C LAM15 hi7 dX6_cell_83 ?_
          refine V_iconst (pc := 84) C (v := 1) dX6_cell_84 (by decide) ?_
          exact V_iret (pc := 85) C (gdow h hG) dX6_cell_85
        · refine V_ifne (pc := 59) (tgt := 67) C dX6_cell_59 (by decide) (fun hc8 => ?_) (fun hc8 => ?_)
          · have h := it_f h hc8
            refine V_aload_n (pc := 67) C dX6_cell_67 rfl rfl ?_
            refine V_getR (pc := 68) C (r' := 13) CF6 fl_X6_57 LO6 (by decide) rfl dX6_cell_68 ?_
            refine V_iload_n (pc := 71) C dX6_cell_71 rfl rfl ?_
            refine V_iald (pc := 72) C LAM13 hi2 dX6_cell_72 (v := (mh.1 13 (jn v1))) rfl ?_
            refine V_iconst (pc := 73) C (v := 1) dX6_cell_73 (by decide) ?_
            refine V_icmpne (pc := 74) (tgt := 82) C dX6_cell_74 (by decide) (fun hc9 => ?_) (fun hc9 => ?_)
            · have h := it_f h hc9
              refine V_iload_n (pc := 82) C dX6_cell_82 rfl rfl ?_
              exact hJ6 v3 h
            · have h := it_t h hc9
              refine V_iload_n (pc := 77) C dX6_cell_77 rfl rfl ?_
              refine V_i2s (pc := 78) C dX6_cell_78 ?_
              refine V_goto (pc := 79) (tgt := 83) C dX6_cell_79 (by decide) ?_
              exact hJ6 ((Int32.toInt16 v3).toInt32) h
          · have h := it_t h hc8
            refine V_iload_n (pc := 62) C dX6_cell_62 rfl rfl ?_
            refine V_i2b (pc := 63) C dX6_cell_63 ?_
            refine V_goto (pc := 64) (tgt := 83) C dX6_cell_64 (by decide) ?_
            exact hJ6 ((Int32.toInt8 v3).toInt32) h
      · have h := it_t h hc4
        refine V_bipush (pc := 40) C (v := (-12)) dX6_cell_40 (by decide) ?_
        exact V_iret (pc := 42) C (gdow h hG) dX6_cell_42
    · have h := it_t h hc3
      refine V_bipush (pc := 19) C (v := (-11)) dX6_cell_19 (by decide) ?_
      exact V_iret (pc := 21) C (gdow h hG) dX6_cell_21
  · have h := it_t h hc1
    refine V_bipush (pc := 7) C (v := (-2)) dX6_cell_7 (by decide) ?_
    exact V_iret (pc := 9) C (gdow h hG) dX6_cell_9
def X6_copy_L121 (v1 : Int32) (v2 : Int32) (v3 : Int32) (v4 : Int32) (v5 : Int32) (s13 : Int32) (rec17 : Int32 → vMH → Option (Int32 × vMH)) (v7_15 : Int32) (mh16 : vMH) : Option (Int32 × vMH) := (if v5 ≤ v7_15 then (some (v5, mh16)) else (wj1 (fun (s19 : Int32) => (chk (inb (((40 * v1) + v2) + s19) 160) (chk (inb (((40 * v3) + v4) + s19) 160) (rec17 (v7_15 + 1) (v_up mh16 15 (jn (((40 * v3) + v4) + s19)) (mh16.1 15 (jn (((40 * v1) + v2) + s19)))))))) fun J20 => (if s13 = 0 then (J20 v7_15) else (J20 ((v5 - 1) - v7_15)))))
def X6_copy (v1 : Int32) (v2 : Int32) (v3 : Int32) (v4 : Int32) (v5 : Int32) (mh : vMH) : Option (Int32 × vMH) := (if (X6_isSheet v1) = 0 then (some ((-2), mh)) else (if (X6_isSheet v3) = 0 then (some ((-2), mh)) else (chk (inb v1 4) (if (mh.1 12 (jn v1)) = 0 then (some ((-11), mh)) else (chk (inb v3 4) (if (mh.1 12 (jn v3)) = 0 then (some ((-11), mh)) else (if (mh.1 13 (jn v1)) = (mh.1 13 (jn v3)) then (if v5 < 0 then (some ((-12), mh)) else (if v2 < 0 then (some ((-12), mh)) else (if v4 < 0 then (some ((-12), mh)) else (if ((mh.1 14 (jn v1)) - v5) < v2 then (some ((-12), mh)) else (if v4 ≤ ((mh.1 14 (jn v3)) - v5) then (wj1 (fun (s13 : Int32) => (lq2 4096 (X6_copy_L121 v1 v2 v3 v4 v5 s13) 0 mh)) fun J14 => (wj0 (J14 0) fun J24 => (if v1 = v3 then (if v4 ≤ v2 then J24 else (J14 1)) else J24))) else (some ((-12), mh))))))) else (some ((-13), mh)))))))))
set_option maxRecDepth 100000 in
set_option maxHeartbeats 8000000 in
theorem c_X6_copy (d : Nat) (v1 : Int32) (v2 : Int32) (v3 : Int32) (v4 : Int32) (v5 : Int32) (mh : vMH) {res : Int32 × vMH} (h : X6_copy v1 v2 v3 v4 v5 mh = some res) : MC LM (d + 2) yX6_copy cX6_copy 9 (some .int) [.ref 0, .int v1, .int v2, .int v3, .int v4, .int v5] mh (some (.int res.1)) res.2 := by
  refine MC_of 3 (by decide) rfl (fun X C hG => ?_)
  replace C : Cx X (d + 2) 9 cX6_copy RX6 (some .int) := C
  show Vw LM X (d + 2) 9 0 [some (.ref 0), some (.int v1), some (.int v2), some (.int v3), some (.int v4), some (.int v5), none, none, none] [] mh
  unfold X6_copy at h
  refine V_iload_n (pc := 0) C dX6_copy_0 rfl rfl ?_
  refine V_callSi (pc := 1) (rest := []) C cs_X6_313 (c_X6_isSheet (d + 0) v1 mh) (by omega) (by decide) rfl rfl (Nat.le_of_ble_eq_true rfl) dX6_copy_1 ?_
  refine V_ifeq (pc := 4) (tgt := 14) C dX6_copy_4 (by decide) (fun hc1 => ?_) (fun hc1 => ?_)
  · have h := it_t h hc1
    refine V_bipush (pc := 14) C (v := (-2)) dX6_copy_14 (by decide) ?_
    exact V_iret (pc := 16) C (gdow h hG) dX6_copy_16
  · have h := it_f h hc1
    refine V_iload_n (pc := 7) C dX6_copy_7 rfl rfl ?_
    refine V_callSi (pc := 8) (rest := []) C cs_X6_313 (c_X6_isSheet (d + 0) v3 mh) (by omega) (by decide) rfl rfl (Nat.le_of_ble_eq_true rfl) dX6_copy_8 ?_
    refine V_ifne (pc := 11) (tgt := 17) C dX6_copy_11 (by decide) (fun hc2 => ?_) (fun hc2 => ?_)
    · have h := it_f h hc2
      refine V_aload_n (pc := 17) C dX6_copy_17 rfl rfl ?_
      refine V_getR (pc := 18) C (r' := 12) CF6 fl_X6_53 LO6 (by decide) rfl dX6_copy_18 ?_
      refine V_iload_n (pc := 21) C dX6_copy_21 rfl rfl ?_
      obtain ⟨hi3, h⟩ := chk_ok h
      refine V_zald (pc := 22) C LAM12 hi3 dX6_copy_22 (v := (mh.1 12 (jn v1))) rfl ?_
      refine V_ifeq (pc := 23) (tgt := 35) C dX6_copy_23 (by decide) (fun hc4 => ?_) (fun hc4 => ?_)
      · have h := it_t h hc4
        refine V_bipush (pc := 35) C (v := (-11)) dX6_copy_35 (by decide) ?_
        exact V_iret (pc := 37) C (gdow h hG) dX6_copy_37
      · have h := it_f h hc4
        refine V_aload_n (pc := 26) C dX6_copy_26 rfl rfl ?_
        refine V_getR (pc := 27) C (r' := 12) CF6 fl_X6_53 LO6 (by decide) rfl dX6_copy_27 ?_
        refine V_iload_n (pc := 30) C dX6_copy_30 rfl rfl ?_
        obtain ⟨hi5, h⟩ := chk_ok h
        refine V_zald (pc := 31) C LAM12 hi5 dX6_copy_31 (v := (mh.1 12 (jn v3))) rfl ?_
        refine V_ifne (pc := 32) (tgt := 38) C dX6_copy_32 (by decide) (fun hc6 => ?_) (fun hc6 => ?_)
        · have h := it_f h hc6
          refine V_aload_n (pc := 38) C dX6_copy_38 rfl rfl ?_
          refine V_getR (pc := 39) C (r' := 13) CF6 fl_X6_57 LO6 (by decide) rfl dX6_copy_39 ?_
          refine V_iload_n (pc := 42) C dX6_copy_42 rfl rfl ?_
          refine V_iald (pc := 43) C LAM13 hi3 dX6_copy_43 (v := (mh.1 13 (jn v1))) rfl ?_
          refine V_aload_n (pc := 44) C dX6_copy_44 rfl rfl ?_
          refine V_getR (pc := 45) C (r' := 13) CF6 fl_X6_57 LO6 (by decide) rfl dX6_copy_45 ?_
          refine V_iload_n (pc := 48) C dX6_copy_48 rfl rfl ?_
          refine V_iald (pc := 49) C LAM13 hi5 dX6_copy_49 (v := (mh.1 13 (jn v3))) rfl ?_
          refine V_icmpeq (pc := 50) (tgt := 56) C dX6_copy_50 (by decide) (fun hc7 => ?_) (fun hc7 => ?_)
          · have h := it_t h hc7
            refine V_iload (pc := 56) C dX6_copy_56 rfl ?_
            refine V_iflt (pc := 58) (tgt := 97) C dX6_copy_58 (by decide) (fun hc8 => ?_) (fun hc8 => ?_)
            · have h := it_t h hc8
              refine V_bipush (pc := 97) C (v := (-12)) dX6_copy_97 (by decide) ?_
              exact V_iret (pc := 99) C (gdow h hG) dX6_copy_99
            · have h := it_f h hc8
              refine V_iload_n (pc := 61) C dX6_copy_61 rfl rfl ?_
              refine V_iflt (pc := 62) (tgt := 97) C dX6_copy_62 (by decide) (fun hc9 => ?_) (fun hc9 => ?_)
              · have h := it_t h hc9
                refine V_bipush (pc := 97) C (v := (-12)) dX6_copy_97 (by decide) ?_
                exact V_iret (pc := 99) C (gdow h hG) dX6_copy_99
              · have h := it_f h hc9
                refine V_iload (pc := 65) C dX6_copy_65 rfl ?_
                refine V_iflt (pc := 67) (tgt := 97) C dX6_copy_67 (by decide) (fun hc10 => ?_) (fun hc10 => ?_)
                · have h := it_t h hc10
                  refine V_bipush (pc := 97) C (v := (-12)) dX6_copy_97 (by decide) ?_
                  exact V_iret (pc := 99) C (gdow h hG) dX6_copy_99
                · have h := it_f h hc10
                  refine V_iload_n (pc := 70) C dX6_copy_70 rfl rfl ?_
                  refine V_aload_n (pc := 71) C dX6_copy_71 rfl rfl ?_
                  refine V_getR (pc := 72) C (r' := 14) CF6 fl_X6_60 LO6 (by decide) rfl dX6_copy_72 ?_
                  refine V_iload_n (pc := 75) C dX6_copy_75 rfl rfl ?_
                  refine V_iald (pc := 76) C LAM14 hi3 dX6_copy_76 (v := (mh.1 14 (jn v1))) rfl ?_
                  refine V_iload (pc := 77) C dX6_copy_77 rfl ?_
                  refine V_isub (pc := 79) C dX6_copy_79 ?_
                  refine V_icmpgt (pc := 80) (tgt := 97) C dX6_copy_80 (by decide) (fun hc11 => ?_) (fun hc11 => ?_)
                  · have h := it_t h hc11
                    refine V_bipush (pc := 97) C (v := (-12)) dX6_copy_97 (by decide) ?_
                    exact V_iret (pc := 99) C (gdow h hG) dX6_copy_99
                  · have h := it_f h hc11
                    refine V_iload (pc := 83) C dX6_copy_83 rfl ?_
                    refine V_aload_n (pc := 85) C dX6_copy_85 rfl rfl ?_
                    refine V_getR (pc := 86) C (r' := 14) CF6 fl_X6_60 LO6 (by decide) rfl dX6_copy_86 ?_
                    refine V_iload_n (pc := 89) C dX6_copy_89 rfl rfl ?_
                    refine V_iald (pc := 90) C LAM14 hi5 dX6_copy_90 (v := (mh.1 14 (jn v3))) rfl ?_
                    refine V_iload (pc := 91) C dX6_copy_91 rfl ?_
                    refine V_isub (pc := 93) C dX6_copy_93 ?_
                    refine V_icmple (pc := 94) (tgt := 100) C dX6_copy_94 (by decide) (fun hc12 => ?_) (fun hc12 => ?_)
                    · have h := it_t h hc12
                      refine V_iload_n (pc := 100) C dX6_copy_100 rfl rfl ?_
                      refine V_iload_n (pc := 101) C dX6_copy_101 rfl rfl ?_
                      refine wj1_ok (fun (s13 : Int32) => Vw LM X (d + 2) 9 116 [some (.ref 0), some (.int v1), some (.int v2), some (.int v3), some (.int v4), some (.int v5), none, none, none] [.int s13] mh) h (fun s13 h => ?_) (fun J14 hJ14 h => ?_)
                      · refine V_istore (pc := 116) C (lv' := [some (.ref 0), some (.int v1), some (.int v2), some (.int v3), some (.int v4), some (.int v5), some (.int s13), none, none]) dX6_copy_116 (by decide) (Nat.le_of_ble_eq_true rfl) rfl rfl ?_
                        refine V_iconst (pc := 118) C (v := 0) dX6_copy_118 (by decide) ?_
                        refine V_istore (pc := 119) C (lv' := [some (.ref 0), some (.int v1), some (.int v2), some (.int v3), some (.int v4), some (.int v5), some (.int s13), some (.int 0), none]) dX6_copy_119 (by decide) (Nat.le_of_ble_eq_true rfl) rfl rfl ?_
                        refine lq2_ok (fun (v7_15 : Int32) (mh16 : vMH) => Vw LM X (d + 2) 9 121 [some (.ref 0), some (.int v1), some (.int v2), some (.int v3), some (.int v4), some (.int v5), some (.int s13), some (.int v7_15), none] [] mh16) h (fun rec17 hrec17 v7_15 mh16 h => ?_)
                        unfold X6_copy_L121 at h
                        refine V_iload (pc := 121) C dX6_copy_121 rfl ?_
                        refine V_iload (pc := 123) C dX6_copy_123 rfl ?_
                        refine V_icmpge (pc := 125) (tgt := 182) C dX6_copy_125 (by decide) (fun hc18 => ?_) (fun hc18 => ?_)
                        · have h := it_t h hc18
                          refine V_iload (pc := 182) C dX6_copy_182 rfl ?_
                          exact V_iret (pc := 184) C (gdow h hG) dX6_copy_184
                        · have h := it_f h hc18
                          refine V_iload (pc := 128) C dX6_copy_128 rfl ?_
                          refine wj1_ok (fun (s19 : Int32) => Vw LM X (d + 2) 9 145 [some (.ref 0), some (.int v1), some (.int v2), some (.int v3), some (.int v4), some (.int v5), some (.int s13), some (.int v7_15), none] [.int s19] mh16) h (fun s19 h => ?_) (fun J20 hJ20 h => ?_)
                          · refine V_istore (pc := 145) C (lv' := [some (.ref 0), some (.int v1), some (.int v2), some (.int v3), some (.int v4), some (.int v5), some (.int s13), some (.int v7_15), some (.int s19)]) dX6_copy_145 (by decide) (Nat.le_of_ble_eq_true rfl) rfl rfl ?_
                            refine V_aload_n (pc := 147) C dX6_copy_147 rfl rfl ?_
                            refine V_getR (pc := 148) C (r' := 15) CF6 fl_X6_63 LO6 (by decide) rfl dX6_copy_148 ?_
                            refine V_bipush (pc := 151) C (v := 40) dX6_copy_151 (by decide) ?_
                            refine V_iload_n (pc := 153) C dX6_copy_153 rfl rfl ?_
                            refine V_imul (pc := 154) C dX6_copy_154 ?_
                            refine V_iload (pc := 155) C dX6_copy_155 rfl ?_
                            refine V_iadd (pc := 157) C dX6_copy_157 ?_
                            refine V_iload (pc := 158) C dX6_copy_158 rfl ?_
                            refine V_iadd (pc := 160) C dX6_copy_160 ?_
                            refine V_aload_n (pc := 161) C dX6_copy_161 rfl rfl ?_
                            refine V_getR (pc := 162) C (r' := 15) CF6 fl_X6_63 LO6 (by decide) rfl dX6_copy_162 ?_
                            refine V_bipush (pc := 165) C (v := 40) dX6_copy_165 (by decide) ?_
                            refine V_iload_n (pc := 167) C dX6_copy_167 rfl rfl ?_
                            refine V_imul (pc := 168) C dX6_copy_168 ?_
                            refine V_iload_n (pc := 169) C dX6_copy_169 rfl rfl ?_
                            refine V_iadd (pc := 170) C dX6_copy_170 ?_
                            refine V_iload (pc := 171) C dX6_copy_171 rfl ?_
                            refine V_iadd (pc := 173) C dX6_copy_173 ?_
                            obtain ⟨hi21, h⟩ := chk_ok h
                            refine V_iald (pc := 174) C LAM15 hi21 dX6_copy_174 (v := (mh16.1 15 (jn (((40 * v1) + v2) + s19)))) rfl ?_
                            obtain ⟨hi22, h⟩ := chk_ok h
                            refine V_iast (pc := 175) C LAM15 hi22 dX6_copy_175 ?_
                            refine V_iinc (pc := 176) C (v := (v7_15 + 1)) (lv' := [some (.ref 0), some (.int v1), some (.int v2), some (.int v3), some (.int v4), some (.int v5), some (.int s13), some (.int (v7_15 + 1)), some (.int s19)]) dX6_copy_176 rfl rfl (by decide) (Nat.le_of_ble_eq_true rfl) rfl rfl ?_
                            refine V_goto (pc := 179) (tgt := 121) C dX6_copy_179 (by decide) ?_
                            refine V_mask [true, true, true, true, true, true, true, true, false] (lv' := [some (.ref 0), some (.int v1), some (.int v2), some (.int v3), some (.int v4), some (.int v5), some (.int s13), some (.int (v7_15 + 1)), none]) rfl ?_
                            exact hrec17 (v7_15 + 1) (v_up mh16 15 (jn (((40 * v3) + v4) + s19)) (mh16.1 15 (jn (((40 * v1) + v2) + s19)))) h
                          · refine V_ifeq (pc := 130) (tgt := 143) C dX6_copy_130 (by decide) (fun hc23 => ?_) (fun hc23 => ?_)
                            · have h := it_t h hc23
                              refine V_iload (pc := 143) C dX6_copy_143 rfl ?_
                              exact hJ20 v7_15 h
                            · have h := it_f h hc23
                              refine V_iload (pc := 133) C dX6_copy_133 rfl ?_
                              refine V_iconst (pc := 135) C (v := 1) dX6_copy_135 (by decide) ?_
                              refine V_isub (pc := 136) C dX6_copy_136 ?_
                              refine V_iload (pc := 137) C dX6_copy_137 rfl ?_
                              refine V_isub (pc := 139) C dX6_copy_139 ?_
                              refine V_goto (pc := 140) (tgt := 145) C dX6_copy_140 (by decide) ?_
                              exact hJ20 ((v5 - 1) - v7_15) h
                      · refine wj0_ok (Vw LM X (d + 2) 9 115 [some (.ref 0), some (.int v1), some (.int v2), some (.int v3), some (.int v4), some (.int v5), none, none, none] [] mh) h (fun h => ?_) (fun J24 hJ24 h => ?_)
                        · refine V_iconst (pc := 115) C (v := 0) dX6_copy_115 (by decide) ?_
                          exact hJ14 0 h
                        · refine V_icmpne (pc := 102) (tgt := 115) C dX6_copy_102 (by decide) (fun hc25 => ?_) (fun hc25 => ?_)
                          · have h := it_f h hc25
                            exact hJ24 h
                          · have h := it_t h hc25
                            refine V_iload_n (pc := 105) C dX6_copy_105 rfl rfl ?_
                            refine V_iload (pc := 106) C dX6_copy_106 rfl ?_
                            refine V_icmpge (pc := 108) (tgt := 115) C dX6_copy_108 (by decide) (fun hc26 => ?_) (fun hc26 => ?_)
                            · have h := it_t h hc26
                              exact hJ24 h
                            · have h := it_f h hc26
                              refine V_iconst (pc := 111) C (v := 1) dX6_copy_111 (by decide) ?_
                              refine V_goto (pc := 112) (tgt := 116) C dX6_copy_112 (by decide) ?_
                              exact hJ14 1 h
                    · have h := it_f h hc12
                      refine V_bipush (pc := 97) C (v := (-12)) dX6_copy_97 (by decide) ?_
                      exact V_iret (pc := 99) C (gdow h hG) dX6_copy_99
          · have h := it_f h hc7
            refine V_bipush (pc := 53) C (v := (-13)) dX6_copy_53 (by decide) ?_
            exact V_iret (pc := 55) C (gdow h hG) dX6_copy_55
        · have h := it_t h hc6
          refine V_bipush (pc := 35) C (v := (-11)) dX6_copy_35 (by decide) ?_
          exact V_iret (pc := 37) C (gdow h hG) dX6_copy_37
    · have h := it_t h hc2
      refine V_bipush (pc := 14) C (v := (-2)) dX6_copy_14 (by decide) ?_
      exact V_iret (pc := 16) C (gdow h hG) dX6_copy_16
def X6_finds_L75 (v1 : Int32) (v3 : Int32) (v4 : Int32) (rec10 : Int32 → Int32 → vMH → Option (Int32 × vMH)) (v5_7 : Int32) (v6_8 : Int32) (mh9 : vMH) : Option (Int32 × vMH) := (if v4 ≤ v6_8 then (some (v5_7, mh9)) else (if v3 < 0 then (some ((-12), mh9)) else (if v3 ≤ (((mh9.1 14 (jn v1)) - (3 * v6_8)) - 3) then (chk (inb (((40 * v1) + v3) + (3 * v6_8)) 160) (chk (inb ((((40 * v1) + v3) + (3 * v6_8)) + 1) 160) (chk (inb ((((40 * v1) + v3) + (3 * v6_8)) + 2) 160) ((X6_find (mh9.1 15 (jn (((40 * v1) + v3) + (3 * v6_8)))) (mh9.1 15 (jn ((((40 * v1) + v3) + (3 * v6_8)) + 1))) (mh9.1 15 (jn ((((40 * v1) + v3) + (3 * v6_8)) + 2))) mh9).bind fun q17 => (if q17.1 < 0 then (rec10 (v5_7 + 0) (v6_8 + 1) q17.2) else (rec10 (v5_7 + 1) (v6_8 + 1) q17.2)))))) else (some ((-12), mh9)))))
def X6_finds (v1 : Int32) (v2 : Int32) (v3 : Int32) (v4 : Int32) (mh : vMH) : Option (Int32 × vMH) := (if (X6_isSheet v1) = 0 then (some ((-2), mh)) else (if (X6_in (Int32.toInt64 v2) 0 2) = 0 then (some ((-2), mh)) else (if (X6_in (Int32.toInt64 v4) 0 12) = 0 then (some ((-2), mh)) else (chk (inb v1 4) (wj0 (if (mh.1 12 (jn v1)) = 0 then (some ((-11), mh)) else (lq3 4096 (X6_finds_L75 v1 v3 v4) 0 0 mh)) fun J5 => (if (mh.1 12 (jn v1)) = 0 then J5 else (if (mh.1 13 (jn v1)) = v2 then J5 else (some ((-13), mh)))))))))
set_option maxRecDepth 100000 in
set_option maxHeartbeats 8000000 in
theorem c_X6_finds (d : Nat) (v1 : Int32) (v2 : Int32) (v3 : Int32) (v4 : Int32) (mh : vMH) {res : Int32 × vMH} (h : X6_finds v1 v2 v3 v4 mh = some res) : MC LM (d + 3) yX6_finds cX6_finds 8 (some .int) [.ref 0, .int v1, .int v2, .int v3, .int v4] mh (some (.int res.1)) res.2 := by
  refine MC_of 3 (by decide) rfl (fun X C hG => ?_)
  replace C : Cx X (d + 3) 8 cX6_finds RX6 (some .int) := C
  show Vw LM X (d + 3) 8 0 [some (.ref 0), some (.int v1), some (.int v2), some (.int v3), some (.int v4), none, none, none] [] mh
  unfold X6_finds at h
  refine V_iload_n (pc := 0) C dX6_finds_0 rfl rfl ?_
  refine V_callSi (pc := 1) (rest := []) C cs_X6_313 (c_X6_isSheet (d + 1) v1 mh) (by omega) (by decide) rfl rfl (Nat.le_of_ble_eq_true rfl) dX6_finds_1 ?_
  refine V_ifeq (pc := 4) (tgt := 32) C dX6_finds_4 (by decide) (fun hc1 => ?_) (fun hc1 => ?_)
  · have h := it_t h hc1
    refine V_bipush (pc := 32) C (v := (-2)) dX6_finds_32 (by decide) ?_
    exact V_iret (pc := 34) C (gdow h hG) dX6_finds_34
  · have h := it_f h hc1
    refine V_iload_n (pc := 7) C dX6_finds_7 rfl rfl ?_
    refine V_i2l (pc := 8) C dX6_finds_8 ?_
    refine V_lconst (pc := 9) C (v := 0) dX6_finds_9 (by decide) ?_
    refine V_ldc2 (pc := 10) C dX6_finds_10 kc_X6_348 ?_
    refine V_callSi (pc := 13) (rest := []) C cs_X6_76 (c_X6_in (d + 2) (Int32.toInt64 v2) 0 2 mh) (by omega) (by decide) rfl rfl (Nat.le_of_ble_eq_true rfl) dX6_finds_13 ?_
    refine V_ifeq (pc := 16) (tgt := 32) C dX6_finds_16 (by decide) (fun hc2 => ?_) (fun hc2 => ?_)
    · have h := it_t h hc2
      refine V_bipush (pc := 32) C (v := (-2)) dX6_finds_32 (by decide) ?_
      exact V_iret (pc := 34) C (gdow h hG) dX6_finds_34
    · have h := it_f h hc2
      refine V_iload (pc := 19) C dX6_finds_19 rfl ?_
      refine V_i2l (pc := 21) C dX6_finds_21 ?_
      refine V_lconst (pc := 22) C (v := 0) dX6_finds_22 (by decide) ?_
      refine V_ldc2 (pc := 23) C dX6_finds_23 kc_X6_317 ?_
      refine V_callSi (pc := 26) (rest := []) C cs_X6_76 (c_X6_in (d + 2) (Int32.toInt64 v4) 0 12 mh) (by omega) (by decide) rfl rfl (Nat.le_of_ble_eq_true rfl) dX6_finds_26 ?_
      refine V_ifne (pc := 29) (tgt := 35) C dX6_finds_29 (by decide) (fun hc3 => ?_) (fun hc3 => ?_)
      · have h := it_f h hc3
        refine V_aload_n (pc := 35) C dX6_finds_35 rfl rfl ?_
        refine V_getR (pc := 36) C (r' := 12) CF6 fl_X6_53 LO6 (by decide) rfl dX6_finds_36 ?_
        refine V_iload_n (pc := 39) C dX6_finds_39 rfl rfl ?_
        obtain ⟨hi4, h⟩ := chk_ok h
        refine V_zald (pc := 40) C LAM12 hi4 dX6_finds_40 (v := (mh.1 12 (jn v1))) rfl ?_
        refine wj0_ok (Vw LM X (d + 3) 8 57 [some (.ref 0), some (.int v1), some (.int v2), some (.int v3), some (.int v4), none, none, none] [] mh) h (fun h => ?_) (fun J5 hJ5 h => ?_)
        · refine V_aload_n (pc := 57) C dX6_finds_57 rfl rfl ?_
          refine V_getR (pc := 58) C (r' := 12) CF6 fl_X6_53 LO6 (by decide) rfl dX6_finds_58 ?_
          refine V_iload_n (pc := 61) C dX6_finds_61 rfl rfl ?_
          refine V_zald (pc := 62) C LAM12 hi4 dX6_finds_62 (v := (mh.1 12 (jn v1))) rfl ?_
          refine V_ifne (pc := 63) (tgt := 69) C dX6_finds_63 (by decide) (fun hc6 => ?_) (fun hc6 => ?_)
          · have h := it_f h hc6
            refine V_iconst (pc := 69) C (v := 0) dX6_finds_69 (by decide) ?_
            refine V_istore (pc := 70) C (lv' := [some (.ref 0), some (.int v1), some (.int v2), some (.int v3), some (.int v4), some (.int 0), none, none]) dX6_finds_70 (by decide) (Nat.le_of_ble_eq_true rfl) rfl rfl ?_
            refine V_iconst (pc := 72) C (v := 0) dX6_finds_72 (by decide) ?_
            refine V_istore (pc := 73) C (lv' := [some (.ref 0), some (.int v1), some (.int v2), some (.int v3), some (.int v4), some (.int 0), some (.int 0), none]) dX6_finds_73 (by decide) (Nat.le_of_ble_eq_true rfl) rfl rfl ?_
            refine lq3_ok (fun (v5_7 : Int32) (v6_8 : Int32) (mh9 : vMH) => Vw LM X (d + 3) 8 75 [some (.ref 0), some (.int v1), some (.int v2), some (.int v3), some (.int v4), some (.int v5_7), some (.int v6_8), none] [] mh9) h (fun rec10 hrec10 v5_7 v6_8 mh9 h => ?_)
            unfold X6_finds_L75 at h
            refine V_iload (pc := 75) C dX6_finds_75 rfl ?_
            refine V_iload (pc := 77) C dX6_finds_77 rfl ?_
            refine V_icmpge (pc := 79) (tgt := 167) C dX6_finds_79 (by decide) (fun hc11 => ?_) (fun hc11 => ?_)
            · have h := it_t h hc11
              refine V_iload (pc := 167) C dX6_finds_167 rfl ?_
              exact V_iret (pc := 169) C (gdow h hG) dX6_finds_169
            · have h := it_f h hc11
              refine V_iload_n (pc := 82) C dX6_finds_82 rfl rfl ?_
              refine V_iflt (pc := 83) (tgt := 103) C dX6_finds_83 (by decide) (fun hc12 => ?_) (fun hc12 => ?_)
              · have h := it_t h hc12
                refine V_bipush (pc := 103) C (v := (-12)) dX6_finds_103 (by decide) ?_
                exact V_iret (pc := 105) C (gdow h hG) dX6_finds_105
              · have h := it_f h hc12
                refine V_iload_n (pc := 86) C dX6_finds_86 rfl rfl ?_
                refine V_aload_n (pc := 87) C dX6_finds_87 rfl rfl ?_
                refine V_getR (pc := 88) C (r' := 14) CF6 fl_X6_60 LO6 (by decide) rfl dX6_finds_88 ?_
                refine V_iload_n (pc := 91) C dX6_finds_91 rfl rfl ?_
                refine V_iald (pc := 92) C LAM14 hi4 dX6_finds_92 (v := (mh9.1 14 (jn v1))) rfl ?_
                refine V_iconst (pc := 93) C (v := 3) dX6_finds_93 (by decide) ?_
                refine V_iload (pc := 94) C dX6_finds_94 rfl ?_
                refine V_imul (pc := 96) C dX6_finds_96 ?_
                refine V_isub (pc := 97) C dX6_finds_97 ?_
                refine V_iconst (pc := 98) C (v := 3) dX6_finds_98 (by decide) ?_
                refine V_isub (pc := 99) C dX6_finds_99 ?_
                refine V_icmple (pc := 100) (tgt := 106) C dX6_finds_100 (by decide) (fun hc13 => ?_) (fun hc13 => ?_)
                · have h := it_t h hc13
                  refine V_bipush (pc := 106) C (v := 40) dX6_finds_106 (by decide) ?_
                  refine V_iload_n (pc := 108) C dX6_finds_108 rfl rfl ?_
                  refine V_imul (pc := 109) C dX6_finds_109 ?_
                  refine V_iload_n (pc := 110) C dX6_finds_110 rfl rfl ?_
                  refine V_iadd (pc := 111) C dX6_finds_111 ?_
                  refine V_iconst (pc := 112) C (v := 3) dX6_finds_112 (by decide) ?_
                  refine V_iload (pc := 113) C dX6_finds_113 rfl ?_
                  refine V_imul (pc := 115) C dX6_finds_115 ?_
                  refine V_iadd (pc := 116) C dX6_finds_116 ?_
                  refine V_istore (pc := 117) C (lv' := [some (.ref 0), some (.int v1), some (.int v2), some (.int v3), some (.int v4), some (.int v5_7), some (.int v6_8), some (.int (((40 * v1) + v3) + (3 * v6_8)))]) dX6_finds_117 (by decide) (Nat.le_of_ble_eq_true rfl) rfl rfl ?_
                  refine V_iload (pc := 119) C dX6_finds_119 rfl ?_
                  refine V_aload_n (pc := 121) C dX6_finds_121 rfl rfl ?_
                  refine V_aload_n (pc := 122) C dX6_finds_122 rfl rfl ?_
                  refine V_getR (pc := 123) C (r' := 15) CF6 fl_X6_63 LO6 (by decide) rfl dX6_finds_123 ?_
                  refine V_iload (pc := 126) C dX6_finds_126 rfl ?_
                  obtain ⟨hi14, h⟩ := chk_ok h
                  refine V_iald (pc := 128) C LAM15 hi14 dX6_finds_128 (v := (mh9.1 15 (jn (((40 * v1) + v3) + (3 * v6_8))))) rfl ?_
                  refine V_aload_n (pc := 129) C dX6_finds_129 rfl rfl ?_
                  refine V_getR (pc := 130) C (r' := 15) CF6 fl_X6_63 LO6 (by decide) rfl dX6_finds_130 ?_
                  refine V_iload (pc := 133) C dX6_finds_133 rfl ?_
                  refine V_iconst (pc := 135) C (v := 1) dX6_finds_135 (by decide) ?_
                  refine V_iadd (pc := 136) C dX6_finds_136 ?_
                  obtain ⟨hi15, h⟩ := chk_ok h
                  refine V_iald (pc := 137) C LAM15 hi15 dX6_finds_137 (v := (mh9.1 15 (jn ((((40 * v1) + v3) + (3 * v6_8)) + 1)))) rfl ?_
                  refine V_aload_n (pc := 138) C dX6_finds_138 rfl rfl ?_
                  refine V_getR (pc := 139) C (r' := 15) CF6 fl_X6_63 LO6 (by decide) rfl dX6_finds_139 ?_
                  refine V_iload (pc := 142) C dX6_finds_142 rfl ?_
                  refine V_iconst (pc := 144) C (v := 2) dX6_finds_144 (by decide) ?_
                  refine V_iadd (pc := 145) C dX6_finds_145 ?_
                  obtain ⟨hi16, h⟩ := chk_ok h
                  refine V_iald (pc := 146) C LAM15 hi16 dX6_finds_146 (v := (mh9.1 15 (jn ((((40 * v1) + v3) + (3 * v6_8)) + 2)))) rfl ?_
                  obtain ⟨q17, hq18, h⟩ := bnd_ok h
                  refine V_callVi (pc := 147) (rest := [.int v5_7]) C cs_X6_350 (c_X6_find (d + 0) (mh9.1 15 (jn (((40 * v1) + v3) + (3 * v6_8)))) (mh9.1 15 (jn ((((40 * v1) + v3) + (3 * v6_8)) + 1))) (mh9.1 15 (jn ((((40 * v1) + v3) + (3 * v6_8)) + 2))) mh9 hq18) CF6.1 LO6 (by omega) (by decide) rfl rfl (Nat.le_of_ble_eq_true rfl) dX6_finds_147 ?_
                  refine V_iflt (pc := 150) (tgt := 157) C dX6_finds_150 (by decide) (fun hc19 => ?_) (fun hc19 => ?_)
                  · have h := it_t h hc19
                    refine V_iconst (pc := 157) C (v := 0) dX6_finds_157 (by decide) ?_
                    refine V_iadd (pc := 158) C dX6_finds_158 ?_
                    refine V_istore (pc := 159) C (lv' := [some (.ref 0), some (.int v1), some (.int v2), some (.int v3), some (.int v4), some (.int (v5_7 + 0)), some (.int v6_8), some (.int (((40 * v1) + v3) + (3 * v6_8)))]) dX6_finds_159 (by decide) (Nat.le_of_ble_eq_true rfl) rfl rfl ?_
                    refine V_iinc (pc := 161) C (v := (v6_8 + 1)) (lv' := [some (.ref 0), some (.int v1), some (.int v2), some (.int v3), some (.int v4), some (.int (v5_7 + 0)), some (.int (v6_8 + 1)), some (.int (((40 * v1) + v3) + (3 * v6_8)))]) dX6_finds_161 rfl rfl (by decide) (Nat.le_of_ble_eq_true rfl) rfl rfl ?_
                    refine V_goto (pc := 164) (tgt := 75) C dX6_finds_164 (by decide) ?_
                    refine V_mask [true, true, true, true, true, true, true, false] (lv' := [some (.ref 0), some (.int v1), some (.int v2), some (.int v3), some (.int v4), some (.int (v5_7 + 0)), some (.int (v6_8 + 1)), none]) rfl ?_
                    exact hrec10 (v5_7 + 0) (v6_8 + 1) q17.2 h
                  · have h := it_f h hc19
                    refine V_iconst (pc := 153) C (v := 1) dX6_finds_153 (by decide) ?_
                    refine V_goto (pc := 154) (tgt := 158) C dX6_finds_154 (by decide) ?_
                    refine V_iadd (pc := 158) C dX6_finds_158 ?_
                    refine V_istore (pc := 159) C (lv' := [some (.ref 0), some (.int v1), some (.int v2), some (.int v3), some (.int v4), some (.int (v5_7 + 1)), some (.int v6_8), some (.int (((40 * v1) + v3) + (3 * v6_8)))]) dX6_finds_159 (by decide) (Nat.le_of_ble_eq_true rfl) rfl rfl ?_
                    refine V_iinc (pc := 161) C (v := (v6_8 + 1)) (lv' := [some (.ref 0), some (.int v1), some (.int v2), some (.int v3), some (.int v4), some (.int (v5_7 + 1)), some (.int (v6_8 + 1)), some (.int (((40 * v1) + v3) + (3 * v6_8)))]) dX6_finds_161 rfl rfl (by decide) (Nat.le_of_ble_eq_true rfl) rfl rfl ?_
                    refine V_goto (pc := 164) (tgt := 75) C dX6_finds_164 (by decide) ?_
                    refine V_mask [true, true, true, true, true, true, true, false] (lv' := [some (.ref 0), some (.int v1), some (.int v2), some (.int v3), some (.int v4), some (.int (v5_7 + 1)), some (.int (v6_8 + 1)), none]) rfl ?_
                    exact hrec10 (v5_7 + 1) (v6_8 + 1) q17.2 h
                · have h := it_f h hc13
                  refine V_bipush (pc := 103) C (v := (-12)) dX6_finds_103 (by decide) ?_
                  exact V_iret (pc := 105) C (gdow h hG) dX6_finds_105
          · have h := it_t h hc6
            refine V_bipush (pc := 66) C (v := (-11)) dX6_finds_66 (by decide) ?_
            exact V_iret (pc := 68) C (gdow h hG) dX6_finds_68
        · refine V_ifeq (pc := 41) (tgt := 57) C dX6_finds_41 (by decide) (fun hc20 => ?_) (fun hc20 => ?_)
          · have h := it_t h hc20
            exact hJ5 h
          · have h := it_f h hc20
            refine V_aload_n (pc := 44) C dX6_finds_44 rfl rfl ?_
            refine V_getR (pc := 45) C (r' := 13) CF6 fl_X6_57 LO6 (by decide) rfl dX6_finds_45 ?_
            refine V_iload_n (pc := 48) C dX6_finds_48 rfl rfl ?_
            refine V_iald (pc := 49) C LAM13 hi4 dX6_finds_49 (v := (mh.1 13 (jn v1))) rfl ?_
            refine V_iload_n (pc := 50) C dX6_finds_50 rfl rfl ?_
            refine V_icmpeq (pc := 51) (tgt := 57) C dX6_finds_51 (by decide) (fun hc21 => ?_) (fun hc21 => ?_)
            · have h := it_t h hc21
              exact hJ5 h
            · have h := it_f h hc21
              refine V_bipush (pc := 54) C (v := (-13)) dX6_finds_54 (by decide) ?_
              exact V_iret (pc := 56) C (gdow h hG) dX6_finds_56
      · have h := it_t h hc3
        refine V_bipush (pc := 32) C (v := (-2)) dX6_finds_32 (by decide) ?_
        exact V_iret (pc := 34) C (gdow h hG) dX6_finds_34
