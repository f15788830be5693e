/-! the text constants: String.length, String.charAt, walked -/
section VSTR
variable {Λ : vLay} {X : vX} {d d' nL pc idx n i : Nat} {cc : ByteArray} {own : String} {ret : Option FieldType} {lv : List (Option Value)} {st rest As : List Value} {mh mh' : vMH} {y : MethodName} {ycc : ByteArray} {ynL : Nat} {yret : Option FieldType}
def sch (i k : Nat) : Int32 := (v_sbyt.getD i []).getD k 0
def sln (i : Nat) : Nat := v_slen.getD i 0
theorem V_cstr (C : Cx X d nL cc own ret) (L : Cond.fieldLink own idx "java/lang/String" "COMPACT_STRINGS" "Z" ∈ gw) (hd : decode cc pc = .ok (.getstatic idx, 3)) (kk : Vw Λ X d nL (pc + 3) lv (.int 1 :: st) mh) : Vw Λ X d nL pc lv st mh := by
  obtain ⟨p, l, e, s, m, args, below, meth, c, D, cA, ad, A, Qc⟩ := X
  obtain ⟨hx, hb, hml, hown, hts, hret, hlk, hK, hA, hE⟩ := C
  intro H locs ls hP hD hS hl
  exact va_gets hx hb hE.2.2.2.2.2.1 hS hown (hts _ L) (fun _ h9 => h9) hd (kk H locs ls hP hD hS hl)
theorem V_sio (C : Cx X d nL cc own ret) (L : Cond.fieldLink own idx "jdk/internal/util/Preconditions" "SIOOBE_FORMATTER" "Ljava/util/function/BiFunction;" ∈ gw) (hd : decode cc pc = .ok (.getstatic idx, 3)) (kk : ∀ v : Value, v = .null ∨ v = .ref 3000 → Vw Λ X d nL (pc + 3) lv (v :: st) mh) : Vw Λ X d nL pc lv st mh := by
  obtain ⟨p, l, e, s, m, args, below, meth, c, D, cA, ad, A, Qc⟩ := X
  obtain ⟨hx, hb, hml, hown, hts, hret, hlk, hK, hA, hE⟩ := C
  intro H locs ls hP hD hS hl
  rcases hE.2.2.2.2.2.2 with hz | hz
  · exact va_gets hx hb hz hS hown (hts _ L) (fun _ h9 => h9) hd (kk .null (Or.inl rfl) H locs ls hP hD hS hl)
  · exact va_gets hx hb hz hS hown (hts _ L) (fun _ h9 => h9) hd (kk (.ref 3000) (Or.inr rfl) H locs ls hP hD hS hl)
theorem V_strC (C : Cx X d nL cc own ret) (hi : i < 12) (L : Cond.fieldLink own idx "java/lang/String" "coder" "B" ∈ gw) (hd : decode cc pc = .ok (.getfield idx, 3)) (kk : Vw Λ X d nL (pc + 3) lv (.int 0 :: st) mh) : Vw Λ X d nL pc lv (.ref (1000 + i) :: st) mh := by
  obtain ⟨p, l, e, s, m, args, below, meth, c, D, cA, ad, A, Qc⟩ := X
  obtain ⟨hx, hb, hml, hown, hts, hret, hlk, hK, hA, hE⟩ := C
  intro H locs ls hP hD hS hl
  exact vk_getf hx hb (hE.2.2.2.2.1.1 i hi).2.1 hS hown (hts _ L) (fun _ h9 => h9) hd (kk H locs ls hP hD hS hl)
theorem V_strV (C : Cx X d nL cc own ret) (hi : i < 12) (L : Cond.fieldLink own idx "java/lang/String" "value" "[B" ∈ gw) (hd : decode cc pc = .ok (.getfield idx, 3)) (kk : Vw Λ X d nL (pc + 3) lv (.ref (2000 + i) :: st) mh) : Vw Λ X d nL pc lv (.ref (1000 + i) :: st) mh := by
  obtain ⟨p, l, e, s, m, args, below, meth, c, D, cA, ad, A, Qc⟩ := X
  obtain ⟨hx, hb, hml, hown, hts, hret, hlk, hK, hA, hE⟩ := C
  intro H locs ls hP hD hS hl
  exact vk_getf hx hb (hE.2.2.2.2.1.1 i hi).2.2.1 hS hown (hts _ L) (fun _ h9 => h9) hd (kk H locs ls hP hD hS hl)
theorem V_strLen (C : Cx X d nL cc own ret) (hi : i < 12) (hd : decode cc pc = .ok (.arraylength, 1)) (kk : Vw Λ X d nL (pc + 1) lv (.int (Int32.ofNat (sln i)) :: st) mh) : Vw Λ X d nL pc lv (.ref (2000 + i) :: st) mh := by
  obtain ⟨p, l, e, s, m, args, below, meth, c, D, cA, ad, A, Qc⟩ := X
  obtain ⟨hx, hb, hml, hown, hts, hret, hlk, hK, hA, hE⟩ := C
  intro H locs ls hP hD hS hl
  exact va_tlen hx hb (hE.2.2.2.2.1.1 i hi).2.2.2 hS (v := Int32.ofNat (sln i)) rfl hd (kk H locs ls hP hD hS hl)
theorem V_strAt (C : Cx X d nL cc own ret) (hi : i < 12) {k : Int32} (hk : inb k (sln i)) (hd : decode cc pc = .ok (.baload, 1)) (kk : Vw Λ X d nL (pc + 1) lv (.int (sch i (jn k)) :: st) mh) : Vw Λ X d nL pc lv (.int k :: .ref (2000 + i) :: st) mh := by
  obtain ⟨p, l, e, s, m, args, below, meth, c, D, cA, ad, A, Qc⟩ := X
  obtain ⟨hx, hb, hml, hown, hts, hret, hlk, hK, hA, hE⟩ := C
  intro H locs ls hP hD hS hl
  exact va_tb hx hb (hE.2.2.2.2.1.1 i hi).2.2.2 hS hk (v := .int (sch i (jn k))) rfl hd (kk H locs ls hP hD hS hl)
theorem V_i2c (C : Cx X d nL cc own ret) {x v : Int32} (hv : (x.toUInt32 % 65536).toInt32 = v) (hd : decode cc pc = .ok (.i2c, 1)) (kk : Vw Λ X d nL (pc + 1) lv (.int v :: st) mh) : Vw Λ X d nL pc lv (.int x :: st) mh := by
  obtain ⟨p, l, e, s, m, args, below, meth, c, D, cA, ad, A, Qc⟩ := X
  obtain ⟨hx, hb, hml, hown, hts, hret, hlk, hK, hA, hE⟩ := C
  intro H locs ls hP hD hS hl
  exact lv_i2c hx hb hd hv (kk H locs ls hP hD hS hl)
theorem V_tret {ty : FieldType} (C : Cx X d nL cc own (some ty)) {x : Int32} (hn : narrow ty (.int x) = .int x) (hG : Gd Λ X (some (.int x)) mh) (hd : decode cc pc = .ok (.ireturn, 1)) : Vw Λ X d nL pc lv [.int x] mh := by
  obtain ⟨p, l, e, s, m, args, below, meth, c, D, cA, ad, A, Qc⟩ := X
  obtain ⟨hx, hb, hml, hown, hts, hret, hlk, hK, hA, hE⟩ := C
  intro H locs ls hP hD hS hl
  exact W.zret hx hb hret hn (fun t ht hW => hG H locs hP hD hS t ht hW) hS.2.2 hd hlk
theorem V_callTi (C : Cx X d nL cc own ret) {x : Int32} (hi : i < 12) (S : CSV own idx "java/lang/String" y ycc ynL yret n) (hM : MC Λ d' y ycc ynL yret (.ref (1000 + i) :: As) mh (some (.int x)) mh') (hdd : d' + 1 ≤ d) (hnl : ynL ≤ 45) (hn : As.length = n) (hst : st = As.reverse ++ .ref (1000 + i) :: rest) (hcat : (rest.map fun v => v.category).sum ≤ 8) (hd : decode cc pc = .ok (.invokevirtual idx, 3))
    (k : Vw Λ X d nL (pc + 3) lv (.int x :: rest) mh') : Vw Λ X d nL pc lv st mh := by
  obtain ⟨p, l, e, s, m, args, below, meth, c, D, cA, ad, A, Qc⟩ := X
  obtain ⟨hx, hb, hml, hown, hts, hret, hlk, hK, hA, hE⟩ := C
  intro H locs ls hP hD hS hl
  exact v_callg (va_runV (As := As.map (v_tr ad)) (rest := rest.map (v_tr ad)) (b := ad (1000 + i)) ⟨hx, hb, hml, hown, hts⟩ (hM l D cA ad H.size) (cwV n hts S.1 rfl rfl rfl S.2 (v_frames (R := 0) hdd hnl)) ⟨v_blind, vk_recv (adK := fun i => ad (1000 + i)) (i := i) hE.2.2.2.2.1 hi hS, v_pre (p := p) hP hD hS hK hA hE⟩ rfl (by simp [hn]) hl.1 (by rw [hst]; simp [v_tr]) (lv_room (v_cat8 hcat)) hd ⟨Nat.le_refl _, Nat.le_refl _⟩) hS (v_A0 hD hS hA) (fun H1 locs1 hP1 hD1 hS1 => k H1 locs1 ls hP1 hD1 hS1 hl)
end VSTR
theorem fs_J0_38 : Cond.fieldLink RJ0 38 "java/lang/String" "COMPACT_STRINGS" "Z" ∈ gw := inG 391 (by decide +kernel)
theorem fs_J0_1053 : Cond.fieldLink RJ0 1053 "jdk/internal/util/Preconditions" "SIOOBE_FORMATTER" "Ljava/util/function/BiFunction;" ∈ gw := inG 407 (by decide +kernel)
theorem fs_J0_9 : Cond.fieldLink RJ0 9 "java/lang/String" "value" "[B" ∈ gw := inG 1205 (by decide +kernel)
theorem fs_J0_15 : Cond.fieldLink RJ0 15 "java/lang/String" "coder" "B" ∈ gw := inG 1206 (by decide +kernel)
theorem c_coder (d : Nat) {i : Nat} (hi : i < 12) (mh : vMH) : MC LC (d + 0) yJ0_coder_7d493 cJ0_coder_7d493 1 (some .byte) [.ref (1000 + i)] mh (some (.int 0)) mh := by
  refine MC_of 0 (by decide) rfl (fun X C hG => ?_)
  replace C : Cx X (d + 0) 1 cJ0_coder_7d493 RJ0 (some .byte) := C
  show Vw LC X (d + 0) 1 0 [some (.ref (1000 + i))] [] mh
  refine V_cstr (pc := 0) C fs_J0_38 dJ0_coder_7d493_0 ?_
  refine V_ifeq (pc := 3) (tgt := 13) C dJ0_coder_7d493_3 (by decide) (fun h => absurd h (by decide)) (fun _ => ?_)
  refine V_aload_n (pc := 6) C dJ0_coder_7d493_6 rfl rfl ?_
  refine V_strC (pc := 7) C hi fs_J0_15 dJ0_coder_7d493_7 ?_
  refine V_goto (pc := 10) (tgt := 14) C dJ0_coder_7d493_10 (by decide) ?_
  exact V_tret (pc := 14) C rfl hG dJ0_coder_7d493_14
theorem c_isLatin1 (d : Nat) {i : Nat} (hi : i < 12) (mh : vMH) : MC LC (d + 0) yJ0_isLatin1_aae02 cJ0_isLatin1_aae02 1 (some .boolean) [.ref (1000 + i)] mh (some (.int 1)) mh := by
  refine MC_of 0 (by decide) rfl (fun X C hG => ?_)
  replace C : Cx X (d + 0) 1 cJ0_isLatin1_aae02 RJ0 (some .boolean) := C
  show Vw LC X (d + 0) 1 0 [some (.ref (1000 + i))] [] mh
  refine V_cstr (pc := 0) C fs_J0_38 dJ0_isLatin1_aae02_0 ?_
  refine V_ifeq (pc := 3) (tgt := 17) C dJ0_isLatin1_aae02_3 (by decide) (fun h => absurd h (by decide)) (fun _ => ?_)
  refine V_aload_n (pc := 6) C dJ0_isLatin1_aae02_6 rfl rfl ?_
  refine V_strC (pc := 7) C hi fs_J0_15 dJ0_isLatin1_aae02_7 ?_
  refine V_ifne (pc := 10) (tgt := 17) C dJ0_isLatin1_aae02_10 (by decide) (fun h => absurd rfl h) (fun _ => ?_)
  refine V_iconst (pc := 13) C (v := 1) dJ0_isLatin1_aae02_13 (by decide) ?_
  refine V_goto (pc := 14) (tgt := 18) C dJ0_isLatin1_aae02_14 (by decide) ?_
  exact V_zret (pc := 18) C rfl hG dJ0_isLatin1_aae02_18
theorem sln_lt {i : Nat} (hi : i < 12) : 1 ≤ sln i ∧ sln i ≤ 5 := by
  have : ∀ i, i < 12 → 1 ≤ sln i ∧ sln i ≤ 5 := by decide
  exact this i hi
theorem c_length (d : Nat) {i : Nat} (hi : i < 12) (mh : vMH) : MC LC (d + 1) yJ0_length_8abf5 cJ0_length_8abf5 1 (some .int) [.ref (1000 + i)] mh (some (.int (Int32.ofNat (sln i)))) mh := by
  refine MC_of 0 (by decide) rfl (fun X C hG => ?_)
  replace C : Cx X (d + 1) 1 cJ0_length_8abf5 RJ0 (some .int) := C
  show Vw LC X (d + 1) 1 0 [some (.ref (1000 + i))] [] mh
  refine V_aload_n (pc := 0) C dJ0_length_8abf5_0 rfl rfl ?_
  refine V_strV (pc := 1) C hi fs_J0_9 dJ0_length_8abf5_1 ?_
  refine V_strLen (pc := 4) C hi dJ0_length_8abf5_4 ?_
  refine V_aload_n (pc := 5) C dJ0_length_8abf5_5 rfl rfl ?_
  refine V_callTi (pc := 6) (rest := [.int (Int32.ofNat (sln i))]) C hi cs_J0_335 (c_coder (d + 0) hi mh) (by omega) (by decide) rfl rfl (Nat.le_of_ble_eq_true rfl) dJ0_length_8abf5_6 ?_
  refine V_ishr (pc := 9) C dJ0_length_8abf5_9 ?_
  have e : js (Int32.ofNat (sln i)) 0 = Int32.ofNat (sln i) := by
    have : ∀ i, i < 12 → js (Int32.ofNat (sln i)) 0 = Int32.ofNat (sln i) := by decide
    exact this i hi
  rw [e]
  exact V_iret (pc := 10) C hG dJ0_length_8abf5_10
theorem c_chk3 (d : Nat) (k n : Int32) (v : Value) (hv : v = .null ∨ v = .ref 3000) (mh : vMH) (h1 : ¬ k < 0) (h2 : k < n) : MC LC (d + 0) yJ3_checkIndex_8e157 cJ3_checkIndex_8e157 3 (some .int) [.int k, .int n, v] mh (some (.int k)) mh := by
  have key : ∀ X : vX, Cx X (d + 0) 3 cJ3_checkIndex_8e157 RJ3 (some .int) → Gd LC X (some (.int k)) mh → Vw LC X (d + 0) 3 0 [some (.int k), some (.int n), some v] [] mh := by
    intro X C hG
    refine V_iload_n (pc := 0) C dJ3_checkIndex_8e157_0 rfl rfl ?_
    refine V_iflt (pc := 1) (tgt := 9) C dJ3_checkIndex_8e157_1 (by decide) (fun h => absurd h h1) (fun _ => ?_)
    refine V_iload_n (pc := 4) C dJ3_checkIndex_8e157_4 rfl rfl ?_
    refine V_iload_n (pc := 5) C dJ3_checkIndex_8e157_5 rfl rfl ?_
    refine V_icmplt (pc := 6) (tgt := 16) C dJ3_checkIndex_8e157_6 (by decide) (fun _ => ?_) (fun h => absurd h2 h)
    refine V_iload_n (pc := 16) C dJ3_checkIndex_8e157_16 rfl rfl ?_
    exact V_iret (pc := 17) C hG dJ3_checkIndex_8e157_17
  rcases hv with rfl | rfl
  · exact MC_of 0 (by decide) rfl (fun X C hG => key X C hG)
  · exact MC_of 0 (by decide) rfl (fun X C hG => key X C hG)
theorem c_chk0 (d : Nat) (k n : Int32) (mh : vMH) (h1 : ¬ k < 0) (h2 : k < n) : MC LC (d + 1) yJ0_checkIndex_df160 cJ0_checkIndex_df160 2 none [.int k, .int n] mh none mh := by
  refine MC_of 0 (by decide) rfl (fun X C hG => ?_)
  replace C : Cx X (d + 1) 2 cJ0_checkIndex_df160 RJ0 none := C
  show Vw LC X (d + 1) 2 0 [some (.int k), some (.int n)] [] mh
  refine V_iload_n (pc := 0) C dJ0_checkIndex_df160_0 rfl rfl ?_
  refine V_iload_n (pc := 1) C dJ0_checkIndex_df160_1 rfl rfl ?_
  refine V_sio (pc := 2) C fs_J0_1053 dJ0_checkIndex_df160_2 (fun v hv => ?_)
  have e : ([v, .int n, .int k] : List Value) = ([.int k, .int n, v] : List Value).reverse ++ [] := rfl
  refine V_callSi (pc := 5) (rest := []) C cs_J0_1059 (c_chk3 (d + 0) k n v hv mh h1 h2) (by omega) (by decide) rfl e (Nat.le_of_ble_eq_true rfl) dJ0_checkIndex_df160_5 ?_
  refine V_pop (pc := 8) C dJ0_checkIndex_df160_8 rfl ?_
  exact V_ret0 (pc := 9) C hG dJ0_checkIndex_df160_9
theorem sch_c {i k : Nat} (hi : i < 12) (hk : k < sln i) : ((sch i k &&& 255).toUInt32 % 65536).toInt32 = sch i k ∧ narrow .char (.int (sch i k)) = .int (sch i k) := by
  have h5 : k < 5 := Nat.lt_of_lt_of_le hk (sln_lt hi).2
  have : ∀ i, i < 12 → ∀ k, k < 5 → (((sch i k &&& 255).toUInt32 % 65536).toInt32 = sch i k ∧ narrow .char (.int (sch i k)) = .int (sch i k)) := by decide +kernel
  exact this i hi k h5
theorem c_charAt1 (d : Nat) {i : Nat} (hi : i < 12) (k : Int32) (mh : vMH) (hk : inb k (sln i)) : MC LC (d + 2) yJ1_charAt_3b067 cJ1_charAt_3b067 2 (some .char) [.ref (2000 + i), .int k] mh (some (.int (sch i (jn k)))) mh := by
  have hk1 : ¬ k < 0 := fun z => hk (Or.inl z)
  have hkn : jn k < sln i := Nat.not_le.mp (fun z => hk (Or.inr z))
  have hk2 : k < Int32.ofNat (sln i) := by
    obtain ⟨j, hj, e⟩ := vp_in_of (x := k) (n := sln i) hk (by have := (sln_lt hi).2; omega)
    rw [e]
    exact nI_lt hj (by have := (sln_lt hi).2; omega)
  refine MC_of 0 (by decide) rfl (fun X C hG => ?_)
  replace C : Cx X (d + 2) 2 cJ1_charAt_3b067 RJ1 (some .char) := C
  show Vw LC X (d + 2) 2 0 [some (.ref (2000 + i)), some (.int k)] [] mh
  refine V_iload_n (pc := 0) C dJ1_charAt_3b067_0 rfl rfl ?_
  refine V_aload_n (pc := 1) C dJ1_charAt_3b067_1 rfl rfl ?_
  refine V_strLen (pc := 2) C hi dJ1_charAt_3b067_2 ?_
  refine V_callSv (pc := 3) (rest := []) C cs_J1_9 (c_chk0 (d + 0) k _ mh hk1 hk2) (by omega) (by decide) rfl rfl (Nat.le_of_ble_eq_true rfl) dJ1_charAt_3b067_3 ?_
  refine V_aload_n (pc := 6) C dJ1_charAt_3b067_6 rfl rfl ?_
  refine V_iload_n (pc := 7) C dJ1_charAt_3b067_7 rfl rfl ?_
  refine V_strAt (pc := 8) C hi hk dJ1_charAt_3b067_8 ?_
  refine V_sipush (pc := 9) C (v := 255) dJ1_charAt_3b067_9 (by decide) ?_
  refine V_iand (pc := 12) C dJ1_charAt_3b067_12 ?_
  refine V_i2c (pc := 13) C (sch_c hi hkn).1 dJ1_charAt_3b067_13 ?_
  exact V_tret (pc := 14) C (sch_c hi hkn).2 hG dJ1_charAt_3b067_14
theorem c_charAt (d : Nat) {i : Nat} (hi : i < 12) (k : Int32) (mh : vMH) (hk : inb k (sln i)) : MC LC (d + 3) yJ0_charAt_5068e cJ0_charAt_5068e 2 (some .char) [.ref (1000 + i), .int k] mh (some (.int (sch i (jn k)))) mh := by
  have hkn : jn k < sln i := Nat.not_le.mp (fun z => hk (Or.inr z))
  refine MC_of 0 (by decide) rfl (fun X C hG => ?_)
  replace C : Cx X (d + 3) 2 cJ0_charAt_5068e RJ0 (some .char) := C
  show Vw LC X (d + 3) 2 0 [some (.ref (1000 + i)), some (.int k)] [] mh
  refine V_aload_n (pc := 0) C dJ0_charAt_5068e_0 rfl rfl ?_
  refine V_callTi (pc := 1) (rest := []) C hi cs_J0_492 (c_isLatin1 (d + 2) hi mh) (by omega) (by decide) rfl rfl (Nat.le_of_ble_eq_true rfl) dJ0_charAt_5068e_1 ?_
  refine V_ifeq (pc := 4) (tgt := 16) C dJ0_charAt_5068e_4 (by decide) (fun h => absurd h (by decide)) (fun _ => ?_)
  refine V_aload_n (pc := 7) C dJ0_charAt_5068e_7 rfl rfl ?_
  refine V_strV (pc := 8) C hi fs_J0_9 dJ0_charAt_5068e_8 ?_
  refine V_iload_n (pc := 11) C dJ0_charAt_5068e_11 rfl rfl ?_
  refine V_callSi (pc := 12) (rest := []) C cs_J0_495 (c_charAt1 (d + 0) hi k mh hk) (by omega) (by decide) rfl rfl (Nat.le_of_ble_eq_true rfl) dJ0_charAt_5068e_12 ?_
  exact V_tret (pc := 15) C (sch_c hi hkn).2 hG dJ0_charAt_5068e_15
