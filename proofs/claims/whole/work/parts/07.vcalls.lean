/-! LAYER V: contracts, and calls by contract -/
def v_Pre (Λ : vLay) (D : va_G) (cA : ClassId × ClassId) (ad : Nat → Nat) (sz : Nat) (mh : vMH) (U : State) : Prop :=
  U.heap.size = sz ∧ va_P D v_cl (v_ws Λ cA ad mh) U.heap ∧ va_K D v_cl (v_tys cA) U ∧ va_D (fun _ => True) (v_ws Λ cA ad mh) ∧ v_Ext ad (va_A (v_ws Λ cA ad mh) sz) U U.heap
def v_Post (Λ : vLay) (D : va_G) (cA : ClassId × ClassId) (ad : Nat → Nat) (A : Nat → Prop) (u : vMH) (t : State) : Prop :=
  va_P D v_cl (v_ws Λ cA ad u) t.heap ∧ va_K D v_cl (v_tys cA) t ∧ va_D A (v_ws Λ cA ad u)
def v_Qc (Λ : vLay) (D : va_G) (cA : ClassId × ClassId) (ad : Nat → Nat) (A : Nat → Prop) (rv : Option Value) (u : vMH) : Array Value → State → Outcome → State → Prop :=
  fun _ st oc t => oc = .returned rv ∧ v_Post Λ D cA ad A u t ∧ va_F A st t
/-- the contract of a method: of these arguments in this world it answers rv, and the world is mh' -/
def MC (Λ : vLay) (d : Nat) (y : MethodName) (ycc : ByteArray) (ynL : Nat) (yret : Option FieldType) (av : List Value) (mh : vMH) (rv : Option Value) (mh' : vMH) : Prop :=
  ∀ (l : Launch) (D : va_G) (cA : ClassId × ClassId) (ad : Nat → Nat) (sz : Nat), Met l y (.code y ycc ynL yret :: gw) (v_rm d) (va_Pc (av.map (v_tr ad)) (v_Pre Λ D cA ad sz mh)) (v_Qc Λ D cA ad (va_A (v_ws Λ cA ad mh) sz) rv mh') 0 0 (va_A (v_ws Λ cA ad mh) sz)
theorem v_same {Λ : vLay} {cA : ClassId × ClassId} {ad : Nat → Nat} {mh mh' : vMH} {sz q : Nat} (h : va_A (v_ws Λ cA ad mh) sz q) : va_A (v_ws Λ cA ad mh') sz q := by
  rcases h with ⟨k, e, h⟩ | h
  · have hk : k < Λ.1 := by
      have := (List.getElem?_eq_some_iff.mp h).1
      simpa [v_ws] using this
    rw [v_ws_at hk] at h
    cases h
    exact Or.inl ⟨k, _, v_ws_at hk⟩
  · exact Or.inr h
theorem v_blind {Λ : vLay} {D : va_G} {cA : ClassId × ClassId} {ad : Nat → Nat} {sz : Nat} {mh : vMH} {av : List Value} : FrameBlind (va_Pc av (v_Pre Λ D cA ad sz mh)) := by
  intro a U g mk q
  obtain ⟨q0, q1, qP, qK, qD, qE⟩ := q
  exact ⟨q0, q1, qP, va_K.moved (u := U) (U := U.calling g mk a) (Vm.Alike.refl U.vm) qK, qD, v_Ext.same (u := U) (U := U.calling g mk a) rfl qE⟩
theorem v_cat8 {ad : Nat → Nat} {st : List Value} (h : (st.map fun v => v.category).sum ≤ 8) : ((st.map (v_tr ad)).map fun v => v.category).sum ≤ 8 := by
  rw [List.map_map]
  rw [show ((fun v : Value => v.category) ∘ v_tr ad) = fun v => v.category from funext (fun v => v_tr_cat ad v)]
  exact h
/-- a walk of the method's body gives its contract -/
theorem MC_of {Λ : vLay} {d : Nat} {y : MethodName} {ycc : ByteArray} {ynL : Nat} {yret : Option FieldType} {av : List Value} {mh : vMH} {rv : Option Value} {mh' : vMH} (k : Nat) (hp : plainName y.cls = true) (hlen : ((v_en av).length + k = ynL))
    (walk : ∀ X : vX, Cx X d ynL ycc y.cls yret → Gd Λ X rv mh' → Vw Λ X d ynL 0 (v_en av ++ List.replicate k none) [] mh) : MC Λ d y ycc ynL yret av mh rv mh' := by
  intro l D cA ad sz
  refine Met.ofW (cc := ycc) (maxL := ynL) (ret := yret) hp rfl ?_
  intro p e s m args below meth c s₁ B hml hv
  obtain ⟨rfl, hsz, hP, hK, hD0, hE⟩ := hv
  have hts := atoms_spec (ws := .code y ycc ynL yret :: gw) B.pre
  subst hsz
  have hD := hD0.self (sz := s.heap.size)
  have key := walk (p, l, e, s, m, _, below, meth, c, D, cA, ad, va_A (v_ws Λ cA ad mh) s.heap.size, v_Qc Λ D cA ad (va_A (v_ws Λ cA ad mh) s.heap.size) rv mh')
    ⟨B.exec, B.bytes, hml, findClass_of_methodNamed B.named, fun w hw => hts w (List.mem_cons_of_mem _ hw), B.returns, B.notSynchronized, hK, fun q h => Or.inr h, hE⟩
    (fun H locs hP2 hD2 hS2 t ht hW => ⟨rfl, ⟨by rw [ht]; exact hP2, va_K.moved hW.alike hK, hD2⟩, hS2.F ht⟩)
  have hl := lv_entry (av.map (v_tr ad)) (n := ynL) (by
    have e : ∀ vs : List Value, (lg_sl (vs.map (v_tr ad))).length = (v_en vs).length := by
      intro vs
      induction vs with
      | nil => rfl
      | cons v t ih =>
        simp only [lg_sl, List.map_cons, List.flatMap_cons, List.length_append, v_en, v_tr_cat] at ih ⊢
        rw [ih]
        split <;> simp <;> omega
    rw [e]; omega)
  rw [lg_entry_eq]
  exact key s.heap [] _ hP hD va_S.rf (by rw [v_lv_en]; exact hl)
section VCALLS
variable {Λ : vLay} {X : vX} {d d' nL pc : Nat} {cc : ByteArray} {own : String} {ret : Option FieldType} {lv : List (Option Value)} {st rest As : List Value} {mh mh' : vMH}
variable {y : MethodName} {ycc : ByteArray} {ynL idx n ci r : Nat} {yret : Option FieldType} {Cn : String} {fc : List Nat} {rv : Option Value}
theorem v_callg {p : Program} {l : Launch} {e : Env} {R : Room} {s : State} {m : MethodId} {args : Array Value} {below : List Frame} {meth : Method} {c : Code} {H : Heap} {locs : List Loc} {Q : State → Prop} {ls : Array Slot} {st0 rest : List Value} {a : Array Value} {A0 A1 : Nat → Prop} {D : va_G} {cA : ClassId × ClassId} {ad : Nat → Nat}
    (hr : va_Run p l e R s m args below meth c H locs 0 0 0 0 (F0 m pc ls st0) rest (v_Qc Λ D cA ad A1 rv mh' a) A1) (hS : va_S A0 s.heap H locs) (hf : ∀ q, A1 q → A0 q)
    (kk : ∀ (H1 : Heap) (locs1 : List Loc), va_P D v_cl (v_ws Λ cA ad mh') H1 → va_D A0 (v_ws Λ cA ad mh') → va_S A0 s.heap H1 locs1 → W p l e R s m args below meth c H1 locs1 0 0 Q (F0 m (pc + 3) ls (rv.toList ++ rest))) : W p l e R s m args below meth c H locs 0 0 Q (F0 m pc ls st0) := by
  intro T hT X
  obtain ⟨v, st₀, t, T', L, h0, X', hL, e1, e2, ⟨hv, ⟨hp, hk, hd⟩, hz, hk2⟩, st⟩ := hr T hT X
  cases hv
  rw [h0] at hz hk2
  obtain ⟨t2, a1, b1⟩ := kk T'.heap (locs ++ L) (by rw [e1]; exact hp) (hd.weaken (fun _ q _ h => hf q.1 h))
    ⟨Nat.le_trans hS.1 (by rw [e1]; exact hz), fun q h1 h2 => by rw [e1, hk2 q (Nat.lt_of_lt_of_le h1 hS.1) (fun z => h2 (hf q z))]; exact hS.2.1 q h1 h2, fun q hq => by
      rcases List.mem_append.mp hq with h | h
      · exact hS.2.2 q h
      · exact hf _ (hL q h)⟩ T' rfl X'
  exact ⟨t2, st t2 a1, b1⟩
theorem v_pre {p : Program} {s : State} {H : Heap} {locs : List Loc} {A : Nat → Prop} {D : va_G} {cA : ClassId × ClassId} {ad : Nat → Nat} {av : List Value} (hP : va_P D v_cl (v_ws Λ cA ad mh) H) (hD : va_D A (v_ws Λ cA ad mh)) (hS : va_S A s.heap H locs) (hK : va_K D v_cl (v_tys cA) s) (hA : ∀ q, s.heap.size ≤ q → A q) (hE : v_Ext ad A s s.heap) :
    ∀ U : State, U.heap = H → s.WarmedH U.vm → va_Pc av (v_Pre Λ D cA ad H.size mh) av.toArray U := by
  intro U hU hW
  refine ⟨rfl, by rw [hU], by rw [hU]; exact hP, va_K.moved hW.alike hK, hD.weaken (fun _ _ _ _ => trivial), ?_⟩
  rw [hU]
  refine v_Ext.narrow (A := A) (v_Ext.warm hW (hE.kept hS.2.1)) (fun q h => ?_)
  rcases h with ⟨k, e, h⟩ | h
  · exact hD.2 k _ h
  · exact hA q (Nat.le_trans hS.1 h)
theorem v_A0 {s : State} {H : Heap} {locs : List Loc} {A : Nat → Prop} {cA : ClassId × ClassId} {ad : Nat → Nat} (hD : va_D A (v_ws Λ cA ad mh)) (hS : va_S A s.heap H locs) (hA : ∀ q, s.heap.size ≤ q → A q) : ∀ q, va_A (v_ws Λ cA ad mh) H.size q → A q := by
  intro q h
  rcases h with ⟨k, e, h⟩ | h
  · exact hD.2 k _ h
  · exact hA q (Nat.le_trans hS.1 h)
theorem v_frames {R : Nat} (hdd : d' + 1 ≤ d) (hnl : ynL ≤ 45) : (v_rm d').frames + 1 ≤ (v_rm d).frames ∧ 8 + (ynL + 11) + (v_rm d').locals ≤ (v_rm d).locals := by
  simp only [v_rm]; omega
theorem V_callV (C : Cx X d nL cc own ret) (S : CSV own idx Cn y ycc ynL yret n) (hM : MC Λ d' y ycc ynL yret (.ref r :: As) mh rv mh') {T : u_T} {N : Nat} (hci : v_cl[ci]? = some (Cn, T, N)) (O : LO Λ r ci fc) (hdd : d' + 1 ≤ d) (hnl : ynL ≤ 45) (hn : As.length = n) (hst : st = As.reverse ++ .ref r :: rest) (hcat : (rest.map fun v => v.category).sum ≤ 8) (hd : decode cc pc = .ok (.invokevirtual idx, 3))
    (k : Vw Λ X d nL (pc + 3) lv (rv.toList ++ rest) mh') (hrv : ∀ a, rv.toList.map (v_tr a) = rv.toList) : Vw Λ X d nL pc lv st mh := by
  obtain ⟨p, l, e, s, m, args, below, meth, c, D, cA, ad, A, Qc⟩ := X
  obtain ⟨hx, hb, hml, hown, hts, hret, hlk, hK, hA, hE⟩ := C
  intro H locs ls hP hD hS hl
  refine v_callg (va_runV (As := As.map (v_tr ad)) (rest := rest.map (v_tr ad)) (b := ad r) ⟨hx, hb, hml, hown, hts⟩ (hM l D cA ad H.size) (cwV n hts S.1 rfl rfl rfl S.2 (v_frames (R := 0) hdd hnl)) ⟨v_blind, va_recv hK hP hci (v_ws_obj O.1 O.2), v_pre (p := p) hP hD hS hK hA hE⟩ rfl (by simp [hn]) hl.1 (by rw [hst]; simp [v_tr]) (lv_room (v_cat8 hcat)) hd ⟨Nat.le_refl _, Nat.le_refl _⟩) hS (v_A0 hD hS hA) (fun H1 locs1 hP1 hD1 hS1 => ?_)
  have := k H1 locs1 ls hP1 hD1 hS1 hl
  rw [List.map_append, hrv] at this
  exact this
theorem V_callS (C : Cx X d nL cc own ret) (S : CSS own idx y ycc ynL yret n) (hM : MC Λ d' y ycc ynL yret As mh rv mh') (hdd : d' + 1 ≤ d) (hnl : ynL ≤ 45) (hn : As.length = n) (hst : st = As.reverse ++ rest) (hcat : (rest.map fun v => v.category).sum ≤ 8) (hd : decode cc pc = .ok (.invokestatic idx, 3))
    (k : Vw Λ X d nL (pc + 3) lv (rv.toList ++ rest) mh') (hrv : ∀ a, rv.toList.map (v_tr a) = rv.toList) : Vw Λ X d nL pc lv st mh := by
  obtain ⟨p, l, e, s, m, args, below, meth, c, D, cA, ad, A, Qc⟩ := X
  obtain ⟨hx, hb, hml, hown, hts, hret, hlk, hK, hA, hE⟩ := C
  intro H locs ls hP hD hS hl
  refine v_callg (va_runS (As := As.map (v_tr ad)) (rest := rest.map (v_tr ad)) ⟨hx, hb, hml, hown, hts⟩ (hM l D cA ad H.size) (va_cwS n hts S.1 rfl rfl rfl S.2 (v_frames (R := 0) hdd hnl)) ⟨v_blind, v_pre (p := p) hP hD hS hK hA hE⟩ rfl (by simp [hn]) hl.1 (by rw [hst]; simp) (lv_room (v_cat8 hcat)) hd ⟨Nat.le_refl _, Nat.le_refl _⟩) hS (v_A0 hD hS hA) (fun H1 locs1 hP1 hD1 hS1 => ?_)
  have := k H1 locs1 ls hP1 hD1 hS1 hl
  rw [List.map_append, hrv] at this
  exact this
theorem V_callN (C : Cx X d nL cc own ret) (S : CSN own idx y ycc ynL yret n) (hM : MC Λ d' y ycc ynL yret As mh rv mh') (hdd : d' + 1 ≤ d) (hnl : ynL ≤ 45) (hn : As.length = n) (hst : st = As.reverse ++ rest) (hcat : (rest.map fun v => v.category).sum ≤ 8) (hd : decode cc pc = .ok (.invokestatic idx, 3))
    (k : Vw Λ X d nL (pc + 3) lv (rv.toList ++ rest) mh') (hrv : ∀ a, rv.toList.map (v_tr a) = rv.toList) : Vw Λ X d nL pc lv st mh := by
  obtain ⟨p, l, e, s, m, args, below, meth, c, D, cA, ad, A, Qc⟩ := X
  obtain ⟨hx, hb, hml, hown, hts, hret, hlk, hK, hA, hE⟩ := C
  intro H locs ls hP hD hS hl
  obtain ⟨⟨w1, w2, w3, w4⟩, w5⟩ := S
  refine v_callg (va_runSN (As := As.map (v_tr ad)) (rest := rest.map (v_tr ad)) ⟨hx, hb, hml, hown, hts⟩ (hM l D cA ad H.size) ⟨va_cnB n hts (gw_cons w4 gw_self) rfl rfl rfl (hE.1 _ w1) (hts _ w3) w5 (v_frames (R := 0) hdd hnl), hts _ w2, trivial⟩ ⟨v_blind, v_pre (p := p) hP hD hS hK hA hE⟩ rfl (by simp [hn]) hl.1 (by rw [hst]; simp) (lv_room (v_cat8 hcat)) hd ⟨Nat.le_refl _, Nat.le_refl _⟩) hS (v_A0 hD hS hA) (fun H1 locs1 hP1 hD1 hS1 => ?_)
  have := k H1 locs1 ls hP1 hD1 hS1 hl
  rw [List.map_append, hrv] at this
  exact this
theorem V_callVi (C : Cx X d nL cc own ret) {x : Int32} (S : CSV own idx Cn y ycc ynL yret n) (hM : MC Λ d' y ycc ynL yret (.ref r :: As) mh (some (.int x)) mh') {T : u_T} {N : Nat} (hci : v_cl[ci]? = some (Cn, T, N)) (O : LO Λ r ci fc) (hdd : d' + 1 ≤ d) (hnl : ynL ≤ 45) (hn : As.length = n) (hst : st = As.reverse ++ .ref r :: rest) (hcat : (rest.map fun v => v.category).sum ≤ 8) (hd : decode cc pc = .ok (.invokevirtual idx, 3)) (k : Vw Λ X d nL (pc + 3) lv (.int x :: rest) mh') : Vw Λ X d nL pc lv st mh := V_callV C S hM hci O hdd hnl hn hst hcat hd k (fun _ => rfl)
theorem V_callVl (C : Cx X d nL cc own ret) {x : Int64} (S : CSV own idx Cn y ycc ynL yret n) (hM : MC Λ d' y ycc ynL yret (.ref r :: As) mh (some (.long x)) mh') {T : u_T} {N : Nat} (hci : v_cl[ci]? = some (Cn, T, N)) (O : LO Λ r ci fc) (hdd : d' + 1 ≤ d) (hnl : ynL ≤ 45) (hn : As.length = n) (hst : st = As.reverse ++ .ref r :: rest) (hcat : (rest.map fun v => v.category).sum ≤ 8) (hd : decode cc pc = .ok (.invokevirtual idx, 3)) (k : Vw Λ X d nL (pc + 3) lv (.long x :: rest) mh') : Vw Λ X d nL pc lv st mh := V_callV C S hM hci O hdd hnl hn hst hcat hd k (fun _ => rfl)
theorem V_callVv (C : Cx X d nL cc own ret) (S : CSV own idx Cn y ycc ynL yret n) (hM : MC Λ d' y ycc ynL yret (.ref r :: As) mh none mh') {T : u_T} {N : Nat} (hci : v_cl[ci]? = some (Cn, T, N)) (O : LO Λ r ci fc) (hdd : d' + 1 ≤ d) (hnl : ynL ≤ 45) (hn : As.length = n) (hst : st = As.reverse ++ .ref r :: rest) (hcat : (rest.map fun v => v.category).sum ≤ 8) (hd : decode cc pc = .ok (.invokevirtual idx, 3)) (k : Vw Λ X d nL (pc + 3) lv (rest) mh') : Vw Λ X d nL pc lv st mh := V_callV C S hM hci O hdd hnl hn hst hcat hd k (fun _ => rfl)
theorem V_callSi (C : Cx X d nL cc own ret) {x : Int32} (S : CSS own idx y ycc ynL yret n) (hM : MC Λ d' y ycc ynL yret As mh (some (.int x)) mh') (hdd : d' + 1 ≤ d) (hnl : ynL ≤ 45) (hn : As.length = n) (hst : st = As.reverse ++ rest) (hcat : (rest.map fun v => v.category).sum ≤ 8) (hd : decode cc pc = .ok (.invokestatic idx, 3)) (k : Vw Λ X d nL (pc + 3) lv (.int x :: rest) mh') : Vw Λ X d nL pc lv st mh := V_callS C S hM hdd hnl hn hst hcat hd k (fun _ => rfl)
theorem V_callSl (C : Cx X d nL cc own ret) {x : Int64} (S : CSS own idx y ycc ynL yret n) (hM : MC Λ d' y ycc ynL yret As mh (some (.long x)) mh') (hdd : d' + 1 ≤ d) (hnl : ynL ≤ 45) (hn : As.length = n) (hst : st = As.reverse ++ rest) (hcat : (rest.map fun v => v.category).sum ≤ 8) (hd : decode cc pc = .ok (.invokestatic idx, 3)) (k : Vw Λ X d nL (pc + 3) lv (.long x :: rest) mh') : Vw Λ X d nL pc lv st mh := V_callS C S hM hdd hnl hn hst hcat hd k (fun _ => rfl)
theorem V_callSv (C : Cx X d nL cc own ret) (S : CSS own idx y ycc ynL yret n) (hM : MC Λ d' y ycc ynL yret As mh none mh') (hdd : d' + 1 ≤ d) (hnl : ynL ≤ 45) (hn : As.length = n) (hst : st = As.reverse ++ rest) (hcat : (rest.map fun v => v.category).sum ≤ 8) (hd : decode cc pc = .ok (.invokestatic idx, 3)) (k : Vw Λ X d nL (pc + 3) lv (rest) mh') : Vw Λ X d nL pc lv st mh := V_callS C S hM hdd hnl hn hst hcat hd k (fun _ => rfl)
theorem V_callNi (C : Cx X d nL cc own ret) {x : Int32} (S : CSN own idx y ycc ynL yret n) (hM : MC Λ d' y ycc ynL yret As mh (some (.int x)) mh') (hdd : d' + 1 ≤ d) (hnl : ynL ≤ 45) (hn : As.length = n) (hst : st = As.reverse ++ rest) (hcat : (rest.map fun v => v.category).sum ≤ 8) (hd : decode cc pc = .ok (.invokestatic idx, 3)) (k : Vw Λ X d nL (pc + 3) lv (.int x :: rest) mh') : Vw Λ X d nL pc lv st mh := V_callN C S hM hdd hnl hn hst hcat hd k (fun _ => rfl)
theorem V_callNl (C : Cx X d nL cc own ret) {x : Int64} (S : CSN own idx y ycc ynL yret n) (hM : MC Λ d' y ycc ynL yret As mh (some (.long x)) mh') (hdd : d' + 1 ≤ d) (hnl : ynL ≤ 45) (hn : As.length = n) (hst : st = As.reverse ++ rest) (hcat : (rest.map fun v => v.category).sum ≤ 8) (hd : decode cc pc = .ok (.invokestatic idx, 3)) (k : Vw Λ X d nL (pc + 3) lv (.long x :: rest) mh') : Vw Λ X d nL pc lv st mh := V_callN C S hM hdd hnl hn hst hcat hd k (fun _ => rfl)
theorem V_callNv (C : Cx X d nL cc own ret) (S : CSN own idx y ycc ynL yret n) (hM : MC Λ d' y ycc ynL yret As mh none mh') (hdd : d' + 1 ≤ d) (hnl : ynL ≤ 45) (hn : As.length = n) (hst : st = As.reverse ++ rest) (hcat : (rest.map fun v => v.category).sum ≤ 8) (hd : decode cc pc = .ok (.invokestatic idx, 3)) (k : Vw Λ X d nL (pc + 3) lv (rest) mh') : Vw Λ X d nL pc lv st mh := V_callN C S hM hdd hnl hn hst hcat hd k (fun _ => rfl)
end VCALLS
/-! the words of the printed functions: chk, joins, loops -/
def chk {ρ : Type} (c : Prop) [Decidable c] (k : Option ρ) : Option ρ := if c then k else none
theorem chk_ok {ρ : Type} {c : Prop} [Decidable c] {k : Option ρ} {r : ρ} (h : chk c k = some r) : c ∧ k = some r := by
  unfold chk at h
  split at h
  · exact ⟨by assumption, h⟩
  · cases h
theorem bnd_ok {α ρ : Type} {x : Option α} {f : α → Option ρ} {r : ρ} (h : x.bind f = some r) : ∃ a, x = some a ∧ f a = some r := by
  cases x with
  | none => cases h
  | some a => exact ⟨a, rfl, h⟩
theorem it_t {ρ : Type} {c : Prop} {i : Decidable c} {a b r : ρ} (h : (if c then a else b) = r) (hc : c) : a = r := by rw [if_pos hc] at h; exact h
theorem it_f {ρ : Type} {c : Prop} {i : Decidable c} {a b r : ρ} (h : (if c then a else b) = r) (hc : ¬ c) : b = r := by rw [if_neg hc] at h; exact h
theorem gdo {Λ : vLay} {X : vX} {mh : vMH} {x : Int32} {res : Int32} (h : some x = some res) (hG : Gd Λ X (some (.int res)) mh) : Gd Λ X (some (.int x)) mh := by cases h; exact hG
theorem gdt {Λ : vLay} {X : vX} {mh : vMH} {x : Int32} {res : Int32} (h : x = res) (hG : Gd Λ X (some (.int res)) mh) : Gd Λ X (some (.int x)) mh := by cases h; exact hG
theorem gdoL {Λ : vLay} {X : vX} {mh : vMH} {x : Int64} {res : Int64} (h : some x = some res) (hG : Gd Λ X (some (.long res)) mh) : Gd Λ X (some (.long x)) mh := by cases h; exact hG
theorem gdow {Λ : vLay} {X : vX} {mh : vMH} {x : Int32} {res : Int32 × vMH} (h : some (x, mh) = some res) (hG : Gd Λ X (some (.int res.1)) res.2) : Gd Λ X (some (.int x)) mh := by cases h; exact hG
theorem gdtw {Λ : vLay} {X : vX} {mh : vMH} {x : Int32} {res : Int32 × vMH} (h : (x, mh) = res) (hG : Gd Λ X (some (.int res.1)) res.2) : Gd Λ X (some (.int x)) mh := by cases h; exact hG
theorem gdoLw {Λ : vLay} {X : vX} {mh : vMH} {x : Int64} {res : Int64 × vMH} (h : some (x, mh) = some res) (hG : Gd Λ X (some (.long res.1)) res.2) : Gd Λ X (some (.long x)) mh := by cases h; exact hG
theorem gdov {Λ : vLay} {X : vX} {mh : vMH} {res : vMH} (h : some mh = some res) (hG : Gd Λ X none res) : Gd Λ X none mh := by cases h; exact hG
theorem gdtv {Λ : vLay} {X : vX} {mh : vMH} {res : vMH} (h : mh = res) (hG : Gd Λ X none res) : Gd Λ X none mh := by cases h; exact hG
def wj0 {ρ : Type} (F : ρ) (C : (ρ) → ρ) : ρ := C F
theorem wj0_ok {ρ : Type} {F : ρ} {C : (ρ) → ρ} {res : ρ} {G : Prop} (P : Prop) (h : wj0 F C = res) (hj : F  = res → P ) (k : ∀ J : ρ, (J  = res → P ) → C J = res → G) : G := k F hj h
def wj1 {A1 ρ : Type} (F : A1 → ρ) (C : (A1 → ρ) → ρ) : ρ := C F
theorem wj1_ok {A1 ρ : Type} {F : A1 → ρ} {C : (A1 → ρ) → ρ} {res : ρ} {G : Prop} (P : A1 → Prop) (h : wj1 F C = res) (hj : ∀ (a1 : A1), F a1 = res → P a1) (k : ∀ J : A1 → ρ, (∀ (a1 : A1), J a1 = res → P a1) → C J = res → G) : G := k F hj h
def lq1 {A1 ρ : Type} : Nat → ((A1 → Option ρ) → A1 → Option ρ) → A1 → Option ρ
  | 0, _ => fun _ => none
  | n + 1, F => F (lq1 n F)
theorem lq1_ok {A1 ρ : Type} {n : Nat} {F : (A1 → Option ρ) → A1 → Option ρ} {a1 : _} {res : ρ} (P : A1 → Prop) (h : lq1 n F a1 = some res) (hs : ∀ rec : A1 → Option ρ, (∀ (a1 : A1), rec a1 = some res → P a1) → ∀ (a1 : A1), F rec a1 = some res → P a1) : P a1 := by
  have key : ∀ (n : Nat) (a1 : A1), lq1 n F a1 = some res → P a1 := by
    intro n
    induction n with
    | zero => intro a1 h; cases h
    | succ n ih => intro a1 h; exact hs _ ih a1 h
  exact key n a1 h
def wj2 {A1 A2 ρ : Type} (F : A1 → A2 → ρ) (C : (A1 → A2 → ρ) → ρ) : ρ := C F
theorem wj2_ok {A1 A2 ρ : Type} {F : A1 → A2 → ρ} {C : (A1 → A2 → ρ) → ρ} {res : ρ} {G : Prop} (P : A1 → A2 → Prop) (h : wj2 F C = res) (hj : ∀ (a1 : A1) (a2 : A2), F a1 a2 = res → P a1 a2) (k : ∀ J : A1 → A2 → ρ, (∀ (a1 : A1) (a2 : A2), J a1 a2 = res → P a1 a2) → C J = res → G) : G := k F hj h
def lq2 {A1 A2 ρ : Type} : Nat → ((A1 → A2 → Option ρ) → A1 → A2 → Option ρ) → A1 → A2 → Option ρ
  | 0, _ => fun _ _ => none
  | n + 1, F => F (lq2 n F)
theorem lq2_ok {A1 A2 ρ : Type} {n : Nat} {F : (A1 → A2 → Option ρ) → A1 → A2 → Option ρ} {a1 a2 : _} {res : ρ} (P : A1 → A2 → Prop) (h : lq2 n F a1 a2 = some res) (hs : ∀ rec : A1 → A2 → Option ρ, (∀ (a1 : A1) (a2 : A2), rec a1 a2 = some res → P a1 a2) → ∀ (a1 : A1) (a2 : A2), F rec a1 a2 = some res → P a1 a2) : P a1 a2 := by
  have key : ∀ (n : Nat) (a1 : A1) (a2 : A2), lq2 n F a1 a2 = some res → P a1 a2 := by
    intro n
    induction n with
    | zero => intro a1 a2 h; cases h
    | succ n ih => intro a1 a2 h; exact hs _ ih a1 a2 h
  exact key n a1 a2 h
def wj3 {A1 A2 A3 ρ : Type} (F : A1 → A2 → A3 → ρ) (C : (A1 → A2 → A3 → ρ) → ρ) : ρ := C F
theorem wj3_ok {A1 A2 A3 ρ : Type} {F : A1 → A2 → A3 → ρ} {C : (A1 → A2 → A3 → ρ) → ρ} {res : ρ} {G : Prop} (P : A1 → A2 → A3 → Prop) (h : wj3 F C = res) (hj : ∀ (a1 : A1) (a2 : A2) (a3 : A3), F a1 a2 a3 = res → P a1 a2 a3) (k : ∀ J : A1 → A2 → A3 → ρ, (∀ (a1 : A1) (a2 : A2) (a3 : A3), J a1 a2 a3 = res → P a1 a2 a3) → C J = res → G) : G := k F hj h
def lq3 {A1 A2 A3 ρ : Type} : Nat → ((A1 → A2 → A3 → Option ρ) → A1 → A2 → A3 → Option ρ) → A1 → A2 → A3 → Option ρ
  | 0, _ => fun _ _ _ => none
  | n + 1, F => F (lq3 n F)
theorem lq3_ok {A1 A2 A3 ρ : Type} {n : Nat} {F : (A1 → A2 → A3 → Option ρ) → A1 → A2 → A3 → Option ρ} {a1 a2 a3 : _} {res : ρ} (P : A1 → A2 → A3 → Prop) (h : lq3 n F a1 a2 a3 = some res) (hs : ∀ rec : A1 → A2 → A3 → Option ρ, (∀ (a1 : A1) (a2 : A2) (a3 : A3), rec a1 a2 a3 = some res → P a1 a2 a3) → ∀ (a1 : A1) (a2 : A2) (a3 : A3), F rec a1 a2 a3 = some res → P a1 a2 a3) : P a1 a2 a3 := by
  have key : ∀ (n : Nat) (a1 : A1) (a2 : A2) (a3 : A3), lq3 n F a1 a2 a3 = some res → P a1 a2 a3 := by
    intro n
    induction n with
    | zero => intro a1 a2 a3 h; cases h
    | succ n ih => intro a1 a2 a3 h; exact hs _ ih a1 a2 a3 h
  exact key n a1 a2 a3 h
def wj4 {A1 A2 A3 A4 ρ : Type} (F : A1 → A2 → A3 → A4 → ρ) (C : (A1 → A2 → A3 → A4 → ρ) → ρ) : ρ := C F
theorem wj4_ok {A1 A2 A3 A4 ρ : Type} {F : A1 → A2 → A3 → A4 → ρ} {C : (A1 → A2 → A3 → A4 → ρ) → ρ} {res : ρ} {G : Prop} (P : A1 → A2 → A3 → A4 → Prop) (h : wj4 F C = res) (hj : ∀ (a1 : A1) (a2 : A2) (a3 : A3) (a4 : A4), F a1 a2 a3 a4 = res → P a1 a2 a3 a4) (k : ∀ J : A1 → A2 → A3 → A4 → ρ, (∀ (a1 : A1) (a2 : A2) (a3 : A3) (a4 : A4), J a1 a2 a3 a4 = res → P a1 a2 a3 a4) → C J = res → G) : G := k F hj h
def lq4 {A1 A2 A3 A4 ρ : Type} : Nat → ((A1 → A2 → A3 → A4 → Option ρ) → A1 → A2 → A3 → A4 → Option ρ) → A1 → A2 → A3 → A4 → Option ρ
  | 0, _ => fun _ _ _ _ => none
  | n + 1, F => F (lq4 n F)
theorem lq4_ok {A1 A2 A3 A4 ρ : Type} {n : Nat} {F : (A1 → A2 → A3 → A4 → Option ρ) → A1 → A2 → A3 → A4 → Option ρ} {a1 a2 a3 a4 : _} {res : ρ} (P : A1 → A2 → A3 → A4 → Prop) (h : lq4 n F a1 a2 a3 a4 = some res) (hs : ∀ rec : A1 → A2 → A3 → A4 → Option ρ, (∀ (a1 : A1) (a2 : A2) (a3 : A3) (a4 : A4), rec a1 a2 a3 a4 = some res → P a1 a2 a3 a4) → ∀ (a1 : A1) (a2 : A2) (a3 : A3) (a4 : A4), F rec a1 a2 a3 a4 = some res → P a1 a2 a3 a4) : P a1 a2 a3 a4 := by
  have key : ∀ (n : Nat) (a1 : A1) (a2 : A2) (a3 : A3) (a4 : A4), lq4 n F a1 a2 a3 a4 = some res → P a1 a2 a3 a4 := by
    intro n
    induction n with
    | zero => intro a1 a2 a3 a4 h; cases h
    | succ n ih => intro a1 a2 a3 a4 h; exact hs _ ih a1 a2 a3 a4 h
  exact key n a1 a2 a3 a4 h
def wj5 {A1 A2 A3 A4 A5 ρ : Type} (F : A1 → A2 → A3 → A4 → A5 → ρ) (C : (A1 → A2 → A3 → A4 → A5 → ρ) → ρ) : ρ := C F
theorem wj5_ok {A1 A2 A3 A4 A5 ρ : Type} {F : A1 → A2 → A3 → A4 → A5 → ρ} {C : (A1 → A2 → A3 → A4 → A5 → ρ) → ρ} {res : ρ} {G : Prop} (P : A1 → A2 → A3 → A4 → A5 → Prop) (h : wj5 F C = res) (hj : ∀ (a1 : A1) (a2 : A2) (a3 : A3) (a4 : A4) (a5 : A5), F a1 a2 a3 a4 a5 = res → P a1 a2 a3 a4 a5) (k : ∀ J : A1 → A2 → A3 → A4 → A5 → ρ, (∀ (a1 : A1) (a2 : A2) (a3 : A3) (a4 : A4) (a5 : A5), J a1 a2 a3 a4 a5 = res → P a1 a2 a3 a4 a5) → C J = res → G) : G := k F hj h
def lq5 {A1 A2 A3 A4 A5 ρ : Type} : Nat → ((A1 → A2 → A3 → A4 → A5 → Option ρ) → A1 → A2 → A3 → A4 → A5 → Option ρ) → A1 → A2 → A3 → A4 → A5 → Option ρ
  | 0, _ => fun _ _ _ _ _ => none
  | n + 1, F => F (lq5 n F)
theorem lq5_ok {A1 A2 A3 A4 A5 ρ : Type} {n : Nat} {F : (A1 → A2 → A3 → A4 → A5 → Option ρ) → A1 → A2 → A3 → A4 → A5 → Option ρ} {a1 a2 a3 a4 a5 : _} {res : ρ} (P : A1 → A2 → A3 → A4 → A5 → Prop) (h : lq5 n F a1 a2 a3 a4 a5 = some res) (hs : ∀ rec : A1 → A2 → A3 → A4 → A5 → Option ρ, (∀ (a1 : A1) (a2 : A2) (a3 : A3) (a4 : A4) (a5 : A5), rec a1 a2 a3 a4 a5 = some res → P a1 a2 a3 a4 a5) → ∀ (a1 : A1) (a2 : A2) (a3 : A3) (a4 : A4) (a5 : A5), F rec a1 a2 a3 a4 a5 = some res → P a1 a2 a3 a4 a5) : P a1 a2 a3 a4 a5 := by
  have key : ∀ (n : Nat) (a1 : A1) (a2 : A2) (a3 : A3) (a4 : A4) (a5 : A5), lq5 n F a1 a2 a3 a4 a5 = some res → P a1 a2 a3 a4 a5 := by
    intro n
    induction n with
    | zero => intro a1 a2 a3 a4 a5 h; cases h
    | succ n ih => intro a1 a2 a3 a4 a5 h; exact hs _ ih a1 a2 a3 a4 a5 h
  exact key n a1 a2 a3 a4 a5 h
def wj6 {A1 A2 A3 A4 A5 A6 ρ : Type} (F : A1 → A2 → A3 → A4 → A5 → A6 → ρ) (C : (A1 → A2 → A3 → A4 → A5 → A6 → ρ) → ρ) : ρ := C F
theorem wj6_ok {A1 A2 A3 A4 A5 A6 ρ : Type} {F : A1 → A2 → A3 → A4 → A5 → A6 → ρ} {C : (A1 → A2 → A3 → A4 → A5 → A6 → ρ) → ρ} {res : ρ} {G : Prop} (P : A1 → A2 → A3 → A4 → A5 → A6 → Prop) (h : wj6 F C = res) (hj : ∀ (a1 : A1) (a2 : A2) (a3 : A3) (a4 : A4) (a5 : A5) (a6 : A6), F a1 a2 a3 a4 a5 a6 = res → P a1 a2 a3 a4 a5 a6) (k : ∀ J : A1 → A2 → A3 → A4 → A5 → A6 → ρ, (∀ (a1 : A1) (a2 : A2) (a3 : A3) (a4 : A4) (a5 : A5) (a6 : A6), J a1 a2 a3 a4 a5 a6 = res → P a1 a2 a3 a4 a5 a6) → C J = res → G) : G := k F hj h
def lq6 {A1 A2 A3 A4 A5 A6 ρ : Type} : Nat → ((A1 → A2 → A3 → A4 → A5 → A6 → Option ρ) → A1 → A2 → A3 → A4 → A5 → A6 → Option ρ) → A1 → A2 → A3 → A4 → A5 → A6 → Option ρ
  | 0, _ => fun _ _ _ _ _ _ => none
  | n + 1, F => F (lq6 n F)
theorem lq6_ok {A1 A2 A3 A4 A5 A6 ρ : Type} {n : Nat} {F : (A1 → A2 → A3 → A4 → A5 → A6 → Option ρ) → A1 → A2 → A3 → A4 → A5 → A6 → Option ρ} {a1 a2 a3 a4 a5 a6 : _} {res : ρ} (P : A1 → A2 → A3 → A4 → A5 → A6 → Prop) (h : lq6 n F a1 a2 a3 a4 a5 a6 = some res) (hs : ∀ rec : A1 → A2 → A3 → A4 → A5 → A6 → Option ρ, (∀ (a1 : A1) (a2 : A2) (a3 : A3) (a4 : A4) (a5 : A5) (a6 : A6), rec a1 a2 a3 a4 a5 a6 = some res → P a1 a2 a3 a4 a5 a6) → ∀ (a1 : A1) (a2 : A2) (a3 : A3) (a4 : A4) (a5 : A5) (a6 : A6), F rec a1 a2 a3 a4 a5 a6 = some res → P a1 a2 a3 a4 a5 a6) : P a1 a2 a3 a4 a5 a6 := by
  have key : ∀ (n : Nat) (a1 : A1) (a2 : A2) (a3 : A3) (a4 : A4) (a5 : A5) (a6 : A6), lq6 n F a1 a2 a3 a4 a5 a6 = some res → P a1 a2 a3 a4 a5 a6 := by
    intro n
    induction n with
    | zero => intro a1 a2 a3 a4 a5 a6 h; cases h
    | succ n ih => intro a1 a2 a3 a4 a5 a6 h; exact hs _ ih a1 a2 a3 a4 a5 a6 h
  exact key n a1 a2 a3 a4 a5 a6 h
def wj7 {A1 A2 A3 A4 A5 A6 A7 ρ : Type} (F : A1 → A2 → A3 → A4 → A5 → A6 → A7 → ρ) (C : (A1 → A2 → A3 → A4 → A5 → A6 → A7 → ρ) → ρ) : ρ := C F
theorem wj7_ok {A1 A2 A3 A4 A5 A6 A7 ρ : Type} {F : A1 → A2 → A3 → A4 → A5 → A6 → A7 → ρ} {C : (A1 → A2 → A3 → A4 → A5 → A6 → A7 → ρ) → ρ} {res : ρ} {G : Prop} (P : A1 → A2 → A3 → A4 → A5 → A6 → A7 → Prop) (h : wj7 F C = res) (hj : ∀ (a1 : A1) (a2 : A2) (a3 : A3) (a4 : A4) (a5 : A5) (a6 : A6) (a7 : A7), F a1 a2 a3 a4 a5 a6 a7 = res → P a1 a2 a3 a4 a5 a6 a7) (k : ∀ J : A1 → A2 → A3 → A4 → A5 → A6 → A7 → ρ, (∀ (a1 : A1) (a2 : A2) (a3 : A3) (a4 : A4) (a5 : A5) (a6 : A6) (a7 : A7), J a1 a2 a3 a4 a5 a6 a7 = res → P a1 a2 a3 a4 a5 a6 a7) → C J = res → G) : G := k F hj h
def lq7 {A1 A2 A3 A4 A5 A6 A7 ρ : Type} : Nat → ((A1 → A2 → A3 → A4 → A5 → A6 → A7 → Option ρ) → A1 → A2 → A3 → A4 → A5 → A6 → A7 → Option ρ) → A1 → A2 → A3 → A4 → A5 → A6 → A7 → Option ρ
  | 0, _ => fun _ _ _ _ _ _ _ => none
  | n + 1, F => F (lq7 n F)
theorem lq7_ok {A1 A2 A3 A4 A5 A6 A7 ρ : Type} {n : Nat} {F : (A1 → A2 → A3 → A4 → A5 → A6 → A7 → Option ρ) → A1 → A2 → A3 → A4 → A5 → A6 → A7 → Option ρ} {a1 a2 a3 a4 a5 a6 a7 : _} {res : ρ} (P : A1 → A2 → A3 → A4 → A5 → A6 → A7 → Prop) (h : lq7 n F a1 a2 a3 a4 a5 a6 a7 = some res) (hs : ∀ rec : A1 → A2 → A3 → A4 → A5 → A6 → A7 → Option ρ, (∀ (a1 : A1) (a2 : A2) (a3 : A3) (a4 : A4) (a5 : A5) (a6 : A6) (a7 : A7), rec a1 a2 a3 a4 a5 a6 a7 = some res → P a1 a2 a3 a4 a5 a6 a7) → ∀ (a1 : A1) (a2 : A2) (a3 : A3) (a4 : A4) (a5 : A5) (a6 : A6) (a7 : A7), F rec a1 a2 a3 a4 a5 a6 a7 = some res → P a1 a2 a3 a4 a5 a6 a7) : P a1 a2 a3 a4 a5 a6 a7 := by
  have key : ∀ (n : Nat) (a1 : A1) (a2 : A2) (a3 : A3) (a4 : A4) (a5 : A5) (a6 : A6) (a7 : A7), lq7 n F a1 a2 a3 a4 a5 a6 a7 = some res → P a1 a2 a3 a4 a5 a6 a7 := by
    intro n
    induction n with
    | zero => intro a1 a2 a3 a4 a5 a6 a7 h; cases h
    | succ n ih => intro a1 a2 a3 a4 a5 a6 a7 h; exact hs _ ih a1 a2 a3 a4 a5 a6 a7 h
  exact key n a1 a2 a3 a4 a5 a6 a7 h
