/-! the law from its entry, over any relation that the calls keep -/
theorem D_map {A : Nat → Prop} {w w' : va_W} (he : w.map Prod.fst = w'.map Prod.fst) (h : va_D A w) : va_D A w' := by
  have key : ∀ (k : Nat) (q : Nat × va_E), w'[k]? = some q → ∃ q0, w[k]? = some q0 ∧ q0.1 = q.1 := by
    intro k q hq
    have h1 : (w'.map Prod.fst)[k]? = some q.1 := by rw [List.getElem?_map, hq]; rfl
    rw [← he, List.getElem?_map] at h1
    cases hw : w[k]? with
    | none => rw [hw] at h1; cases h1
    | some q0 => rw [hw] at h1; exact ⟨q0, rfl, Option.some.inj h1⟩
  refine ⟨fun i j x y hi hj hxy => ?_, fun k q hq => ?_⟩
  · obtain ⟨x0, h1, h2⟩ := key i x hi
    obtain ⟨y0, h3, h4⟩ := key j y hj
    exact h.1 i j x0 y0 h1 h3 (h2.trans (hxy.trans h4.symm))
  · obtain ⟨q0, h1, h2⟩ := key k q hq
    rw [← h2]
    exact h.2 k q0 h1
theorem v_ws_fst {Λ : vLay} {cA : ClassId × ClassId} {ad : Nat → Nat} {mh : vMH} : (v_ws Λ cA ad mh).map Prod.fst = (List.range Λ.1).map ad := by
  simp [v_ws, Function.comp_def]
theorem va_free1 {A0 : Nat → Prop} {a : Nat} {x : va_E} {H0 H : Heap} {locs : List Loc} (hD : va_D A0 [(a, x)]) (hS : va_S A0 H0 H locs) (hA : ∀ q, H0.size ≤ q → A0 q) : ∀ q, va_A [(a, x)] H.size q → A0 q := va_free hD hS hA [0] rfl
set_option maxHeartbeats 8000000 in
set_option maxRecDepth 100000 in
theorem whole_start_open {Rl : vMH → vMH → Prop} (O : Ops Rl) (hR0 : Rl mhC0 mhM0) {p : Program} {e : Env} {s : State} {m : MethodId} {below : List Frame} {meth : Method} {c : Code} (l : Launch) {b L : Nat} {xs : Nat → Int32} (hL : L ≤ 3072) (C0 : lw_At p s m meth c b L xs) : W p l e room_1 s m #[Value.ref b] below meth c s.heap [] 0 0 (lw_Z below #[Value.ref b] s) (entryFrame m ([Value.ref b] : List Value).toArray 4) := by
  obtain ⟨hx, hb, hr, hml, hown, hts0, hX, hbl, hlocks, hgv⟩ := C0
  have hts : ∀ w ∈ gw, w.before #[Value.ref b] s = true := fun w hw => hts0 w (List.mem_filter.mp hw).1
  replace hown : s.vm.findClass RL = some m.cls := hown
  obtain ⟨D, cA, hK⟩ := start_K hts
  obtain ⟨ext, t1, t2, hExt, hE3⟩ := start_ext hts0 hgv
  have hA : ∀ q : Nat, s.heap.size ≤ q → (fun q : Nat => s.heap.size ≤ q) q := fun _ h => h
  have hS : va_S (fun q : Nat => s.heap.size ≤ q) s.heap s.heap [] := va_S.rf
  have hP : va_P D v_cl [] s.heap := fun k q h => by simp at h
  have hD : va_D (fun q : Nat => s.heap.size ≤ q) [] := ⟨fun i j p q h => by simp at h, fun k q h => by simp at h⟩
  have hl := lv_entry ([.ref b]) (n := 4) (Nat.le_of_ble_eq_true rfl)
  rw [lg_entry_eq]
  generalize (lg_sl ([.ref b]) ++ List.replicate (4 - (lg_sl ([.ref b])).length) Slot.unset).toArray = ls at hl ⊢
  have hl : lv_has ls 4 [(0, .ref b)] := hl
  refine va_new (ci := 5) (fs := [.null, .null, .null, .null, .null, .null, .null, .null, .int 0]) (C := RX5) (T := TX5) (N := 9) hx hb hts CF5.2.1 tyX5 tyX5_ok hown (hts _ cl_L_7) (hts _ it_X5) (hts _ in_X5) hK hP hD hS hA rfl dfX5 (Nat.le_of_ble_eq_true rfl) (Nat.le_of_ble_eq_true rfl) dL_law_0 (fun q0 H hP hD hS => ?_)
  have hP : va_P D v_cl [(q0, .inr (5, [.null, .null, .null, .null, .null, .null, .null, .null, .int 0]))] H := hP
  have hD : va_D (fun q : Nat => s.heap.size ≤ q) [(q0, .inr (5, [.null, .null, .null, .null, .null, .null, .null, .null, .int 0]))] := hD
  refine W.widen (k := 1) (n := 9) (by omega) (by omega) ?_
  refine lv_dup hx hb dL_law_3 rfl ?_
  have hFc := va_free (wc := [(q0, .inr (5, [.null, .null, .null, .null, .null, .null, .null, .null, .int 0]))]) hD hS hA [0] rfl
  refine va_callv (va_runI (As := []) (rest := [.ref q0]) ⟨hx, hb, hml, hown, hts⟩ (c_X5_init l D cA t1 t2 ext q0 H.size) (cwI 0 hts (gw_cons co_X5_init gw_self) rfl rfl rfl (hts _ in_X5) (hts _ mi_L_9) (hts _ im_X5_init) rfl (by decide +kernel) ⟨Nat.le_of_ble_eq_true rfl, Nat.le_of_ble_eq_true rfl⟩) ⟨fun a U g mk q => by obtain ⟨q0, q1, qP, qK, qD, qE⟩ := q; exact ⟨q0, q1, qP, va_K.moved (u := U) (U := U.calling g mk a) (Vm.Alike.refl U.vm) qK, qD, v_E3.same (u := U) (U := U.calling g mk a) rfl qE⟩, fun U hU hW => ⟨rfl, by rw [hU], by rw [hU]; exact hP, va_K.moved hW.alike hK, hD.weaken (fun _ _ _ _ => trivial), by rw [hU]; exact ((hE3.kept hS.1 hS.2.1).narrow hFc).warm hW⟩⟩ rfl rfl hl.1 rfl (lv_room (Nat.le_of_ble_eq_true rfl)) dL_law_4 ⟨Nat.le_of_ble_eq_true rfl, Nat.le_of_ble_eq_true rfl⟩) hS (fun q _ h => hFc q h) hFc (fun u t H1 locs ht hvm hw hB hz1 hk1 hS => ?_)
  obtain ⟨adC, hadC, had0, hP1, hK1, hD1⟩ := hB
  rw [ht] at hP1
  replace hD1 := hD1.weaken (fun _ q _ h => hFc q.1 h)
  clear hP hD hFc hk1
  generalize H1 = H at hP1 hS ⊢
  refine W.widen (k := 33) (n := 1735) (by omega) (by omega) ?_
  refine lv_astore_n (lv' := [(1, .ref q0), (0, .ref b)]) hx hb dL_law_7 rfl hl (by decide) rfl (fun ls hl => ?_)
  refine va_new (ci := 6) (fs := _) (C := RX6) (T := TX6) (N := 52) hx hb hts CF6.2.1 tyX6 tyX6_ok hown (hts _ cl_L_10) (hts _ it_X6) (hts _ in_X6) hK hP1 hD1 hS hA rfl dfX6 (Nat.le_of_ble_eq_true rfl) (Nat.le_of_ble_eq_true rfl) dL_law_8 (fun q1 H hP hD hS => ?_)
  refine W.widen (k := 34) (n := 1787) (by omega) (by omega) ?_
  refine lv_dup hx hb dL_law_11 rfl ?_
  have hPc := hP.right
  have hDc := hD.right
  have hFc := va_free1 hDc hS hA
  refine va_callv (va_runI (As := []) (rest := [.ref q1]) ⟨hx, hb, hml, hown, hts⟩ (c_X6_init l D cA ext q1 H.size) (cwI 0 hts (gw_cons co_X6_init gw_self) rfl rfl rfl (hts _ in_X6) (hts _ mi_L_12) (hts _ im_X6_init) rfl (by decide +kernel) ⟨Nat.le_of_ble_eq_true rfl, Nat.le_of_ble_eq_true rfl⟩) ⟨fun a U g mk q => by obtain ⟨q0, q1, qP, qK, qD, qE⟩ := q; exact ⟨q0, q1, qP, va_K.moved (u := U) (U := U.calling g mk a) (Vm.Alike.refl U.vm) qK, qD, v_Ext.same (u := U) (U := U.calling g mk a) rfl qE⟩, fun U hU hW => ⟨rfl, by rw [hU], by rw [hU]; exact hPc, va_K.moved hW.alike hK, hDc.weaken (fun _ _ _ _ => trivial), by rw [hU]; exact ((hExt.kept hS.2.1).narrow hFc).warm hW⟩⟩ rfl rfl hl.1 rfl (lv_room (Nat.le_of_ble_eq_true rfl)) dL_law_12 ⟨Nat.le_of_ble_eq_true rfl, Nat.le_of_ble_eq_true rfl⟩) hS (fun q _ h => hFc q h) hFc (fun u t H1 locs ht hvm hw hB hz1 hk1 hS => ?_)
  obtain ⟨adM, hadM, had1, hP2, hK2, hD2⟩ := hB
  rw [ht] at hP2
  have hPall := two_right hP hD hk1 hP2
  have hDall : va_D (fun q : Nat => s.heap.size ≤ q) (v_ws LC cA adC mhC0 ++ v_ws LM cA adM mhM0) := by
    refine va_D.app hD.left (hD2.weaken (fun _ q _ h => hFc q.1 h)) (fun i j x y hx hy hxy => ?_)
    have hlt := (hP.left i x hx).lt
    have hin := hD2.2 j y hy
    rw [← hxy] at hin
    rcases hin with ⟨k, e2, hk⟩ | hin
    · match k, hk with
      | 0, hk =>
        have hk' := Option.some.inj hk
        have hq : q1 = x.1 := congrArg Prod.fst hk'
        have hil : i < (v_ws LC cA adC mhC0).length := (List.getElem?_eq_some_iff.mp hx).1
        have := hD.1 i ((v_ws LC cA adC mhC0).length) x _ (by rw [List.getElem?_append_left hil]; exact hx) (by rw [List.getElem?_append_right (Nat.le_refl _), Nat.sub_self]; rfl) hq.symm
        omega
      | k + 1, hk => simp at hk
    · omega
  generalize H1 = H at hPall hS ⊢
  refine W.widen (k := 49) (n := 3181) (by omega) (by omega) ?_
  refine lv_astore_n (lv' := [(2, .ref q1), (1, .ref q0), (0, .ref b)]) hx hb dL_law_15 rfl hl (by decide) rfl (fun ls hl => ?_)
  refine lv_iconst (v := 0) hx hb dL_law_16 (by decide) ?_
  refine lv_istore_n (lv' := [(3, .int 0), (2, .ref q1), (1, .ref q0), (0, .ref b)]) hx hb dL_law_17 rfl hl (by decide) rfl (fun ls hl => ?_)
  have hl4 := lv_sub (l' := [(0, .ref b), (1, .ref q0), (2, .ref q1), (3, .int 0)]) hl [3, 2, 1, 0] rfl
  rw [← had0, ← had1] at hl4
  have C : LCx (p, l, e, s, m, below, meth, c, D, cA, adC, adM, b, L, xs) :=
    ⟨hx, hb, hml, hown, hts, hr, hlocks, hK, fun c m => D_map (by rw [List.map_append, List.map_append, v_ws_fst, v_ws_fst, v_ws_fst, v_ws_fst]) hDall, hExt.cong hadC, hExt.cong hadM, hX, hbl⟩
  exact law_loop (Y := (p, l, e, s, m, below, meth, c, D, cA, adC, adM, b, L, xs)) C O hL (L + 2) 0 0 mhC0 mhM0 (by omega) (by show L + 7 ≤ 0 + 6 * (L + 2); omega) nI_0.symm hR0 H _ ls hPall hS hl4
