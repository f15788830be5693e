/-! THE CLAIM OUT OF ONE WALK OF THE LAW'S BODY. Your part is whole_start (and what it stands on); all else here is the same for every law, but numbers. -/
def R_law : String := "FieldBeepsLaw"
def lw_P (b : Addr) (xs : List Int32) (args : Array Value) (s : State) : Prop := args = #[.ref b] ∧ s.IntsAt b xs ∧ xs.length ≤ 3072 ∧ (Jvm.Cond.and given_1 narrow_1).before args s = true
def lw_Q (_ : Array Value) (s : State) (o : Outcome) (t : State) : Prop := o = .returned (some (.int 1)) ∧ Framed s o t [] 600000 7302250
def lw_Z (below : List Frame) (a : Array Value) (s : State) : State → Prop := fun t => ∃ o, t.status = .running ∧ Ended t below o ∧ lw_Q a s o t
/-- the law's own end, with 1 on the stack, nothing written that was there before, its room as the claim has it -/
theorem lw_ret {p : Program} {l : Launch} {e : Env} {s : State} {m : MethodId} {below : List Frame} {meth : Method} {c : Code} {b : Nat} (hx : p.tables.exec = Jvm.exec) (hb : c.code = code) (hr : meth.sig.returnType = ret) (hlocks : meth.locks = false) {pc : Nat} {H : Heap} {ls : Array Slot} (hdg : decode code pc = .ok (.ireturn, 1)) : W p l e room_1 s m #[Value.ref b] below meth c H [] 600000 7302250 (lw_Z below #[Value.ref b] s) (F0 m pc ls [.int 1]) := by
  intro T hT X
  obtain ⟨fs, hret, hrun, hended, hW, hframe⟩ := X.leave (v := some (.int 1)) (hlocks := hlocks) (fun h => by rw [hr] at h; cases h)
  have hmeth' : T.vm.method? m = some meth := X.method'
  refine ⟨T.setFrames fs, ?_, .returned (some (.int 1)), hrun, hended, rfl, ⟨_, rfl⟩, hW, hframe⟩
  jvm_step X.here [X.here.top, hx, hb, hdg, hmeth', hr, ret, narrow_b1]
  (try refine ⟨rfl, ?_⟩); (try refine ⟨rfl, ?_⟩)
  first | (intro acts; rw [hret _ acts rfl rfl rfl]) | rw [hret _ _ rfl rfl rfl]
  exact Steps.refl _
/-- what holds at the law's entry: the machine, the code, the tables' words (any of lw_tbl by 'hts w (by decide +kernel)'), the script of L ints xs at the cell b, what the Statement gives of the start (any of its parts by flat_of_before) -/
def lw_At (p : Program) (s : State) (m : MethodId) (meth : Method) (c : Code) (b L : Nat) (xs : Nat → Int32) : Prop :=
  p.tables.exec = Jvm.exec ∧ c.code = code ∧ meth.sig.returnType = ret ∧ c.maxLocals = 4 ∧ s.vm.findClass R_law = some m.cls ∧ (∀ w ∈ lw_tbl, w.before #[Value.ref b] s = true) ∧ va_X b L xs s s.heap ∧ b < s.heap.size ∧ meth.locks = false ∧ (Jvm.Cond.and given_1 narrow_1).before #[Value.ref b] s = true
/-! the law's walk, by rows of its own -/
abbrev lX : Type := Program × Launch × Env × State × MethodId × List Frame × Method × Code × va_G × (ClassId × ClassId) × (Nat → Nat) × (Nat → Nat) × Nat × Nat × (Nat → Int32)
def lc0 (Y : lX) : Nat := match Y with | (_, _, _, _, _, _, _, _, _, _, adC, _, _, _, _) => adC 0
def lm0 (Y : lX) : Nat := match Y with | (_, _, _, _, _, _, _, _, _, _, _, adM, _, _, _) => adM 0
def lL (Y : lX) : Nat := match Y with | (_, _, _, _, _, _, _, _, _, _, _, _, _, L, _) => L
def larg (Y : lX) (j : Int32) : Int32 := match Y with | (_, _, _, _, _, _, _, _, _, _, _, _, _, _, xs) => xs j.toNatClampNeg
def LW (Y : lX) (x3 : Int32) (cv mv : vMH) (pc : Nat) (st : List Value) : Prop :=
  match Y with
  | (p, l, e, s, m, below, meth, c, D, cA, adC, adM, b, _, _) => ∀ (H : Heap) (locs : List Loc) (ls : Array Slot), va_P D v_cl (v_ws LC cA adC cv ++ v_ws LM cA adM mv) H → va_S (fun q => s.heap.size ≤ q) s.heap H locs → lv_has ls 4 [(0, .ref b), (1, .ref (adC 0)), (2, .ref (adM 0)), (3, .int x3)] →
      W p l e room_1 s m #[Value.ref b] below meth c H locs 49 3181 (lw_Z below #[Value.ref b] s) (F0 m pc ls st)
def LCx (Y : lX) : Prop :=
  match Y with
  | (p, _, _, s, m, _, meth, c, D, cA, adC, adM, b, L, xs) => p.tables.exec = Jvm.exec ∧ c.code = code ∧ c.maxLocals = 4 ∧ s.vm.findClass RL = some m.cls ∧ (∀ w ∈ gw, w.before #[Value.ref b] s = true) ∧ meth.sig.returnType = ret ∧ meth.locks = false ∧ va_K D v_cl (v_tys cA) s ∧ (∀ c m, va_D (fun q => s.heap.size ≤ q) (v_ws LC cA adC c ++ v_ws LM cA adM m)) ∧ v_Ext adC (fun q => s.heap.size ≤ q) s s.heap ∧ v_Ext adM (fun q => s.heap.size ≤ q) s s.heap ∧ va_X b L xs s s.heap ∧ b < s.heap.size
theorem two_left {D : va_G} {cl : List vw_C} {A : Nat → Prop} {w1 w2 w1' : va_W} {H H1 : Heap} (hP : va_P D cl (w1 ++ w2) H) (hD : va_D A (w1 ++ w2)) (hk : ∀ q : Nat, q < H.size → ¬ va_A w1 H.size q → H1[q]? = H[q]?) (hP1 : va_P D cl w1' H1) : va_P D cl (w1' ++ w2) H1 := by
  refine va_P.app hP1 (fun k q hq => ?_)
  have h2 : (w1 ++ w2)[w1.length + k]? = some q := by rw [List.getElem?_append_right (by omega)]; simpa using hq
  have hl := (hP _ q h2).lt
  refine (hP _ q h2).kept (hk q.1 hl (fun z => ?_))
  rcases z with ⟨j, e, hj⟩ | z
  · have hjl : j < w1.length := (List.getElem?_eq_some_iff.mp hj).1
    have h3 : (w1 ++ w2)[j]? = some (q.1, e) := by rw [List.getElem?_append_left hjl]; exact hj
    have := hD.1 _ _ _ _ h2 h3 rfl
    omega
  · omega
theorem two_right {D : va_G} {cl : List vw_C} {A : Nat → Prop} {w1 w2 w2' : va_W} {H H1 : Heap} (hP : va_P D cl (w1 ++ w2) H) (hD : va_D A (w1 ++ w2)) (hk : ∀ q : Nat, q < H.size → ¬ va_A w2 H.size q → H1[q]? = H[q]?) (hP1 : va_P D cl w2' H1) : va_P D cl (w1 ++ w2') H1 := by
  refine va_P.app (fun k q hq => ?_) hP1
  have hkl : k < w1.length := (List.getElem?_eq_some_iff.mp hq).1
  have h2 : (w1 ++ w2)[k]? = some q := by rw [List.getElem?_append_left hkl]; exact hq
  have hl := (hP _ q h2).lt
  refine (hP _ q h2).kept (hk q.1 hl (fun z => ?_))
  rcases z with ⟨j, e, hj⟩ | z
  · have h3 : (w1 ++ w2)[w1.length + j]? = some (q.1, e) := by rw [List.getElem?_append_right (by omega)]; simpa using hj
    have := hD.1 _ _ _ _ h2 h3 rfl
    omega
  · omega
theorem va_P.left {D : va_G} {cl : List vw_C} {w1 w2 : va_W} {H : Heap} (h : va_P D cl (w1 ++ w2) H) : va_P D cl w1 H := fun k q hq => h k q (by rw [List.getElem?_append_left (List.getElem?_eq_some_iff.mp hq).1]; exact hq)
theorem va_P.right {D : va_G} {cl : List vw_C} {w1 w2 : va_W} {H : Heap} (h : va_P D cl (w1 ++ w2) H) : va_P D cl w2 H := fun k q hq => h (w1.length + k) q (by rw [List.getElem?_append_right (by omega)]; simpa using hq)
theorem va_D.left {A : Nat → Prop} {w1 w2 : va_W} (h : va_D A (w1 ++ w2)) : va_D A w1 := ⟨fun i j p q hi hj e => h.1 i j p q (by rw [List.getElem?_append_left (List.getElem?_eq_some_iff.mp hi).1]; exact hi) (by rw [List.getElem?_append_left (List.getElem?_eq_some_iff.mp hj).1]; exact hj) e, fun k q hq => h.2 k q (by rw [List.getElem?_append_left (List.getElem?_eq_some_iff.mp hq).1]; exact hq)⟩
theorem va_D.right {A : Nat → Prop} {w1 w2 : va_W} (h : va_D A (w1 ++ w2)) : va_D A w2 := ⟨fun i j p q hi hj e => by
    have := h.1 (w1.length + i) (w1.length + j) p q (by rw [List.getElem?_append_right (by omega)]; simpa using hi) (by rw [List.getElem?_append_right (by omega)]; simpa using hj) e
    omega, fun k q hq => h.2 (w1.length + k) q (by rw [List.getElem?_append_right (by omega)]; simpa using hq)⟩
section LAW
variable {Y : lX} {x3 : Int32} {cv mv cv' mv' : vMH} {pc : Nat} {st rest As : List Value}
theorem L_aload1 (C : LCx Y) (hd : decode code pc = .ok (.aload_n 1, 1)) (k : LW Y x3 cv mv (pc + 1) (.ref (lc0 Y) :: st)) : LW Y x3 cv mv pc st := by
  obtain ⟨p, l, e, s, m, below, meth, c, D, cA, adC, adM, b, L, xs⟩ := Y
  obtain ⟨hx, hb, -⟩ := C
  exact fun H locs ls hP hS hl => lv_aload_n hx hb hd rfl (lv_at hl 1 rfl) (k H locs ls hP hS hl)
theorem L_aload2 (C : LCx Y) (hd : decode code pc = .ok (.aload_n 2, 1)) (k : LW Y x3 cv mv (pc + 1) (.ref (lm0 Y) :: st)) : LW Y x3 cv mv pc st := by
  obtain ⟨p, l, e, s, m, below, meth, c, D, cA, adC, adM, b, L, xs⟩ := Y
  obtain ⟨hx, hb, -⟩ := C
  exact fun H locs ls hP hS hl => lv_aload_n hx hb hd rfl (lv_at hl 2 rfl) (k H locs ls hP hS hl)
theorem L_arg (C : LCx Y) {k : Int} {kv : Int32} (hkv : Int32.ofInt k = kv) (hin : vp_in (x3 + kv) (lL Y)) (d0 : decode code pc = .ok (.aload_n 0, 1)) (d1 : decode code (pc + 1) = .ok (.iload_n 3, 1)) (d2 : decode code (pc + 2) = .ok (.iconst k, 1)) (d3 : decode code (pc + 3) = .ok (.iadd, 1)) (d4 : decode code (pc + 4) = .ok (.iaload, 1))
    (kk : LW Y x3 cv mv (pc + 5) (.int (larg Y (x3 + kv)) :: st)) : LW Y x3 cv mv pc st := by
  obtain ⟨p, l, e, s, m, below, meth, c, D, cA, adC, adM, b, L, xs⟩ := Y
  obtain ⟨hx, hb, hml, hown, hts, hret, hlk, hK, hD, hE1, hE2, hX, hbl⟩ := C
  intro H locs ls hP hS hl
  refine lv_aload_n hx hb d0 rfl (lv_at hl 0 rfl) ?_
  refine lv_iload_n hx hb d1 rfl (lv_at hl 3 rfl) ?_
  refine lv_iconst hx hb d2 hkv ?_
  refine lv_iadd hx hb d3 ?_
  exact va_sld hx hb hX hbl (Nat.not_le.mpr hbl) hS hin d4 (kk H locs ls hP hS hl)
theorem L_callC (C : LCx Y) {d' ynL idx n : Nat} {y : MethodName} {ycc : ByteArray} {yret : Option FieldType} {rv : Option Value} (CS : CSV RL idx RX5 y ycc ynL yret n) (hM : MC LC d' y ycc ynL yret (.ref 0 :: As) cv rv cv') (hd : decode code pc = .ok (.invokevirtual idx, 3)) (hn : As.length = n) (hAs : ∀ a, As.map (v_tr a) = As) (hst : st = As.reverse ++ .ref (lc0 Y) :: rest) (hcat : (rest.map fun v => v.category).sum ≤ 8) (hR : d' ≤ 1000 ∧ ynL ≤ 45)
    (k : LW Y x3 cv' mv (pc + 3) (rv.toList ++ rest)) : LW Y x3 cv mv pc st := by
  obtain ⟨p, l, e, s, m, below, meth, c, D, cA, adC, adM, b, L, xs⟩ := Y
  obtain ⟨hx, hb, hml, hown, hts, hret, hlk, hK, hD, hE1, hE2, hX, hbl⟩ := C
  intro H locs ls hP hS hl
  refine v_callR ⟨hx, hb, hml, hown, hts⟩ CS hM CF5.1 LO5 (by simp only [v_rm, room_1]; omega) hn (by rw [hAs]; exact hst) hcat hl.1 hd ⟨Nat.le_of_ble_eq_true rfl, Nat.le_of_ble_eq_true rfl⟩ hP.left (hD cv mv).left hS hK (fun _ h => h) hE1 (fun H1 locs1 hP1 hD1 hz hk hS1 => ?_)
  exact k H1 locs1 ls (two_left hP (hD cv mv) hk hP1) hS1 hl
theorem L_callM (C : LCx Y) {d' ynL idx n : Nat} {y : MethodName} {ycc : ByteArray} {yret : Option FieldType} {rv : Option Value} (CS : CSV RL idx RX6 y ycc ynL yret n) (hM : MC LM d' y ycc ynL yret (.ref 0 :: As) mv rv mv') (hd : decode code pc = .ok (.invokevirtual idx, 3)) (hn : As.length = n) (hAs : ∀ a, As.map (v_tr a) = As) (hst : st = As.reverse ++ .ref (lm0 Y) :: rest) (hcat : (rest.map fun v => v.category).sum ≤ 8) (hR : d' ≤ 1000 ∧ ynL ≤ 45)
    (k : LW Y x3 cv mv' (pc + 3) (rv.toList ++ rest)) : LW Y x3 cv mv pc st := by
  obtain ⟨p, l, e, s, m, below, meth, c, D, cA, adC, adM, b, L, xs⟩ := Y
  obtain ⟨hx, hb, hml, hown, hts, hret, hlk, hK, hD, hE1, hE2, hX, hbl⟩ := C
  intro H locs ls hP hS hl
  refine v_callR ⟨hx, hb, hml, hown, hts⟩ CS hM CF6.1 LO6 (by simp only [v_rm, room_1]; omega) hn (by rw [hAs]; exact hst) hcat hl.1 hd ⟨Nat.le_of_ble_eq_true rfl, Nat.le_of_ble_eq_true rfl⟩ hP.right (hD cv mv).right hS hK (fun _ h => h) hE2 (fun H1 locs1 hP1 hD1 hz hk hS1 => ?_)
  exact k H1 locs1 ls (two_right hP (hD cv mv) hk hP1) hS1 hl
theorem L_eq (C : LCx Y) {off : Int} {tgt : Nat} {x : Int32} (hd : decode code pc = .ok (.if_icmp .eq off, 3)) (ht : (pc : Int) + off = (tgt : Int)) (k : LW Y x3 cv mv tgt []) : LW Y x3 cv mv pc [.int x, .int x] := by
  obtain ⟨p, l, e, s, m, below, meth, c, D, cA, adC, adM, b, L, xs⟩ := Y
  obtain ⟨hx, hb, -⟩ := C
  exact fun H locs ls hP hS hl => lv_icmp_eq hx hb hd ht (fun _ => k H locs ls hP hS hl) (fun h => absurd rfl h)
theorem L_leq (C : LCx Y) {off : Int} {tgt : Nat} {x : Int64} (hd0 : decode code pc = .ok (.lcmp, 1)) (hd : decode code (pc + 1) = .ok (.ifCond .eq off, 3)) (ht : ((pc + 1 : Nat) : Int) + off = (tgt : Int)) (k : LW Y x3 cv mv tgt []) : LW Y x3 cv mv pc [.long x, .long x] := by
  obtain ⟨p, l, e, s, m, below, meth, c, D, cA, adC, adM, b, L, xs⟩ := Y
  obtain ⟨hx, hb, -⟩ := C
  exact fun H locs ls hP hS hl => W.lcmp hx hb hd0 (lv_if_eq hx hb hd ht (fun _ => k H locs ls hP hS hl) (fun h => absurd (by simp [lg_cmp, Int64.lt_irrefl]) h))
theorem L_goto (C : LCx Y) {off : Int} {tgt : Nat} (hd : decode code pc = .ok (.goto off, 3)) (ht : (pc : Int) + off = (tgt : Int)) (k : LW Y x3 cv mv tgt st) : LW Y x3 cv mv pc st := by
  obtain ⟨p, l, e, s, m, below, meth, c, D, cA, adC, adM, b, L, xs⟩ := Y
  obtain ⟨hx, hb, -⟩ := C
  exact fun H locs ls hP hS hl => lv_goto hx hb hd ht (k H locs ls hP hS hl)
end LAW
theorem law_0 {Y : lX} {x3 : Int32} {cv mv : vMH} {Rl : vMH → vMH → Prop} (C : LCx Y) (O : Ops Rl) (hR : Rl cv mv) (h1 : vp_in (x3 + 1) (lL Y)) (h2 : vp_in (x3 + 2) (lL Y)) (h3 : vp_in (x3 + 3) (lL Y)) (h4 : vp_in (x3 + 4) (lL Y)) (h5 : vp_in (x3 + 5) (lL Y)) (K : ∀ cv' mv', Rl cv' mv' → LW Y x3 cv' mv' 1083 []) : LW Y x3 cv mv 176 [] := by
  obtain ⟨x, c1, m1, e1, e2, hR1⟩ := O.1 (larg Y (x3 + 1)) (larg Y (x3 + 2)) (larg Y (x3 + 3)) cv mv hR
  refine L_aload1 (pc := 176) C dL_law_176 ?_
  refine L_arg (pc := 177) (kv := 1) C (by decide) h1 dL_law_177 dL_law_178 dL_law_179 dL_law_180 dL_law_181 ?_
  refine L_arg (pc := 182) (kv := 2) C (by decide) h2 dL_law_182 dL_law_183 dL_law_184 dL_law_185 dL_law_186 ?_
  refine L_arg (pc := 187) (kv := 3) C (by decide) h3 dL_law_187 dL_law_188 dL_law_189 dL_law_190 dL_law_191 ?_
  refine L_callC (pc := 192) (As := [.int (larg Y (x3 + 1)), .int (larg Y (x3 + 2)), .int (larg Y (x3 + 3))]) (rest := []) C cs_L_13 (mC_find _ _ _ e1) dL_law_192 rfl (fun _ => rfl) rfl (Nat.le_of_ble_eq_true rfl) ⟨by omega, by decide⟩ ?_
  show LW Y x3 c1 mv 195 [.int x]
  refine L_aload2 (pc := 195) C dL_law_195 ?_
  refine L_arg (pc := 196) (kv := 1) C (by decide) h1 dL_law_196 dL_law_197 dL_law_198 dL_law_199 dL_law_200 ?_
  refine L_arg (pc := 201) (kv := 2) C (by decide) h2 dL_law_201 dL_law_202 dL_law_203 dL_law_204 dL_law_205 ?_
  refine L_arg (pc := 206) (kv := 3) C (by decide) h3 dL_law_206 dL_law_207 dL_law_208 dL_law_209 dL_law_210 ?_
  refine L_callM (pc := 211) (As := [.int (larg Y (x3 + 1)), .int (larg Y (x3 + 2)), .int (larg Y (x3 + 3))]) (rest := [.int x]) C cs_L_17 (mM_find _ _ _ e2) dL_law_211 rfl (fun _ => rfl) rfl (Nat.le_of_ble_eq_true rfl) ⟨by omega, by decide⟩ ?_
  show LW Y x3 c1 m1 214 [.int x, .int x]
  refine L_eq (pc := 214) (tgt := 1083) C dL_law_214 (by decide) ?_
  exact K c1 m1 hR1
theorem law_1 {Y : lX} {x3 : Int32} {cv mv : vMH} {Rl : vMH → vMH → Prop} (C : LCx Y) (O : Ops Rl) (hR : Rl cv mv) (h1 : vp_in (x3 + 1) (lL Y)) (h2 : vp_in (x3 + 2) (lL Y)) (h3 : vp_in (x3 + 3) (lL Y)) (h4 : vp_in (x3 + 4) (lL Y)) (h5 : vp_in (x3 + 5) (lL Y)) (K : ∀ cv' mv', Rl cv' mv' → LW Y x3 cv' mv' 1083 []) : LW Y x3 cv mv 219 [] := by
  obtain ⟨x, c1, m1, e1, e2, hR1⟩ := O.2.1 (larg Y (x3 + 1)) (larg Y (x3 + 2)) (larg Y (x3 + 3)) cv mv hR
  refine L_aload1 (pc := 219) C dL_law_219 ?_
  refine L_arg (pc := 220) (kv := 1) C (by decide) h1 dL_law_220 dL_law_221 dL_law_222 dL_law_223 dL_law_224 ?_
  refine L_arg (pc := 225) (kv := 2) C (by decide) h2 dL_law_225 dL_law_226 dL_law_227 dL_law_228 dL_law_229 ?_
  refine L_arg (pc := 230) (kv := 3) C (by decide) h3 dL_law_230 dL_law_231 dL_law_232 dL_law_233 dL_law_234 ?_
  refine L_callC (pc := 235) (As := [.int (larg Y (x3 + 1)), .int (larg Y (x3 + 2)), .int (larg Y (x3 + 3))]) (rest := []) C cs_L_18 (mC_set _ _ _ e1) dL_law_235 rfl (fun _ => rfl) rfl (Nat.le_of_ble_eq_true rfl) ⟨by omega, by decide⟩ ?_
  show LW Y x3 c1 mv 238 [.int x]
  refine L_aload2 (pc := 238) C dL_law_238 ?_
  refine L_arg (pc := 239) (kv := 1) C (by decide) h1 dL_law_239 dL_law_240 dL_law_241 dL_law_242 dL_law_243 ?_
  refine L_arg (pc := 244) (kv := 2) C (by decide) h2 dL_law_244 dL_law_245 dL_law_246 dL_law_247 dL_law_248 ?_
  refine L_arg (pc := 249) (kv := 3) C (by decide) h3 dL_law_249 dL_law_250 dL_law_251 dL_law_252 dL_law_253 ?_
  refine L_callM (pc := 254) (As := [.int (larg Y (x3 + 1)), .int (larg Y (x3 + 2)), .int (larg Y (x3 + 3))]) (rest := [.int x]) C cs_L_21 (mM_set _ _ _ e2) dL_law_254 rfl (fun _ => rfl) rfl (Nat.le_of_ble_eq_true rfl) ⟨by omega, by decide⟩ ?_
  show LW Y x3 c1 m1 257 [.int x, .int x]
  refine L_eq (pc := 257) (tgt := 1083) C dL_law_257 (by decide) ?_
  exact K c1 m1 hR1
theorem law_2 {Y : lX} {x3 : Int32} {cv mv : vMH} {Rl : vMH → vMH → Prop} (C : LCx Y) (O : Ops Rl) (hR : Rl cv mv) (h1 : vp_in (x3 + 1) (lL Y)) (h2 : vp_in (x3 + 2) (lL Y)) (h3 : vp_in (x3 + 3) (lL Y)) (h4 : vp_in (x3 + 4) (lL Y)) (h5 : vp_in (x3 + 5) (lL Y)) (K : ∀ cv' mv', Rl cv' mv' → LW Y x3 cv' mv' 1083 []) : LW Y x3 cv mv 262 [] := by
  obtain ⟨x, c1, m1, e1, e2, hR1⟩ := O.2.2.1 (larg Y (x3 + 1)) (larg Y (x3 + 2)) cv mv hR
  refine L_aload1 (pc := 262) C dL_law_262 ?_
  refine L_arg (pc := 263) (kv := 1) C (by decide) h1 dL_law_263 dL_law_264 dL_law_265 dL_law_266 dL_law_267 ?_
  refine L_arg (pc := 268) (kv := 2) C (by decide) h2 dL_law_268 dL_law_269 dL_law_270 dL_law_271 dL_law_272 ?_
  refine L_callC (pc := 273) (As := [.int (larg Y (x3 + 1)), .int (larg Y (x3 + 2))]) (rest := []) C cs_L_22 (mC_told _ _ e1) dL_law_273 rfl (fun _ => rfl) rfl (Nat.le_of_ble_eq_true rfl) ⟨by omega, by decide⟩ ?_
  show LW Y x3 c1 mv 276 [.int x]
  refine L_aload2 (pc := 276) C dL_law_276 ?_
  refine L_arg (pc := 277) (kv := 1) C (by decide) h1 dL_law_277 dL_law_278 dL_law_279 dL_law_280 dL_law_281 ?_
  refine L_arg (pc := 282) (kv := 2) C (by decide) h2 dL_law_282 dL_law_283 dL_law_284 dL_law_285 dL_law_286 ?_
  refine L_callM (pc := 287) (As := [.int (larg Y (x3 + 1)), .int (larg Y (x3 + 2))]) (rest := [.int x]) C cs_L_26 (mM_told _ _ e2) dL_law_287 rfl (fun _ => rfl) rfl (Nat.le_of_ble_eq_true rfl) ⟨by omega, by decide⟩ ?_
  show LW Y x3 c1 m1 290 [.int x, .int x]
  refine L_eq (pc := 290) (tgt := 1083) C dL_law_290 (by decide) ?_
  exact K c1 m1 hR1
theorem law_3 {Y : lX} {x3 : Int32} {cv mv : vMH} {Rl : vMH → vMH → Prop} (C : LCx Y) (O : Ops Rl) (hR : Rl cv mv) (h1 : vp_in (x3 + 1) (lL Y)) (h2 : vp_in (x3 + 2) (lL Y)) (h3 : vp_in (x3 + 3) (lL Y)) (h4 : vp_in (x3 + 4) (lL Y)) (h5 : vp_in (x3 + 5) (lL Y)) (K : ∀ cv' mv', Rl cv' mv' → LW Y x3 cv' mv' 1083 []) : LW Y x3 cv mv 295 [] := by
  obtain ⟨x, c1, m1, e1, e2, hR1⟩ := O.2.2.2.1 (larg Y (x3 + 1)) cv mv hR
  refine L_aload1 (pc := 295) C dL_law_295 ?_
  refine L_arg (pc := 296) (kv := 1) C (by decide) h1 dL_law_296 dL_law_297 dL_law_298 dL_law_299 dL_law_300 ?_
  refine L_callC (pc := 301) (As := [.int (larg Y (x3 + 1))]) (rest := []) C cs_L_27 (mC_feed _ e1) dL_law_301 rfl (fun _ => rfl) rfl (Nat.le_of_ble_eq_true rfl) ⟨by omega, by decide⟩ ?_
  show LW Y x3 c1 mv 304 [.int x]
  refine L_aload2 (pc := 304) C dL_law_304 ?_
  refine L_arg (pc := 305) (kv := 1) C (by decide) h1 dL_law_305 dL_law_306 dL_law_307 dL_law_308 dL_law_309 ?_
  refine L_callM (pc := 310) (As := [.int (larg Y (x3 + 1))]) (rest := [.int x]) C cs_L_31 (mM_feed _ e2) dL_law_310 rfl (fun _ => rfl) rfl (Nat.le_of_ble_eq_true rfl) ⟨by omega, by decide⟩ ?_
  show LW Y x3 c1 m1 313 [.int x, .int x]
  refine L_eq (pc := 313) (tgt := 1083) C dL_law_313 (by decide) ?_
  exact K c1 m1 hR1
theorem law_4 {Y : lX} {x3 : Int32} {cv mv : vMH} {Rl : vMH → vMH → Prop} (C : LCx Y) (O : Ops Rl) (hR : Rl cv mv) (h1 : vp_in (x3 + 1) (lL Y)) (h2 : vp_in (x3 + 2) (lL Y)) (h3 : vp_in (x3 + 3) (lL Y)) (h4 : vp_in (x3 + 4) (lL Y)) (h5 : vp_in (x3 + 5) (lL Y)) (K : ∀ cv' mv', Rl cv' mv' → LW Y x3 cv' mv' 1083 []) : LW Y x3 cv mv 318 [] := by
  obtain ⟨x, c1, m1, e1, e2, hR1⟩ := O.2.2.2.2.1 cv mv hR
  refine L_aload1 (pc := 318) C dL_law_318 ?_
  refine L_callC (pc := 319) (As := []) (rest := []) C cs_L_32 (mC_text e1) dL_law_319 rfl (fun _ => rfl) rfl (Nat.le_of_ble_eq_true rfl) ⟨by omega, by decide⟩ ?_
  show LW Y x3 c1 mv 322 [.int x]
  refine L_aload2 (pc := 322) C dL_law_322 ?_
  refine L_callM (pc := 323) (As := []) (rest := [.int x]) C cs_L_36 (mM_text e2) dL_law_323 rfl (fun _ => rfl) rfl (Nat.le_of_ble_eq_true rfl) ⟨by omega, by decide⟩ ?_
  show LW Y x3 c1 m1 326 [.int x, .int x]
  refine L_eq (pc := 326) (tgt := 1083) C dL_law_326 (by decide) ?_
  exact K c1 m1 hR1
theorem law_5 {Y : lX} {x3 : Int32} {cv mv : vMH} {Rl : vMH → vMH → Prop} (C : LCx Y) (O : Ops Rl) (hR : Rl cv mv) (h1 : vp_in (x3 + 1) (lL Y)) (h2 : vp_in (x3 + 2) (lL Y)) (h3 : vp_in (x3 + 3) (lL Y)) (h4 : vp_in (x3 + 4) (lL Y)) (h5 : vp_in (x3 + 5) (lL Y)) (K : ∀ cv' mv', Rl cv' mv' → LW Y x3 cv' mv' 1083 []) : LW Y x3 cv mv 331 [] := by
  obtain ⟨x, c1, m1, e1, e2, hR1⟩ := O.2.2.2.2.2.1 (larg Y (x3 + 1)) cv mv hR
  refine L_aload1 (pc := 331) C dL_law_331 ?_
  refine L_arg (pc := 332) (kv := 1) C (by decide) h1 dL_law_332 dL_law_333 dL_law_334 dL_law_335 dL_law_336 ?_
  refine L_callC (pc := 337) (As := [.int (larg Y (x3 + 1))]) (rest := []) C cs_L_37 (mC_force _ e1) dL_law_337 rfl (fun _ => rfl) rfl (Nat.le_of_ble_eq_true rfl) ⟨by omega, by decide⟩ ?_
  show LW Y x3 c1 mv 340 [.int x]
  refine L_aload2 (pc := 340) C dL_law_340 ?_
  refine L_arg (pc := 341) (kv := 1) C (by decide) h1 dL_law_341 dL_law_342 dL_law_343 dL_law_344 dL_law_345 ?_
  refine L_callM (pc := 346) (As := [.int (larg Y (x3 + 1))]) (rest := [.int x]) C cs_L_40 (mM_force _ e2) dL_law_346 rfl (fun _ => rfl) rfl (Nat.le_of_ble_eq_true rfl) ⟨by omega, by decide⟩ ?_
  show LW Y x3 c1 m1 349 [.int x, .int x]
  refine L_eq (pc := 349) (tgt := 1083) C dL_law_349 (by decide) ?_
  exact K c1 m1 hR1
theorem law_6 {Y : lX} {x3 : Int32} {cv mv : vMH} {Rl : vMH → vMH → Prop} (C : LCx Y) (O : Ops Rl) (hR : Rl cv mv) (h1 : vp_in (x3 + 1) (lL Y)) (h2 : vp_in (x3 + 2) (lL Y)) (h3 : vp_in (x3 + 3) (lL Y)) (h4 : vp_in (x3 + 4) (lL Y)) (h5 : vp_in (x3 + 5) (lL Y)) (K : ∀ cv' mv', Rl cv' mv' → LW Y x3 cv' mv' 1083 []) : LW Y x3 cv mv 354 [] := by
  obtain ⟨x, c1, m1, e1, e2, hR1⟩ := O.2.2.2.2.2.2.1 (larg Y (x3 + 1)) cv mv hR
  refine L_aload1 (pc := 354) C dL_law_354 ?_
  refine L_arg (pc := 355) (kv := 1) C (by decide) h1 dL_law_355 dL_law_356 dL_law_357 dL_law_358 dL_law_359 ?_
  refine L_callC (pc := 360) (As := [.int (larg Y (x3 + 1))]) (rest := []) C cs_L_41 (mC_beep _ e1) dL_law_360 rfl (fun _ => rfl) rfl (Nat.le_of_ble_eq_true rfl) ⟨by omega, by decide⟩ ?_
  show LW Y x3 c1 mv 363 [.int x]
  refine L_aload2 (pc := 363) C dL_law_363 ?_
  refine L_arg (pc := 364) (kv := 1) C (by decide) h1 dL_law_364 dL_law_365 dL_law_366 dL_law_367 dL_law_368 ?_
  refine L_callM (pc := 369) (As := [.int (larg Y (x3 + 1))]) (rest := [.int x]) C cs_L_44 (mM_beep _ e2) dL_law_369 rfl (fun _ => rfl) rfl (Nat.le_of_ble_eq_true rfl) ⟨by omega, by decide⟩ ?_
  show LW Y x3 c1 m1 372 [.int x, .int x]
  refine L_eq (pc := 372) (tgt := 1083) C dL_law_372 (by decide) ?_
  exact K c1 m1 hR1
theorem law_7 {Y : lX} {x3 : Int32} {cv mv : vMH} {Rl : vMH → vMH → Prop} (C : LCx Y) (O : Ops Rl) (hR : Rl cv mv) (h1 : vp_in (x3 + 1) (lL Y)) (h2 : vp_in (x3 + 2) (lL Y)) (h3 : vp_in (x3 + 3) (lL Y)) (h4 : vp_in (x3 + 4) (lL Y)) (h5 : vp_in (x3 + 5) (lL Y)) (K : ∀ cv' mv', Rl cv' mv' → LW Y x3 cv' mv' 1083 []) : LW Y x3 cv mv 377 [] := by
  obtain ⟨x, c1, m1, e1, e2, hR1⟩ := O.2.2.2.2.2.2.2.1 (larg Y (x3 + 1)) cv mv hR
  refine L_aload1 (pc := 377) C dL_law_377 ?_
  refine L_arg (pc := 378) (kv := 1) C (by decide) h1 dL_law_378 dL_law_379 dL_law_380 dL_law_381 dL_law_382 ?_
  refine L_callC (pc := 383) (As := [.int (larg Y (x3 + 1))]) (rest := []) C cs_L_45 (mC_walk _ e1) dL_law_383 rfl (fun _ => rfl) rfl (Nat.le_of_ble_eq_true rfl) ⟨by omega, by decide⟩ ?_
  show LW Y x3 c1 mv 386 [.int x]
  refine L_aload2 (pc := 386) C dL_law_386 ?_
  refine L_arg (pc := 387) (kv := 1) C (by decide) h1 dL_law_387 dL_law_388 dL_law_389 dL_law_390 dL_law_391 ?_
  refine L_callM (pc := 392) (As := [.int (larg Y (x3 + 1))]) (rest := [.int x]) C cs_L_48 (mM_walk _ e2) dL_law_392 rfl (fun _ => rfl) rfl (Nat.le_of_ble_eq_true rfl) ⟨by omega, by decide⟩ ?_
  show LW Y x3 c1 m1 395 [.int x, .int x]
  refine L_eq (pc := 395) (tgt := 1083) C dL_law_395 (by decide) ?_
  exact K c1 m1 hR1
theorem law_8 {Y : lX} {x3 : Int32} {cv mv : vMH} {Rl : vMH → vMH → Prop} (C : LCx Y) (O : Ops Rl) (hR : Rl cv mv) (h1 : vp_in (x3 + 1) (lL Y)) (h2 : vp_in (x3 + 2) (lL Y)) (h3 : vp_in (x3 + 3) (lL Y)) (h4 : vp_in (x3 + 4) (lL Y)) (h5 : vp_in (x3 + 5) (lL Y)) (K : ∀ cv' mv', Rl cv' mv' → LW Y x3 cv' mv' 1083 []) : LW Y x3 cv mv 400 [] := by
  obtain ⟨x, c1, m1, e1, e2, hR1⟩ := O.2.2.2.2.2.2.2.2.1 cv mv hR
  refine L_aload1 (pc := 400) C dL_law_400 ?_
  refine L_callC (pc := 401) (As := []) (rest := []) C cs_L_49 (mC_plough e1) dL_law_401 rfl (fun _ => rfl) rfl (Nat.le_of_ble_eq_true rfl) ⟨by omega, by decide⟩ ?_
  show LW Y x3 c1 mv 404 [.int x]
  refine L_aload2 (pc := 404) C dL_law_404 ?_
  refine L_callM (pc := 405) (As := []) (rest := [.int x]) C cs_L_52 (mM_plough e2) dL_law_405 rfl (fun _ => rfl) rfl (Nat.le_of_ble_eq_true rfl) ⟨by omega, by decide⟩ ?_
  show LW Y x3 c1 m1 408 [.int x, .int x]
  refine L_eq (pc := 408) (tgt := 1083) C dL_law_408 (by decide) ?_
  exact K c1 m1 hR1
theorem law_9 {Y : lX} {x3 : Int32} {cv mv : vMH} {Rl : vMH → vMH → Prop} (C : LCx Y) (O : Ops Rl) (hR : Rl cv mv) (h1 : vp_in (x3 + 1) (lL Y)) (h2 : vp_in (x3 + 2) (lL Y)) (h3 : vp_in (x3 + 3) (lL Y)) (h4 : vp_in (x3 + 4) (lL Y)) (h5 : vp_in (x3 + 5) (lL Y)) (K : ∀ cv' mv', Rl cv' mv' → LW Y x3 cv' mv' 1083 []) : LW Y x3 cv mv 413 [] := by
  obtain ⟨x, c1, m1, e1, e2, hR1⟩ := O.2.2.2.2.2.2.2.2.2.1 (larg Y (x3 + 1)) (larg Y (x3 + 2)) cv mv hR
  refine L_aload1 (pc := 413) C dL_law_413 ?_
  refine L_arg (pc := 414) (kv := 1) C (by decide) h1 dL_law_414 dL_law_415 dL_law_416 dL_law_417 dL_law_418 ?_
  refine L_arg (pc := 419) (kv := 2) C (by decide) h2 dL_law_419 dL_law_420 dL_law_421 dL_law_422 dL_law_423 ?_
  refine L_callC (pc := 424) (As := [.int (larg Y (x3 + 1)), .int (larg Y (x3 + 2))]) (rest := []) C cs_L_53 (mC_found _ _ e1) dL_law_424 rfl (fun _ => rfl) rfl (Nat.le_of_ble_eq_true rfl) ⟨by omega, by decide⟩ ?_
  show LW Y x3 c1 mv 427 [.int x]
  refine L_aload2 (pc := 427) C dL_law_427 ?_
  refine L_arg (pc := 428) (kv := 1) C (by decide) h1 dL_law_428 dL_law_429 dL_law_430 dL_law_431 dL_law_432 ?_
  refine L_arg (pc := 433) (kv := 2) C (by decide) h2 dL_law_433 dL_law_434 dL_law_435 dL_law_436 dL_law_437 ?_
  refine L_callM (pc := 438) (As := [.int (larg Y (x3 + 1)), .int (larg Y (x3 + 2))]) (rest := [.int x]) C cs_L_56 (mM_found _ _ e2) dL_law_438 rfl (fun _ => rfl) rfl (Nat.le_of_ble_eq_true rfl) ⟨by omega, by decide⟩ ?_
  show LW Y x3 c1 m1 441 [.int x, .int x]
  refine L_eq (pc := 441) (tgt := 1083) C dL_law_441 (by decide) ?_
  exact K c1 m1 hR1
theorem law_10 {Y : lX} {x3 : Int32} {cv mv : vMH} {Rl : vMH → vMH → Prop} (C : LCx Y) (O : Ops Rl) (hR : Rl cv mv) (h1 : vp_in (x3 + 1) (lL Y)) (h2 : vp_in (x3 + 2) (lL Y)) (h3 : vp_in (x3 + 3) (lL Y)) (h4 : vp_in (x3 + 4) (lL Y)) (h5 : vp_in (x3 + 5) (lL Y)) (K : ∀ cv' mv', Rl cv' mv' → LW Y x3 cv' mv' 1083 []) : LW Y x3 cv mv 446 [] := by
  obtain ⟨x, c1, m1, e1, e2, hR1⟩ := O.2.2.2.2.2.2.2.2.2.2.1 (larg Y (x3 + 1)) cv mv hR
  refine L_aload1 (pc := 446) C dL_law_446 ?_
  refine L_arg (pc := 447) (kv := 1) C (by decide) h1 dL_law_447 dL_law_448 dL_law_449 dL_law_450 dL_law_451 ?_
  refine L_callC (pc := 452) (As := [.int (larg Y (x3 + 1))]) (rest := []) C cs_L_57 (mC_years _ e1) dL_law_452 rfl (fun _ => rfl) rfl (Nat.le_of_ble_eq_true rfl) ⟨by omega, by decide⟩ ?_
  show LW Y x3 c1 mv 455 [.int x]
  refine L_aload2 (pc := 455) C dL_law_455 ?_
  refine L_arg (pc := 456) (kv := 1) C (by decide) h1 dL_law_456 dL_law_457 dL_law_458 dL_law_459 dL_law_460 ?_
  refine L_callM (pc := 461) (As := [.int (larg Y (x3 + 1))]) (rest := [.int x]) C cs_L_60 (mM_years _ e2) dL_law_461 rfl (fun _ => rfl) rfl (Nat.le_of_ble_eq_true rfl) ⟨by omega, by decide⟩ ?_
  show LW Y x3 c1 m1 464 [.int x, .int x]
  refine L_eq (pc := 464) (tgt := 1083) C dL_law_464 (by decide) ?_
  exact K c1 m1 hR1
theorem law_11 {Y : lX} {x3 : Int32} {cv mv : vMH} {Rl : vMH → vMH → Prop} (C : LCx Y) (O : Ops Rl) (hR : Rl cv mv) (h1 : vp_in (x3 + 1) (lL Y)) (h2 : vp_in (x3 + 2) (lL Y)) (h3 : vp_in (x3 + 3) (lL Y)) (h4 : vp_in (x3 + 4) (lL Y)) (h5 : vp_in (x3 + 5) (lL Y)) (K : ∀ cv' mv', Rl cv' mv' → LW Y x3 cv' mv' 1083 []) : LW Y x3 cv mv 469 [] := by
  obtain ⟨x, c1, m1, e1, e2, hR1⟩ := O.2.2.2.2.2.2.2.2.2.2.2.1 (larg Y (x3 + 1)) cv mv hR
  refine L_aload1 (pc := 469) C dL_law_469 ?_
  refine L_arg (pc := 470) (kv := 1) C (by decide) h1 dL_law_470 dL_law_471 dL_law_472 dL_law_473 dL_law_474 ?_
  refine L_callC (pc := 475) (As := [.int (larg Y (x3 + 1))]) (rest := []) C cs_L_61 (mC_soonest _ e1) dL_law_475 rfl (fun _ => rfl) rfl (Nat.le_of_ble_eq_true rfl) ⟨by omega, by decide⟩ ?_
  show LW Y x3 c1 mv 478 [.int x]
  refine L_aload2 (pc := 478) C dL_law_478 ?_
  refine L_arg (pc := 479) (kv := 1) C (by decide) h1 dL_law_479 dL_law_480 dL_law_481 dL_law_482 dL_law_483 ?_
  refine L_callM (pc := 484) (As := [.int (larg Y (x3 + 1))]) (rest := [.int x]) C cs_L_64 (mM_soonest _ e2) dL_law_484 rfl (fun _ => rfl) rfl (Nat.le_of_ble_eq_true rfl) ⟨by omega, by decide⟩ ?_
  show LW Y x3 c1 m1 487 [.int x, .int x]
  refine L_eq (pc := 487) (tgt := 1083) C dL_law_487 (by decide) ?_
  exact K c1 m1 hR1
theorem law_12 {Y : lX} {x3 : Int32} {cv mv : vMH} {Rl : vMH → vMH → Prop} (C : LCx Y) (O : Ops Rl) (hR : Rl cv mv) (h1 : vp_in (x3 + 1) (lL Y)) (h2 : vp_in (x3 + 2) (lL Y)) (h3 : vp_in (x3 + 3) (lL Y)) (h4 : vp_in (x3 + 4) (lL Y)) (h5 : vp_in (x3 + 5) (lL Y)) (K : ∀ cv' mv', Rl cv' mv' → LW Y x3 cv' mv' 1083 []) : LW Y x3 cv mv 492 [] := by
  obtain ⟨x, c1, m1, e1, e2, hR1⟩ := O.2.2.2.2.2.2.2.2.2.2.2.2.1 (larg Y (x3 + 1)) (larg Y (x3 + 2)) cv mv hR
  refine L_aload1 (pc := 492) C dL_law_492 ?_
  refine L_arg (pc := 493) (kv := 1) C (by decide) h1 dL_law_493 dL_law_494 dL_law_495 dL_law_496 dL_law_497 ?_
  refine L_arg (pc := 498) (kv := 2) C (by decide) h2 dL_law_498 dL_law_499 dL_law_500 dL_law_501 dL_law_502 ?_
  refine L_callC (pc := 503) (As := [.int (larg Y (x3 + 1)), .int (larg Y (x3 + 2))]) (rest := []) C cs_L_65 (mC_strips _ _ e1) dL_law_503 rfl (fun _ => rfl) rfl (Nat.le_of_ble_eq_true rfl) ⟨by omega, by decide⟩ ?_
  show LW Y x3 c1 mv 506 [.int x]
  refine L_aload2 (pc := 506) C dL_law_506 ?_
  refine L_arg (pc := 507) (kv := 1) C (by decide) h1 dL_law_507 dL_law_508 dL_law_509 dL_law_510 dL_law_511 ?_
  refine L_arg (pc := 512) (kv := 2) C (by decide) h2 dL_law_512 dL_law_513 dL_law_514 dL_law_515 dL_law_516 ?_
  refine L_callM (pc := 517) (As := [.int (larg Y (x3 + 1)), .int (larg Y (x3 + 2))]) (rest := [.int x]) C cs_L_68 (mM_strips _ _ e2) dL_law_517 rfl (fun _ => rfl) rfl (Nat.le_of_ble_eq_true rfl) ⟨by omega, by decide⟩ ?_
  show LW Y x3 c1 m1 520 [.int x, .int x]
  refine L_eq (pc := 520) (tgt := 1083) C dL_law_520 (by decide) ?_
  exact K c1 m1 hR1
theorem law_13 {Y : lX} {x3 : Int32} {cv mv : vMH} {Rl : vMH → vMH → Prop} (C : LCx Y) (O : Ops Rl) (hR : Rl cv mv) (h1 : vp_in (x3 + 1) (lL Y)) (h2 : vp_in (x3 + 2) (lL Y)) (h3 : vp_in (x3 + 3) (lL Y)) (h4 : vp_in (x3 + 4) (lL Y)) (h5 : vp_in (x3 + 5) (lL Y)) (K : ∀ cv' mv', Rl cv' mv' → LW Y x3 cv' mv' 1083 []) : LW Y x3 cv mv 525 [] := by
  obtain ⟨x, c1, m1, e1, e2, hR1⟩ := O.2.2.2.2.2.2.2.2.2.2.2.2.2.1 cv mv hR
  refine L_aload1 (pc := 525) C dL_law_525 ?_
  refine L_callC (pc := 526) (As := []) (rest := []) C cs_L_69 (mC_better e1) dL_law_526 rfl (fun _ => rfl) rfl (Nat.le_of_ble_eq_true rfl) ⟨by omega, by decide⟩ ?_
  show LW Y x3 c1 mv 529 [.int x]
  refine L_aload2 (pc := 529) C dL_law_529 ?_
  refine L_callM (pc := 530) (As := []) (rest := [.int x]) C cs_L_72 (mM_better e2) dL_law_530 rfl (fun _ => rfl) rfl (Nat.le_of_ble_eq_true rfl) ⟨by omega, by decide⟩ ?_
  show LW Y x3 c1 m1 533 [.int x, .int x]
  refine L_eq (pc := 533) (tgt := 1083) C dL_law_533 (by decide) ?_
  exact K c1 m1 hR1
theorem law_14 {Y : lX} {x3 : Int32} {cv mv : vMH} {Rl : vMH → vMH → Prop} (C : LCx Y) (O : Ops Rl) (hR : Rl cv mv) (h1 : vp_in (x3 + 1) (lL Y)) (h2 : vp_in (x3 + 2) (lL Y)) (h3 : vp_in (x3 + 3) (lL Y)) (h4 : vp_in (x3 + 4) (lL Y)) (h5 : vp_in (x3 + 5) (lL Y)) (K : ∀ cv' mv', Rl cv' mv' → LW Y x3 cv' mv' 1083 []) : LW Y x3 cv mv 538 [] := by
  obtain ⟨x, c1, m1, e1, e2, hR1⟩ := O.2.2.2.2.2.2.2.2.2.2.2.2.2.2.1 (larg Y (x3 + 1)) (larg Y (x3 + 2)) cv mv hR
  refine L_aload1 (pc := 538) C dL_law_538 ?_
  refine L_arg (pc := 539) (kv := 1) C (by decide) h1 dL_law_539 dL_law_540 dL_law_541 dL_law_542 dL_law_543 ?_
  refine L_arg (pc := 544) (kv := 2) C (by decide) h2 dL_law_544 dL_law_545 dL_law_546 dL_law_547 dL_law_548 ?_
  refine L_callC (pc := 549) (As := [.int (larg Y (x3 + 1)), .int (larg Y (x3 + 2))]) (rest := []) C cs_L_73 (mC_order _ _ e1) dL_law_549 rfl (fun _ => rfl) rfl (Nat.le_of_ble_eq_true rfl) ⟨by omega, by decide⟩ ?_
  show LW Y x3 c1 mv 552 [.int x]
  refine L_aload2 (pc := 552) C dL_law_552 ?_
  refine L_arg (pc := 553) (kv := 1) C (by decide) h1 dL_law_553 dL_law_554 dL_law_555 dL_law_556 dL_law_557 ?_
  refine L_arg (pc := 558) (kv := 2) C (by decide) h2 dL_law_558 dL_law_559 dL_law_560 dL_law_561 dL_law_562 ?_
  refine L_callM (pc := 563) (As := [.int (larg Y (x3 + 1)), .int (larg Y (x3 + 2))]) (rest := [.int x]) C cs_L_76 (mM_order _ _ e2) dL_law_563 rfl (fun _ => rfl) rfl (Nat.le_of_ble_eq_true rfl) ⟨by omega, by decide⟩ ?_
  show LW Y x3 c1 m1 566 [.int x, .int x]
  refine L_eq (pc := 566) (tgt := 1083) C dL_law_566 (by decide) ?_
  exact K c1 m1 hR1
theorem law_15 {Y : lX} {x3 : Int32} {cv mv : vMH} {Rl : vMH → vMH → Prop} (C : LCx Y) (O : Ops Rl) (hR : Rl cv mv) (h1 : vp_in (x3 + 1) (lL Y)) (h2 : vp_in (x3 + 2) (lL Y)) (h3 : vp_in (x3 + 3) (lL Y)) (h4 : vp_in (x3 + 4) (lL Y)) (h5 : vp_in (x3 + 5) (lL Y)) (K : ∀ cv' mv', Rl cv' mv' → LW Y x3 cv' mv' 1083 []) : LW Y x3 cv mv 571 [] := by
  obtain ⟨x, c1, m1, e1, e2, hR1⟩ := O.2.2.2.2.2.2.2.2.2.2.2.2.2.2.2.1 cv mv hR
  refine L_aload1 (pc := 571) C dL_law_571 ?_
  refine L_callC (pc := 572) (As := []) (rest := []) C cs_L_77 (mC_pot e1) dL_law_572 rfl (fun _ => rfl) rfl (Nat.le_of_ble_eq_true rfl) ⟨by omega, by decide⟩ ?_
  show LW Y x3 c1 mv 575 [.int x]
  refine L_aload2 (pc := 575) C dL_law_575 ?_
  refine L_callM (pc := 576) (As := []) (rest := [.int x]) C cs_L_80 (mM_pot e2) dL_law_576 rfl (fun _ => rfl) rfl (Nat.le_of_ble_eq_true rfl) ⟨by omega, by decide⟩ ?_
  show LW Y x3 c1 m1 579 [.int x, .int x]
  refine L_eq (pc := 579) (tgt := 1083) C dL_law_579 (by decide) ?_
  exact K c1 m1 hR1
theorem law_16 {Y : lX} {x3 : Int32} {cv mv : vMH} {Rl : vMH → vMH → Prop} (C : LCx Y) (O : Ops Rl) (hR : Rl cv mv) (h1 : vp_in (x3 + 1) (lL Y)) (h2 : vp_in (x3 + 2) (lL Y)) (h3 : vp_in (x3 + 3) (lL Y)) (h4 : vp_in (x3 + 4) (lL Y)) (h5 : vp_in (x3 + 5) (lL Y)) (K : ∀ cv' mv', Rl cv' mv' → LW Y x3 cv' mv' 1083 []) : LW Y x3 cv mv 584 [] := by
  obtain ⟨x, c1, m1, e1, e2, hR1⟩ := O.2.2.2.2.2.2.2.2.2.2.2.2.2.2.2.2.1 (larg Y (x3 + 1)) (larg Y (x3 + 2)) cv mv hR
  refine L_aload1 (pc := 584) C dL_law_584 ?_
  refine L_arg (pc := 585) (kv := 1) C (by decide) h1 dL_law_585 dL_law_586 dL_law_587 dL_law_588 dL_law_589 ?_
  refine L_arg (pc := 590) (kv := 2) C (by decide) h2 dL_law_590 dL_law_591 dL_law_592 dL_law_593 dL_law_594 ?_
  refine L_callC (pc := 595) (As := [.int (larg Y (x3 + 1)), .int (larg Y (x3 + 2))]) (rest := []) C cs_L_81 (mC_came _ _ e1) dL_law_595 rfl (fun _ => rfl) rfl (Nat.le_of_ble_eq_true rfl) ⟨by omega, by decide⟩ ?_
  show LW Y x3 c1 mv 598 [.int x]
  refine L_aload2 (pc := 598) C dL_law_598 ?_
  refine L_arg (pc := 599) (kv := 1) C (by decide) h1 dL_law_599 dL_law_600 dL_law_601 dL_law_602 dL_law_603 ?_
  refine L_arg (pc := 604) (kv := 2) C (by decide) h2 dL_law_604 dL_law_605 dL_law_606 dL_law_607 dL_law_608 ?_
  refine L_callM (pc := 609) (As := [.int (larg Y (x3 + 1)), .int (larg Y (x3 + 2))]) (rest := [.int x]) C cs_L_84 (mM_came _ _ e2) dL_law_609 rfl (fun _ => rfl) rfl (Nat.le_of_ble_eq_true rfl) ⟨by omega, by decide⟩ ?_
  show LW Y x3 c1 m1 612 [.int x, .int x]
  refine L_eq (pc := 612) (tgt := 1083) C dL_law_612 (by decide) ?_
  exact K c1 m1 hR1
theorem law_17 {Y : lX} {x3 : Int32} {cv mv : vMH} {Rl : vMH → vMH → Prop} (C : LCx Y) (O : Ops Rl) (hR : Rl cv mv) (h1 : vp_in (x3 + 1) (lL Y)) (h2 : vp_in (x3 + 2) (lL Y)) (h3 : vp_in (x3 + 3) (lL Y)) (h4 : vp_in (x3 + 4) (lL Y)) (h5 : vp_in (x3 + 5) (lL Y)) (K : ∀ cv' mv', Rl cv' mv' → LW Y x3 cv' mv' 1083 []) : LW Y x3 cv mv 617 [] := by
  obtain ⟨x, c1, m1, e1, e2, hR1⟩ := O.2.2.2.2.2.2.2.2.2.2.2.2.2.2.2.2.2.1 (larg Y (x3 + 1)) cv mv hR
  refine L_aload1 (pc := 617) C dL_law_617 ?_
  refine L_arg (pc := 618) (kv := 1) C (by decide) h1 dL_law_618 dL_law_619 dL_law_620 dL_law_621 dL_law_622 ?_
  refine L_callC (pc := 623) (As := [.int (larg Y (x3 + 1))]) (rest := []) C cs_L_85 (mC_dots _ e1) dL_law_623 rfl (fun _ => rfl) rfl (Nat.le_of_ble_eq_true rfl) ⟨by omega, by decide⟩ ?_
  show LW Y x3 c1 mv 626 [.int x]
  refine L_aload2 (pc := 626) C dL_law_626 ?_
  refine L_arg (pc := 627) (kv := 1) C (by decide) h1 dL_law_627 dL_law_628 dL_law_629 dL_law_630 dL_law_631 ?_
  refine L_callM (pc := 632) (As := [.int (larg Y (x3 + 1))]) (rest := [.int x]) C cs_L_88 (mM_dots _ e2) dL_law_632 rfl (fun _ => rfl) rfl (Nat.le_of_ble_eq_true rfl) ⟨by omega, by decide⟩ ?_
  show LW Y x3 c1 m1 635 [.int x, .int x]
  refine L_eq (pc := 635) (tgt := 1083) C dL_law_635 (by decide) ?_
  exact K c1 m1 hR1
theorem law_18 {Y : lX} {x3 : Int32} {cv mv : vMH} {Rl : vMH → vMH → Prop} (C : LCx Y) (O : Ops Rl) (hR : Rl cv mv) (h1 : vp_in (x3 + 1) (lL Y)) (h2 : vp_in (x3 + 2) (lL Y)) (h3 : vp_in (x3 + 3) (lL Y)) (h4 : vp_in (x3 + 4) (lL Y)) (h5 : vp_in (x3 + 5) (lL Y)) (K : ∀ cv' mv', Rl cv' mv' → LW Y x3 cv' mv' 1083 []) : LW Y x3 cv mv 640 [] := by
  obtain ⟨x, c1, m1, e1, e2, hR1⟩ := O.2.2.2.2.2.2.2.2.2.2.2.2.2.2.2.2.2.2.1 cv mv hR
  refine L_aload1 (pc := 640) C dL_law_640 ?_
  refine L_callC (pc := 641) (As := []) (rest := []) C cs_L_89 (mC_thick e1) dL_law_641 rfl (fun _ => rfl) rfl (Nat.le_of_ble_eq_true rfl) ⟨by omega, by decide⟩ ?_
  show LW Y x3 c1 mv 644 [.int x]
  refine L_aload2 (pc := 644) C dL_law_644 ?_
  refine L_callM (pc := 645) (As := []) (rest := [.int x]) C cs_L_92 (mM_thick e2) dL_law_645 rfl (fun _ => rfl) rfl (Nat.le_of_ble_eq_true rfl) ⟨by omega, by decide⟩ ?_
  show LW Y x3 c1 m1 648 [.int x, .int x]
  refine L_eq (pc := 648) (tgt := 1083) C dL_law_648 (by decide) ?_
  exact K c1 m1 hR1
theorem law_19 {Y : lX} {x3 : Int32} {cv mv : vMH} {Rl : vMH → vMH → Prop} (C : LCx Y) (O : Ops Rl) (hR : Rl cv mv) (h1 : vp_in (x3 + 1) (lL Y)) (h2 : vp_in (x3 + 2) (lL Y)) (h3 : vp_in (x3 + 3) (lL Y)) (h4 : vp_in (x3 + 4) (lL Y)) (h5 : vp_in (x3 + 5) (lL Y)) (K : ∀ cv' mv', Rl cv' mv' → LW Y x3 cv' mv' 1083 []) : LW Y x3 cv mv 653 [] := by
  obtain ⟨x, c1, m1, e1, e2, hR1⟩ := O.2.2.2.2.2.2.2.2.2.2.2.2.2.2.2.2.2.2.2.1 (larg Y (x3 + 1)) (larg Y (x3 + 2)) cv mv hR
  refine L_aload1 (pc := 653) C dL_law_653 ?_
  refine L_arg (pc := 654) (kv := 1) C (by decide) h1 dL_law_654 dL_law_655 dL_law_656 dL_law_657 dL_law_658 ?_
  refine L_arg (pc := 659) (kv := 2) C (by decide) h2 dL_law_659 dL_law_660 dL_law_661 dL_law_662 dL_law_663 ?_
  refine L_callC (pc := 664) (As := [.int (larg Y (x3 + 1)), .int (larg Y (x3 + 2))]) (rest := []) C cs_L_93 (mC_judge _ _ e1) dL_law_664 rfl (fun _ => rfl) rfl (Nat.le_of_ble_eq_true rfl) ⟨by omega, by decide⟩ ?_
  show LW Y x3 c1 mv 667 [.int x]
  refine L_aload2 (pc := 667) C dL_law_667 ?_
  refine L_arg (pc := 668) (kv := 1) C (by decide) h1 dL_law_668 dL_law_669 dL_law_670 dL_law_671 dL_law_672 ?_
  refine L_arg (pc := 673) (kv := 2) C (by decide) h2 dL_law_673 dL_law_674 dL_law_675 dL_law_676 dL_law_677 ?_
  refine L_callM (pc := 678) (As := [.int (larg Y (x3 + 1)), .int (larg Y (x3 + 2))]) (rest := [.int x]) C cs_L_96 (mM_judge _ _ e2) dL_law_678 rfl (fun _ => rfl) rfl (Nat.le_of_ble_eq_true rfl) ⟨by omega, by decide⟩ ?_
  show LW Y x3 c1 m1 681 [.int x, .int x]
  refine L_eq (pc := 681) (tgt := 1083) C dL_law_681 (by decide) ?_
  exact K c1 m1 hR1
theorem law_20 {Y : lX} {x3 : Int32} {cv mv : vMH} {Rl : vMH → vMH → Prop} (C : LCx Y) (O : Ops Rl) (hR : Rl cv mv) (h1 : vp_in (x3 + 1) (lL Y)) (h2 : vp_in (x3 + 2) (lL Y)) (h3 : vp_in (x3 + 3) (lL Y)) (h4 : vp_in (x3 + 4) (lL Y)) (h5 : vp_in (x3 + 5) (lL Y)) (K : ∀ cv' mv', Rl cv' mv' → LW Y x3 cv' mv' 1083 []) : LW Y x3 cv mv 686 [] := by
  obtain ⟨x, c1, m1, e1, e2, hR1⟩ := O.2.2.2.2.2.2.2.2.2.2.2.2.2.2.2.2.2.2.2.2.1 cv mv hR
  refine L_aload1 (pc := 686) C dL_law_686 ?_
  refine L_callC (pc := 687) (As := []) (rest := []) C cs_L_97 (mC_unseen e1) dL_law_687 rfl (fun _ => rfl) rfl (Nat.le_of_ble_eq_true rfl) ⟨by omega, by decide⟩ ?_
  show LW Y x3 c1 mv 690 [.int x]
  refine L_aload2 (pc := 690) C dL_law_690 ?_
  refine L_callM (pc := 691) (As := []) (rest := [.int x]) C cs_L_100 (mM_unseen e2) dL_law_691 rfl (fun _ => rfl) rfl (Nat.le_of_ble_eq_true rfl) ⟨by omega, by decide⟩ ?_
  show LW Y x3 c1 m1 694 [.int x, .int x]
  refine L_eq (pc := 694) (tgt := 1083) C dL_law_694 (by decide) ?_
  exact K c1 m1 hR1
theorem law_21 {Y : lX} {x3 : Int32} {cv mv : vMH} {Rl : vMH → vMH → Prop} (C : LCx Y) (O : Ops Rl) (hR : Rl cv mv) (h1 : vp_in (x3 + 1) (lL Y)) (h2 : vp_in (x3 + 2) (lL Y)) (h3 : vp_in (x3 + 3) (lL Y)) (h4 : vp_in (x3 + 4) (lL Y)) (h5 : vp_in (x3 + 5) (lL Y)) (K : ∀ cv' mv', Rl cv' mv' → LW Y x3 cv' mv' 1083 []) : LW Y x3 cv mv 699 [] := by
  obtain ⟨x, c1, m1, e1, e2, hR1⟩ := O.2.2.2.2.2.2.2.2.2.2.2.2.2.2.2.2.2.2.2.2.2.1 (larg Y (x3 + 1)) cv mv hR
  refine L_aload1 (pc := 699) C dL_law_699 ?_
  refine L_arg (pc := 700) (kv := 1) C (by decide) h1 dL_law_700 dL_law_701 dL_law_702 dL_law_703 dL_law_704 ?_
  refine L_callC (pc := 705) (As := [.int (larg Y (x3 + 1))]) (rest := []) C cs_L_101 (mC_left _ e1) dL_law_705 rfl (fun _ => rfl) rfl (Nat.le_of_ble_eq_true rfl) ⟨by omega, by decide⟩ ?_
  show LW Y x3 c1 mv 708 [.int x]
  refine L_aload2 (pc := 708) C dL_law_708 ?_
  refine L_arg (pc := 709) (kv := 1) C (by decide) h1 dL_law_709 dL_law_710 dL_law_711 dL_law_712 dL_law_713 ?_
  refine L_callM (pc := 714) (As := [.int (larg Y (x3 + 1))]) (rest := [.int x]) C cs_L_104 (mM_left _ e2) dL_law_714 rfl (fun _ => rfl) rfl (Nat.le_of_ble_eq_true rfl) ⟨by omega, by decide⟩ ?_
  show LW Y x3 c1 m1 717 [.int x, .int x]
  refine L_eq (pc := 717) (tgt := 1083) C dL_law_717 (by decide) ?_
  exact K c1 m1 hR1
theorem law_22 {Y : lX} {x3 : Int32} {cv mv : vMH} {Rl : vMH → vMH → Prop} (C : LCx Y) (O : Ops Rl) (hR : Rl cv mv) (h1 : vp_in (x3 + 1) (lL Y)) (h2 : vp_in (x3 + 2) (lL Y)) (h3 : vp_in (x3 + 3) (lL Y)) (h4 : vp_in (x3 + 4) (lL Y)) (h5 : vp_in (x3 + 5) (lL Y)) (K : ∀ cv' mv', Rl cv' mv' → LW Y x3 cv' mv' 1083 []) : LW Y x3 cv mv 722 [] := by
  obtain ⟨x, c1, m1, e1, e2, hR1⟩ := O.2.2.2.2.2.2.2.2.2.2.2.2.2.2.2.2.2.2.2.2.2.2.1 (larg Y (x3 + 1)) cv mv hR
  refine L_aload1 (pc := 722) C dL_law_722 ?_
  refine L_arg (pc := 723) (kv := 1) C (by decide) h1 dL_law_723 dL_law_724 dL_law_725 dL_law_726 dL_law_727 ?_
  refine L_callC (pc := 728) (As := [.int (larg Y (x3 + 1))]) (rest := []) C cs_L_105 (mC_drawn _ e1) dL_law_728 rfl (fun _ => rfl) rfl (Nat.le_of_ble_eq_true rfl) ⟨by omega, by decide⟩ ?_
  show LW Y x3 c1 mv 731 [.int x]
  refine L_aload2 (pc := 731) C dL_law_731 ?_
  refine L_arg (pc := 732) (kv := 1) C (by decide) h1 dL_law_732 dL_law_733 dL_law_734 dL_law_735 dL_law_736 ?_
  refine L_callM (pc := 737) (As := [.int (larg Y (x3 + 1))]) (rest := [.int x]) C cs_L_108 (mM_drawn _ e2) dL_law_737 rfl (fun _ => rfl) rfl (Nat.le_of_ble_eq_true rfl) ⟨by omega, by decide⟩ ?_
  show LW Y x3 c1 m1 740 [.int x, .int x]
  refine L_eq (pc := 740) (tgt := 1083) C dL_law_740 (by decide) ?_
  exact K c1 m1 hR1
theorem law_23 {Y : lX} {x3 : Int32} {cv mv : vMH} {Rl : vMH → vMH → Prop} (C : LCx Y) (O : Ops Rl) (hR : Rl cv mv) (h1 : vp_in (x3 + 1) (lL Y)) (h2 : vp_in (x3 + 2) (lL Y)) (h3 : vp_in (x3 + 3) (lL Y)) (h4 : vp_in (x3 + 4) (lL Y)) (h5 : vp_in (x3 + 5) (lL Y)) (K : ∀ cv' mv', Rl cv' mv' → LW Y x3 cv' mv' 1083 []) : LW Y x3 cv mv 745 [] := by
  obtain ⟨x, c1, m1, e1, e2, hR1⟩ := O.2.2.2.2.2.2.2.2.2.2.2.2.2.2.2.2.2.2.2.2.2.2.2.1 (larg Y (x3 + 1)) (larg Y (x3 + 2)) (larg Y (x3 + 3)) (larg Y (x3 + 4)) cv mv hR
  refine L_aload1 (pc := 745) C dL_law_745 ?_
  refine L_arg (pc := 746) (kv := 1) C (by decide) h1 dL_law_746 dL_law_747 dL_law_748 dL_law_749 dL_law_750 ?_
  refine L_arg (pc := 751) (kv := 2) C (by decide) h2 dL_law_751 dL_law_752 dL_law_753 dL_law_754 dL_law_755 ?_
  refine L_arg (pc := 756) (kv := 3) C (by decide) h3 dL_law_756 dL_law_757 dL_law_758 dL_law_759 dL_law_760 ?_
  refine L_arg (pc := 761) (kv := 4) C (by decide) h4 dL_law_761 dL_law_762 dL_law_763 dL_law_764 dL_law_765 ?_
  refine L_callC (pc := 766) (As := [.int (larg Y (x3 + 1)), .int (larg Y (x3 + 2)), .int (larg Y (x3 + 3)), .int (larg Y (x3 + 4))]) (rest := []) C cs_L_109 (mC_odds _ _ _ _ e1) dL_law_766 rfl (fun _ => rfl) rfl (Nat.le_of_ble_eq_true rfl) ⟨by omega, by decide⟩ ?_
  show LW Y x3 c1 mv 769 [.long x]
  refine L_aload2 (pc := 769) C dL_law_769 ?_
  refine L_arg (pc := 770) (kv := 1) C (by decide) h1 dL_law_770 dL_law_771 dL_law_772 dL_law_773 dL_law_774 ?_
  refine L_arg (pc := 775) (kv := 2) C (by decide) h2 dL_law_775 dL_law_776 dL_law_777 dL_law_778 dL_law_779 ?_
  refine L_arg (pc := 780) (kv := 3) C (by decide) h3 dL_law_780 dL_law_781 dL_law_782 dL_law_783 dL_law_784 ?_
  refine L_arg (pc := 785) (kv := 4) C (by decide) h4 dL_law_785 dL_law_786 dL_law_787 dL_law_788 dL_law_789 ?_
  refine L_callM (pc := 790) (As := [.int (larg Y (x3 + 1)), .int (larg Y (x3 + 2)), .int (larg Y (x3 + 3)), .int (larg Y (x3 + 4))]) (rest := [.long x]) C cs_L_113 (mM_odds _ _ _ _ e2) dL_law_790 rfl (fun _ => rfl) rfl (Nat.le_of_ble_eq_true rfl) ⟨by omega, by decide⟩ ?_
  show LW Y x3 c1 m1 793 [.long x, .long x]
  refine L_leq (pc := 793) (tgt := 1083) C dL_law_793 dL_law_794 (by decide) ?_
  exact K c1 m1 hR1
theorem law_24 {Y : lX} {x3 : Int32} {cv mv : vMH} {Rl : vMH → vMH → Prop} (C : LCx Y) (O : Ops Rl) (hR : Rl cv mv) (h1 : vp_in (x3 + 1) (lL Y)) (h2 : vp_in (x3 + 2) (lL Y)) (h3 : vp_in (x3 + 3) (lL Y)) (h4 : vp_in (x3 + 4) (lL Y)) (h5 : vp_in (x3 + 5) (lL Y)) (K : ∀ cv' mv', Rl cv' mv' → LW Y x3 cv' mv' 1083 []) : LW Y x3 cv mv 799 [] := by
  obtain ⟨x, c1, m1, e1, e2, hR1⟩ := O.2.2.2.2.2.2.2.2.2.2.2.2.2.2.2.2.2.2.2.2.2.2.2.2.1 cv mv hR
  refine L_aload1 (pc := 799) C dL_law_799 ?_
  refine L_callC (pc := 800) (As := []) (rest := []) C cs_L_114 (mC_image e1) dL_law_800 rfl (fun _ => rfl) rfl (Nat.le_of_ble_eq_true rfl) ⟨by omega, by decide⟩ ?_
  show LW Y x3 c1 mv 803 [.int x]
  refine L_aload2 (pc := 803) C dL_law_803 ?_
  refine L_callM (pc := 804) (As := []) (rest := [.int x]) C cs_L_117 (mM_image e2) dL_law_804 rfl (fun _ => rfl) rfl (Nat.le_of_ble_eq_true rfl) ⟨by omega, by decide⟩ ?_
  show LW Y x3 c1 m1 807 [.int x, .int x]
  refine L_eq (pc := 807) (tgt := 1083) C dL_law_807 (by decide) ?_
  exact K c1 m1 hR1
theorem law_25 {Y : lX} {x3 : Int32} {cv mv : vMH} {Rl : vMH → vMH → Prop} (C : LCx Y) (O : Ops Rl) (hR : Rl cv mv) (h1 : vp_in (x3 + 1) (lL Y)) (h2 : vp_in (x3 + 2) (lL Y)) (h3 : vp_in (x3 + 3) (lL Y)) (h4 : vp_in (x3 + 4) (lL Y)) (h5 : vp_in (x3 + 5) (lL Y)) (K : ∀ cv' mv', Rl cv' mv' → LW Y x3 cv' mv' 1083 []) : LW Y x3 cv mv 812 [] := by
  obtain ⟨x, c1, m1, e1, e2, hR1⟩ := O.2.2.2.2.2.2.2.2.2.2.2.2.2.2.2.2.2.2.2.2.2.2.2.2.2.1 cv mv hR
  refine L_aload1 (pc := 812) C dL_law_812 ?_
  refine L_callC (pc := 813) (As := []) (rest := []) C cs_L_118 (mC_back e1) dL_law_813 rfl (fun _ => rfl) rfl (Nat.le_of_ble_eq_true rfl) ⟨by omega, by decide⟩ ?_
  show LW Y x3 c1 mv 816 [.int x]
  refine L_aload2 (pc := 816) C dL_law_816 ?_
  refine L_callM (pc := 817) (As := []) (rest := [.int x]) C cs_L_121 (mM_back e2) dL_law_817 rfl (fun _ => rfl) rfl (Nat.le_of_ble_eq_true rfl) ⟨by omega, by decide⟩ ?_
  show LW Y x3 c1 m1 820 [.int x, .int x]
  refine L_eq (pc := 820) (tgt := 1083) C dL_law_820 (by decide) ?_
  exact K c1 m1 hR1
theorem law_26 {Y : lX} {x3 : Int32} {cv mv : vMH} {Rl : vMH → vMH → Prop} (C : LCx Y) (O : Ops Rl) (hR : Rl cv mv) (h1 : vp_in (x3 + 1) (lL Y)) (h2 : vp_in (x3 + 2) (lL Y)) (h3 : vp_in (x3 + 3) (lL Y)) (h4 : vp_in (x3 + 4) (lL Y)) (h5 : vp_in (x3 + 5) (lL Y)) (K : ∀ cv' mv', Rl cv' mv' → LW Y x3 cv' mv' 1083 []) : LW Y x3 cv mv 825 [] := by
  obtain ⟨x, c1, m1, e1, e2, hR1⟩ := O.2.2.2.2.2.2.2.2.2.2.2.2.2.2.2.2.2.2.2.2.2.2.2.2.2.2.1 (larg Y (x3 + 1)) cv mv hR
  refine L_aload1 (pc := 825) C dL_law_825 ?_
  refine L_arg (pc := 826) (kv := 1) C (by decide) h1 dL_law_826 dL_law_827 dL_law_828 dL_law_829 dL_law_830 ?_
  refine L_callC (pc := 831) (As := [.int (larg Y (x3 + 1))]) (rest := []) C cs_L_122 (mC_count _ e1) dL_law_831 rfl (fun _ => rfl) rfl (Nat.le_of_ble_eq_true rfl) ⟨by omega, by decide⟩ ?_
  show LW Y x3 c1 mv 834 [.int x]
  refine L_aload2 (pc := 834) C dL_law_834 ?_
  refine L_arg (pc := 835) (kv := 1) C (by decide) h1 dL_law_835 dL_law_836 dL_law_837 dL_law_838 dL_law_839 ?_
  refine L_callM (pc := 840) (As := [.int (larg Y (x3 + 1))]) (rest := [.int x]) C cs_L_125 (mM_count _ e2) dL_law_840 rfl (fun _ => rfl) rfl (Nat.le_of_ble_eq_true rfl) ⟨by omega, by decide⟩ ?_
  show LW Y x3 c1 m1 843 [.int x, .int x]
  refine L_eq (pc := 843) (tgt := 1083) C dL_law_843 (by decide) ?_
  exact K c1 m1 hR1
theorem law_27 {Y : lX} {x3 : Int32} {cv mv : vMH} {Rl : vMH → vMH → Prop} (C : LCx Y) (O : Ops Rl) (hR : Rl cv mv) (h1 : vp_in (x3 + 1) (lL Y)) (h2 : vp_in (x3 + 2) (lL Y)) (h3 : vp_in (x3 + 3) (lL Y)) (h4 : vp_in (x3 + 4) (lL Y)) (h5 : vp_in (x3 + 5) (lL Y)) (K : ∀ cv' mv', Rl cv' mv' → LW Y x3 cv' mv' 1083 []) : LW Y x3 cv mv 848 [] := by
  obtain ⟨x, c1, m1, e1, e2, hR1⟩ := O.2.2.2.2.2.2.2.2.2.2.2.2.2.2.2.2.2.2.2.2.2.2.2.2.2.2.2.1 (larg Y (x3 + 1)) (larg Y (x3 + 2)) (larg Y (x3 + 3)) cv mv hR
  refine L_aload1 (pc := 848) C dL_law_848 ?_
  refine L_arg (pc := 849) (kv := 1) C (by decide) h1 dL_law_849 dL_law_850 dL_law_851 dL_law_852 dL_law_853 ?_
  refine L_arg (pc := 854) (kv := 2) C (by decide) h2 dL_law_854 dL_law_855 dL_law_856 dL_law_857 dL_law_858 ?_
  refine L_arg (pc := 859) (kv := 3) C (by decide) h3 dL_law_859 dL_law_860 dL_law_861 dL_law_862 dL_law_863 ?_
  refine L_callC (pc := 864) (As := [.int (larg Y (x3 + 1)), .int (larg Y (x3 + 2)), .int (larg Y (x3 + 3))]) (rest := []) C cs_L_126 (mC_sheet _ _ _ e1) dL_law_864 rfl (fun _ => rfl) rfl (Nat.le_of_ble_eq_true rfl) ⟨by omega, by decide⟩ ?_
  show LW Y x3 c1 mv 867 [.int x]
  refine L_aload2 (pc := 867) C dL_law_867 ?_
  refine L_arg (pc := 868) (kv := 1) C (by decide) h1 dL_law_868 dL_law_869 dL_law_870 dL_law_871 dL_law_872 ?_
  refine L_arg (pc := 873) (kv := 2) C (by decide) h2 dL_law_873 dL_law_874 dL_law_875 dL_law_876 dL_law_877 ?_
  refine L_arg (pc := 878) (kv := 3) C (by decide) h3 dL_law_878 dL_law_879 dL_law_880 dL_law_881 dL_law_882 ?_
  refine L_callM (pc := 883) (As := [.int (larg Y (x3 + 1)), .int (larg Y (x3 + 2)), .int (larg Y (x3 + 3))]) (rest := [.int x]) C cs_L_129 (mM_sheet _ _ _ e2) dL_law_883 rfl (fun _ => rfl) rfl (Nat.le_of_ble_eq_true rfl) ⟨by omega, by decide⟩ ?_
  show LW Y x3 c1 m1 886 [.int x, .int x]
  refine L_eq (pc := 886) (tgt := 1083) C dL_law_886 (by decide) ?_
  exact K c1 m1 hR1
theorem law_28 {Y : lX} {x3 : Int32} {cv mv : vMH} {Rl : vMH → vMH → Prop} (C : LCx Y) (O : Ops Rl) (hR : Rl cv mv) (h1 : vp_in (x3 + 1) (lL Y)) (h2 : vp_in (x3 + 2) (lL Y)) (h3 : vp_in (x3 + 3) (lL Y)) (h4 : vp_in (x3 + 4) (lL Y)) (h5 : vp_in (x3 + 5) (lL Y)) (K : ∀ cv' mv', Rl cv' mv' → LW Y x3 cv' mv' 1083 []) : LW Y x3 cv mv 891 [] := by
  obtain ⟨x, c1, m1, e1, e2, hR1⟩ := O.2.2.2.2.2.2.2.2.2.2.2.2.2.2.2.2.2.2.2.2.2.2.2.2.2.2.2.2.1 (larg Y (x3 + 1)) (larg Y (x3 + 2)) (larg Y (x3 + 3)) cv mv hR
  refine L_aload1 (pc := 891) C dL_law_891 ?_
  refine L_arg (pc := 892) (kv := 1) C (by decide) h1 dL_law_892 dL_law_893 dL_law_894 dL_law_895 dL_law_896 ?_
  refine L_arg (pc := 897) (kv := 2) C (by decide) h2 dL_law_897 dL_law_898 dL_law_899 dL_law_900 dL_law_901 ?_
  refine L_arg (pc := 902) (kv := 3) C (by decide) h3 dL_law_902 dL_law_903 dL_law_904 dL_law_905 dL_law_906 ?_
  refine L_callC (pc := 907) (As := [.int (larg Y (x3 + 1)), .int (larg Y (x3 + 2)), .int (larg Y (x3 + 3))]) (rest := []) C cs_L_130 (mC_cell _ _ _ e1) dL_law_907 rfl (fun _ => rfl) rfl (Nat.le_of_ble_eq_true rfl) ⟨by omega, by decide⟩ ?_
  show LW Y x3 c1 mv 910 [.int x]
  refine L_aload2 (pc := 910) C dL_law_910 ?_
  refine L_arg (pc := 911) (kv := 1) C (by decide) h1 dL_law_911 dL_law_912 dL_law_913 dL_law_914 dL_law_915 ?_
  refine L_arg (pc := 916) (kv := 2) C (by decide) h2 dL_law_916 dL_law_917 dL_law_918 dL_law_919 dL_law_920 ?_
  refine L_arg (pc := 921) (kv := 3) C (by decide) h3 dL_law_921 dL_law_922 dL_law_923 dL_law_924 dL_law_925 ?_
  refine L_callM (pc := 926) (As := [.int (larg Y (x3 + 1)), .int (larg Y (x3 + 2)), .int (larg Y (x3 + 3))]) (rest := [.int x]) C cs_L_133 (mM_cell _ _ _ e2) dL_law_926 rfl (fun _ => rfl) rfl (Nat.le_of_ble_eq_true rfl) ⟨by omega, by decide⟩ ?_
  show LW Y x3 c1 m1 929 [.int x, .int x]
  refine L_eq (pc := 929) (tgt := 1083) C dL_law_929 (by decide) ?_
  exact K c1 m1 hR1
theorem law_29 {Y : lX} {x3 : Int32} {cv mv : vMH} {Rl : vMH → vMH → Prop} (C : LCx Y) (O : Ops Rl) (hR : Rl cv mv) (h1 : vp_in (x3 + 1) (lL Y)) (h2 : vp_in (x3 + 2) (lL Y)) (h3 : vp_in (x3 + 3) (lL Y)) (h4 : vp_in (x3 + 4) (lL Y)) (h5 : vp_in (x3 + 5) (lL Y)) (K : ∀ cv' mv', Rl cv' mv' → LW Y x3 cv' mv' 1083 []) : LW Y x3 cv mv 934 [] := by
  obtain ⟨x, c1, m1, e1, e2, hR1⟩ := O.2.2.2.2.2.2.2.2.2.2.2.2.2.2.2.2.2.2.2.2.2.2.2.2.2.2.2.2.2.1 (larg Y (x3 + 1)) (larg Y (x3 + 2)) (larg Y (x3 + 3)) (larg Y (x3 + 4)) (larg Y (x3 + 5)) cv mv hR
  refine L_aload1 (pc := 934) C dL_law_934 ?_
  refine L_arg (pc := 935) (kv := 1) C (by decide) h1 dL_law_935 dL_law_936 dL_law_937 dL_law_938 dL_law_939 ?_
  refine L_arg (pc := 940) (kv := 2) C (by decide) h2 dL_law_940 dL_law_941 dL_law_942 dL_law_943 dL_law_944 ?_
  refine L_arg (pc := 945) (kv := 3) C (by decide) h3 dL_law_945 dL_law_946 dL_law_947 dL_law_948 dL_law_949 ?_
  refine L_arg (pc := 950) (kv := 4) C (by decide) h4 dL_law_950 dL_law_951 dL_law_952 dL_law_953 dL_law_954 ?_
  refine L_arg (pc := 955) (kv := 5) C (by decide) h5 dL_law_955 dL_law_956 dL_law_957 dL_law_958 dL_law_959 ?_
  refine L_callC (pc := 960) (As := [.int (larg Y (x3 + 1)), .int (larg Y (x3 + 2)), .int (larg Y (x3 + 3)), .int (larg Y (x3 + 4)), .int (larg Y (x3 + 5))]) (rest := []) C cs_L_134 (mC_copy _ _ _ _ _ e1) dL_law_960 rfl (fun _ => rfl) rfl (Nat.le_of_ble_eq_true rfl) ⟨by omega, by decide⟩ ?_
  show LW Y x3 c1 mv 963 [.int x]
  refine L_aload2 (pc := 963) C dL_law_963 ?_
  refine L_arg (pc := 964) (kv := 1) C (by decide) h1 dL_law_964 dL_law_965 dL_law_966 dL_law_967 dL_law_968 ?_
  refine L_arg (pc := 969) (kv := 2) C (by decide) h2 dL_law_969 dL_law_970 dL_law_971 dL_law_972 dL_law_973 ?_
  refine L_arg (pc := 974) (kv := 3) C (by decide) h3 dL_law_974 dL_law_975 dL_law_976 dL_law_977 dL_law_978 ?_
  refine L_arg (pc := 979) (kv := 4) C (by decide) h4 dL_law_979 dL_law_980 dL_law_981 dL_law_982 dL_law_983 ?_
  refine L_arg (pc := 984) (kv := 5) C (by decide) h5 dL_law_984 dL_law_985 dL_law_986 dL_law_987 dL_law_988 ?_
  refine L_callM (pc := 989) (As := [.int (larg Y (x3 + 1)), .int (larg Y (x3 + 2)), .int (larg Y (x3 + 3)), .int (larg Y (x3 + 4)), .int (larg Y (x3 + 5))]) (rest := [.int x]) C cs_L_138 (mM_copy _ _ _ _ _ e2) dL_law_989 rfl (fun _ => rfl) rfl (Nat.le_of_ble_eq_true rfl) ⟨by omega, by decide⟩ ?_
  show LW Y x3 c1 m1 992 [.int x, .int x]
  refine L_eq (pc := 992) (tgt := 1083) C dL_law_992 (by decide) ?_
  exact K c1 m1 hR1
theorem law_30 {Y : lX} {x3 : Int32} {cv mv : vMH} {Rl : vMH → vMH → Prop} (C : LCx Y) (O : Ops Rl) (hR : Rl cv mv) (h1 : vp_in (x3 + 1) (lL Y)) (h2 : vp_in (x3 + 2) (lL Y)) (h3 : vp_in (x3 + 3) (lL Y)) (h4 : vp_in (x3 + 4) (lL Y)) (h5 : vp_in (x3 + 5) (lL Y)) (K : ∀ cv' mv', Rl cv' mv' → LW Y x3 cv' mv' 1083 []) : LW Y x3 cv mv 997 [] := by
  obtain ⟨x, c1, m1, e1, e2, hR1⟩ := O.2.2.2.2.2.2.2.2.2.2.2.2.2.2.2.2.2.2.2.2.2.2.2.2.2.2.2.2.2.2.1 (larg Y (x3 + 1)) (larg Y (x3 + 2)) (larg Y (x3 + 3)) (larg Y (x3 + 4)) cv mv hR
  refine L_aload1 (pc := 997) C dL_law_997 ?_
  refine L_arg (pc := 998) (kv := 1) C (by decide) h1 dL_law_998 dL_law_999 dL_law_1000 dL_law_1001 dL_law_1002 ?_
  refine L_arg (pc := 1003) (kv := 2) C (by decide) h2 dL_law_1003 dL_law_1004 dL_law_1005 dL_law_1006 dL_law_1007 ?_
  refine L_arg (pc := 1008) (kv := 3) C (by decide) h3 dL_law_1008 dL_law_1009 dL_law_1010 dL_law_1011 dL_law_1012 ?_
  refine L_arg (pc := 1013) (kv := 4) C (by decide) h4 dL_law_1013 dL_law_1014 dL_law_1015 dL_law_1016 dL_law_1017 ?_
  refine L_callC (pc := 1018) (As := [.int (larg Y (x3 + 1)), .int (larg Y (x3 + 2)), .int (larg Y (x3 + 3)), .int (larg Y (x3 + 4))]) (rest := []) C cs_L_139 (mC_finds _ _ _ _ e1) dL_law_1018 rfl (fun _ => rfl) rfl (Nat.le_of_ble_eq_true rfl) ⟨by omega, by decide⟩ ?_
  show LW Y x3 c1 mv 1021 [.int x]
  refine L_aload2 (pc := 1021) C dL_law_1021 ?_
  refine L_arg (pc := 1022) (kv := 1) C (by decide) h1 dL_law_1022 dL_law_1023 dL_law_1024 dL_law_1025 dL_law_1026 ?_
  refine L_arg (pc := 1027) (kv := 2) C (by decide) h2 dL_law_1027 dL_law_1028 dL_law_1029 dL_law_1030 dL_law_1031 ?_
  refine L_arg (pc := 1032) (kv := 3) C (by decide) h3 dL_law_1032 dL_law_1033 dL_law_1034 dL_law_1035 dL_law_1036 ?_
  refine L_arg (pc := 1037) (kv := 4) C (by decide) h4 dL_law_1037 dL_law_1038 dL_law_1039 dL_law_1040 dL_law_1041 ?_
  refine L_callM (pc := 1042) (As := [.int (larg Y (x3 + 1)), .int (larg Y (x3 + 2)), .int (larg Y (x3 + 3)), .int (larg Y (x3 + 4))]) (rest := [.int x]) C cs_L_143 (mM_finds _ _ _ _ e2) dL_law_1042 rfl (fun _ => rfl) rfl (Nat.le_of_ble_eq_true rfl) ⟨by omega, by decide⟩ ?_
  show LW Y x3 c1 m1 1045 [.int x, .int x]
  refine L_eq (pc := 1045) (tgt := 1083) C dL_law_1045 (by decide) ?_
  exact K c1 m1 hR1
theorem law_31 {Y : lX} {x3 : Int32} {cv mv : vMH} {Rl : vMH → vMH → Prop} (C : LCx Y) (O : Ops Rl) (hR : Rl cv mv) (h1 : vp_in (x3 + 1) (lL Y)) (h2 : vp_in (x3 + 2) (lL Y)) (h3 : vp_in (x3 + 3) (lL Y)) (h4 : vp_in (x3 + 4) (lL Y)) (h5 : vp_in (x3 + 5) (lL Y)) (K : ∀ cv' mv', Rl cv' mv' → LW Y x3 cv' mv' 1083 []) : LW Y x3 cv mv 1050 [] := by
  obtain ⟨x, c1, m1, e1, e2, hR1⟩ := O.2.2.2.2.2.2.2.2.2.2.2.2.2.2.2.2.2.2.2.2.2.2.2.2.2.2.2.2.2.2.2 (larg Y (x3 + 1)) (larg Y (x3 + 2)) cv mv hR
  refine L_aload1 (pc := 1050) C dL_law_1050 ?_
  refine L_arg (pc := 1051) (kv := 1) C (by decide) h1 dL_law_1051 dL_law_1052 dL_law_1053 dL_law_1054 dL_law_1055 ?_
  refine L_arg (pc := 1056) (kv := 2) C (by decide) h2 dL_law_1056 dL_law_1057 dL_law_1058 dL_law_1059 dL_law_1060 ?_
  refine L_callC (pc := 1061) (As := [.int (larg Y (x3 + 1)), .int (larg Y (x3 + 2))]) (rest := []) C cs_L_144 (mC_taken _ _ e1) dL_law_1061 rfl (fun _ => rfl) rfl (Nat.le_of_ble_eq_true rfl) ⟨by omega, by decide⟩ ?_
  show LW Y x3 c1 mv 1064 [.int x]
  refine L_aload2 (pc := 1064) C dL_law_1064 ?_
  refine L_arg (pc := 1065) (kv := 1) C (by decide) h1 dL_law_1065 dL_law_1066 dL_law_1067 dL_law_1068 dL_law_1069 ?_
  refine L_arg (pc := 1070) (kv := 2) C (by decide) h2 dL_law_1070 dL_law_1071 dL_law_1072 dL_law_1073 dL_law_1074 ?_
  refine L_callM (pc := 1075) (As := [.int (larg Y (x3 + 1)), .int (larg Y (x3 + 2))]) (rest := [.int x]) C cs_L_147 (mM_taken _ _ e2) dL_law_1075 rfl (fun _ => rfl) rfl (Nat.le_of_ble_eq_true rfl) ⟨by omega, by decide⟩ ?_
  show LW Y x3 c1 m1 1078 [.int x, .int x]
  refine L_eq (pc := 1078) (tgt := 1083) C dL_law_1078 (by decide) ?_
  exact K c1 m1 hR1
