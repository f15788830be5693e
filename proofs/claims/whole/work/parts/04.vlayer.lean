/-! LAYER V: a method's walk over a world that is a function of a small picture: roles instead of addresses -/
abbrev vMH : Type := (Nat → Nat → Int32) × Int64
/-- a role: an array (of ints: true, of booleans: false) of a length, or an object of a class with codes of its fields (0 int, 1 long, r + 2 the role r) -/
abbrev vLK : Type := (Bool × Nat) ⊕ (Nat × List Nat)
abbrev vLay : Type := Nat × (Nat → vLK)
abbrev vX : Type := Program × Launch × Env × State × MethodId × Array Value × List Frame × Method × Code × va_G × (ClassId × ClassId) × (Nat → Nat) × (Nat → Prop) × (Array Value → State → Outcome → State → Prop)
def v_tr (ad : Nat → Nat) : Value → Value
  | .ref r => .ref (ad r)
  | v => v
def v_row (I : Nat → Nat → Int32) (a : Nat) (f : Nat → Int32) : Nat → Nat → Int32 := fun r => if r = a then f else I r
def v_up (mh : vMH) (r k : Nat) (x : Int32) : vMH := (v_row mh.1 r (upd (mh.1 r) k x), mh.2)
def v_ul (mh : vMH) (x : Int64) : vMH := (mh.1, x)
def v_cp (mh : vMH) (a b sp dp n : Nat) : vMH := (v_row mh.1 b (va_cpy (mh.1 a) (mh.1 b) sp dp n), mh.2)
def v_fv (ad : Nat → Nat) (mh : vMH) (r k : Nat) : Nat → Value
  | 0 => .int (mh.1 r k)
  | 1 => .long mh.2
  | n + 2 => .ref (ad n)
def v_fs (ad : Nat → Nat) (mh : vMH) (r : Nat) (fc : List Nat) : List Value := fc.mapIdx (fun k c => v_fv ad mh r k c)
def v_ce (cA : ClassId × ClassId) (ad : Nat → Nat) (mh : vMH) (r : Nat) : vLK → va_E
  | .inl q => .inl (cond q.1 cA.1 cA.2, (q.2, .inl (mh.1 r)))
  | .inr q => .inr (q.1, v_fs ad mh r q.2)
def v_ws (Λ : vLay) (cA : ClassId × ClassId) (ad : Nat → Nat) (mh : vMH) : va_W := (List.range Λ.1).map fun r => (ad r, v_ce cA ad mh r (Λ.2 r))
def v_tys (cA : ClassId × ClassId) : List (ClassId × FieldType) := [(cA.1, .int), (cA.2, .boolean)]
def v_lv (ad : Nat → Nat) : Nat → List (Option Value) → List (Nat × Value)
  | _, [] => []
  | i, none :: t => v_lv ad (i + 1) t
  | i, some v :: t => (i, v_tr ad v) :: v_lv ad (i + 1) t
def v_en : List Value → List (Option Value)
  | [] => []
  | v :: t => if v.category = 2 then some v :: none :: v_en t else some v :: v_en t
abbrev v_cl : List vw_C := [(RX0, TX0, 11), (RX1, TX1, 7), (RX2, TX2, 3), (RX3, TX3, 6), (RX4, TX4, 2), (RX5, TX5, 9), (RX6, TX6, 52)]
def gw : List Cond := lw_tbl.filter goodWord
def v_rm (d : Nat) : Room := { frames := d, cells := 0, slots := 0, locals := 64 * d }
def v_above (j : Nat) : Int32 := ([-1, 0, 0, 1, 0, 1] : List Int32).getD j 0
def v_six : List Nat := [88, 94, 96, 98, 100, 102, 104, 106, 108, 110, 112, 114]
def v_stx : List String := ["tone", "loud", "wet", "plate", "y", "x", "or", "and", "not", "digs", "hears", "worth"]
def v_slen : List Nat := [4, 4, 3, 5, 1, 1, 2, 3, 3, 4, 5, 5]
def v_sbyt : List (List Int32) := [[116, 111, 110, 101], [108, 111, 117, 100], [119, 101, 116], [112, 108, 97, 116, 101], [121], [120], [111, 114], [97, 110, 100], [110, 111, 116], [100, 105, 103, 115], [104, 101, 97, 114, 115], [119, 111, 114, 116, 104]]
def v_nest : List Cond := [.methodLinkNest RX0 66 yX5_loudOf RX5, .methodLinkNest RX0 79 yX5_dragsOf RX5, .methodLinkNest RX0 83 yX5_held RX5, .methodLinkNest RX2 21 yX5_isSheet RX5, .methodLinkNest RX2 29 yX5_held RX5, .methodLinkNest RX3 53 yX5_isWithin RX5, .methodLinkNest RX3 63 yX5_toneOf RX5, .methodLinkNest RX3 79 yX5_held RX5]
/-- what lies outside the world and never changes: the nest's links, a static table (role 999), the text constants (roles 1000 and on) -/
def v_Ext (ad : Nat → Nat) (A : Nat → Prop) (U : State) (H : Heap) : Prop :=
  (∀ w ∈ v_nest, va_Nw w U) ∧ va_Z "FieldBeeps" "ABOVE" "[I" (.ref (ad 999)) A U H ∧ va_T .int (ad 999) 6 (fun j => .int (v_above j)) A U H ∧
  (∀ i, i < 12 → vk_R RX1 (v_six.getD i 0) (v_stx.getD i "") (ad (1000 + i)) U) ∧ vk_S 12 v_slen v_sbyt (fun i => ad (1000 + i)) (fun i => ad (2000 + i)) A U H ∧ va_Z "java/lang/String" "COMPACT_STRINGS" "Z" (.int 1) A U H ∧
  (va_Z "jdk/internal/util/Preconditions" "SIOOBE_FORMATTER" "Ljava/util/function/BiFunction;" .null A U H ∨ va_Z "jdk/internal/util/Preconditions" "SIOOBE_FORMATTER" "Ljava/util/function/BiFunction;" (.ref (ad 3000)) A U H)
theorem v_Ext.kept {ad : Nat → Nat} {A : Nat → Prop} {U : State} {H H1 : Heap} (h : v_Ext ad A U H) (hq : ∀ a : Nat, a < H.size → ¬ A a → H1[a]? = H[a]?) : v_Ext ad A U H1 := by
  obtain ⟨h1, h2, h3, h4, h5, h6, h7⟩ := h
  exact ⟨h1, h2.kept hq, h3.kept hq, h4, h5.kept hq, h6.kept hq, h7.imp (fun z => z.kept hq) (fun z => z.kept hq)⟩
theorem v_Ext.narrow {ad : Nat → Nat} {A B : Nat → Prop} {U : State} {H : Heap} (h : v_Ext ad A U H) (hAB : ∀ q, B q → A q) : v_Ext ad B U H := by
  obtain ⟨h1, h2, h3, h4, h5, h6, h7⟩ := h
  exact ⟨h1, h2.narrow hAB, h3.narrow hAB, h4, h5.narrow hAB, h6.narrow hAB, h7.imp (fun z => z.narrow hAB) (fun z => z.narrow hAB)⟩
theorem v_nest_all {P : Cond → Prop} (h : ∀ (a : String) (i : Nat) (y : MethodName) (b : String), P (.methodLinkNest a i y b)) : ∀ w ∈ v_nest, P w := by
  intro w hw
  simp only [v_nest, List.mem_cons, List.not_mem_nil, or_false] at hw
  rcases hw with rfl | rfl | rfl | rfl | rfl | rfl | rfl | rfl <;> exact h _ _ _ _
theorem v_Ext.warm {ad : Nat → Nat} {A : Nat → Prop} {s U : State} {H : Heap} (hW : s.WarmedH U.vm) (h : v_Ext ad A s H) : v_Ext ad A U H := by
  obtain ⟨h1, h2, h3, h4, h5, h6, h7⟩ := h
  exact ⟨fun w hw => v_nest_all (P := fun w => va_Nw w s → va_Nw w U) (fun _ _ _ _ h => va_Nw.warmM hW h) w hw (h1 w hw), h2.moved hW.alike, h3.moved hW.alike, fun i hi => (h4 i hi).warm hW, h5.moved hW.alike, h6.moved hW.alike, h7.imp (fun z => z.moved hW.alike) (fun z => z.moved hW.alike)⟩
theorem v_Ext.same {ad : Nat → Nat} {A : Nat → Prop} {u U : State} {H : Heap} (hv : U.vm = u.vm) (h : v_Ext ad A u H) : v_Ext ad A U H := by
  obtain ⟨h1, h2, h3, h4, h5, h6, h7⟩ := h
  have hal : u.vm.Alike U.vm := by rw [hv]; exact Vm.Alike.refl _
  exact ⟨fun w hw => v_nest_all (P := fun w => va_Nw w u → va_Nw w U) (fun _ _ _ _ h => va_Nw.same rfl hv.symm h) w hw (h1 w hw), h2.moved hal, h3.moved hal, fun i hi => (h4 i hi).same hv, h5.moved hal, h6.moved hal, h7.imp (fun z => z.moved hal) (fun z => z.moved hal)⟩
def Vw (Λ : vLay) (X : vX) (d nL pc : Nat) (lv : List (Option Value)) (st : List Value) (mh : vMH) : Prop :=
  match X with
  | (p, l, e, s, m, args, below, meth, c, D, cA, ad, A, Qc) =>
    ∀ (H : Heap) (locs : List Loc) (ls : Array Slot), va_P D v_cl (v_ws Λ cA ad mh) H → va_D A (v_ws Λ cA ad mh) → va_S A s.heap H locs → lv_has ls nL (v_lv ad 0 lv) →
      W p l e (v_rm d) s m args below meth c H locs 0 0 (MQ below Qc args s 0 0 A) (F0 m pc ls (st.map (v_tr ad)))
def Cx (X : vX) (d nL : Nat) (cc : ByteArray) (own : String) (ret : Option FieldType) : Prop :=
  match X with
  | (p, _, _, s, m, args, _, meth, c, D, cA, ad, A, _) =>
    p.tables.exec = Jvm.exec ∧ c.code = cc ∧ c.maxLocals = nL ∧ s.vm.findClass own = some m.cls ∧ (∀ w ∈ gw, w.before args s = true) ∧ meth.sig.returnType = ret ∧ meth.locks = false ∧ va_K D v_cl (v_tys cA) s ∧ (∀ q, s.heap.size ≤ q → A q) ∧ v_Ext ad A s s.heap
/-- it is good to end so -/
def Gd (Λ : vLay) (X : vX) (rv : Option Value) (mh : vMH) : Prop :=
  match X with
  | (_, _, _, s, _, args, _, _, _, D, cA, ad, A, Qc) =>
    ∀ (H : Heap) (locs : List Loc), va_P D v_cl (v_ws Λ cA ad mh) H → va_D A (v_ws Λ cA ad mh) → va_S A s.heap H locs → ∀ t : State, t.heap = H → s.WarmedH t.vm → Qc args s (.returned rv) t
-- ===== the world's cells =====
theorem v_ws_at {Λ : vLay} {cA : ClassId × ClassId} {ad : Nat → Nat} {mh : vMH} {r : Nat} (h : r < Λ.1) : (v_ws Λ cA ad mh)[r]? = some (ad r, v_ce cA ad mh r (Λ.2 r)) := by
  simp [v_ws, h]
theorem v_ws_arr {Λ : vLay} {cA : ClassId × ClassId} {ad : Nat → Nat} {mh : vMH} {r : Nat} {b : Bool} {n : Nat} (h : r < Λ.1) (hk : Λ.2 r = .inl (b, n)) : (v_ws Λ cA ad mh)[r]? = some (ad r, .inl (cond b cA.1 cA.2, n, .inl (mh.1 r))) := by
  rw [v_ws_at h, hk]; rfl
theorem v_ws_obj {Λ : vLay} {cA : ClassId × ClassId} {ad : Nat → Nat} {mh : vMH} {r ci : Nat} {fc : List Nat} (h : r < Λ.1) (hk : Λ.2 r = .inr (ci, fc)) : (v_ws Λ cA ad mh)[r]? = some (ad r, .inr (ci, v_fs ad mh r fc)) := by
  rw [v_ws_at h, hk]; rfl
theorem v_ce_other {cA : ClassId × ClassId} {ad : Nat → Nat} {mh : vMH} {a r : Nat} {f : Nat → Int32} (K : vLK) (h : r ≠ a) : v_ce cA ad (v_row mh.1 a f, mh.2) r K = v_ce cA ad mh r K := by
  have hr : v_row mh.1 a f r = mh.1 r := if_neg h
  cases K with
  | inl q => simp [v_ce, hr]
  | inr q =>
    simp only [v_ce, v_fs]
    congr 2
    apply List.ext_getElem? 
    intro k
    rw [List.getElem?_mapIdx, List.getElem?_mapIdx]
    congr 1
    funext c
    match c with
    | 0 => simp [v_fv, hr]
    | 1 => rfl
    | _ + 2 => rfl
theorem v_ws_row {Λ : vLay} {cA : ClassId × ClassId} {ad : Nat → Nat} {mh : vMH} {a : Nat} {f : Nat → Int32} {e : va_E} (h : a < Λ.1) (he : v_ce cA ad (v_row mh.1 a f, mh.2) a (Λ.2 a) = e) : (v_ws Λ cA ad mh).set a (ad a, e) = v_ws Λ cA ad (v_row mh.1 a f, mh.2) := by
  apply List.ext_getElem?
  intro k
  by_cases hk : k = a
  · subst hk
    rw [List.getElem?_set_self (by simp [v_ws, h]), v_ws_at h, he]
  · rw [List.getElem?_set_ne (Ne.symm hk)]
    by_cases hl : k < Λ.1
    · rw [v_ws_at hl, v_ws_at hl, v_ce_other _ hk]
    · simp [v_ws, Nat.not_lt.mp hl]
theorem v_ws_rowA {Λ : vLay} {cA : ClassId × ClassId} {ad : Nat → Nat} {mh : vMH} {a n : Nat} {b : Bool} {f : Nat → Int32} (h : a < Λ.1) (hk : Λ.2 a = .inl (b, n)) : (v_ws Λ cA ad mh).set a (ad a, .inl (cond b cA.1 cA.2, n, .inl f)) = v_ws Λ cA ad (v_row mh.1 a f, mh.2) := by
  refine v_ws_row h ?_
  rw [hk]
  simp [v_ce, v_row]
theorem v_fs_set {ad : Nat → Nat} {mh : vMH} {r k : Nat} {fc : List Nat} {x : Int32} (h0 : fc[k]? = some 0) : v_fs ad (v_up mh r k x) r fc = (v_fs ad mh r fc).set k (.int x) := by
  apply List.ext_getElem?
  intro j
  have hl : k < fc.length := (List.getElem?_eq_some_iff.mp h0).1
  by_cases hj : j = k
  · subst hj
    rw [List.getElem?_set_self (by simp [v_fs, hl])]
    simp [v_fs, List.getElem?_mapIdx, h0, v_fv, v_up, v_row, upd]
  · rw [List.getElem?_set_ne (Ne.symm hj)]
    simp only [v_fs, List.getElem?_mapIdx]
    congr 1
    funext c
    match c with
    | 0 => simp [v_fv, v_up, v_row, upd, hj]
    | 1 => rfl
    | _ + 2 => rfl
theorem v_ws_up {Λ : vLay} {cA : ClassId × ClassId} {ad : Nat → Nat} {mh : vMH} {r k ci : Nat} {fc : List Nat} {x : Int32} (h : r < Λ.1) (hk : Λ.2 r = .inr (ci, fc)) (h0 : fc[k]? = some 0) : (v_ws Λ cA ad mh).set r (ad r, .inr (ci, (v_fs ad mh r fc).set k (.int x))) = v_ws Λ cA ad (v_up mh r k x) := by
  refine v_ws_row h ?_
  rw [hk]
  show Sum.inr (ci, v_fs ad (v_up mh r k x) r fc) = _
  rw [v_fs_set h0]
-- ===== locals =====
theorem v_lv_mem {ad : Nat → Nat} : ∀ (lv : List (Option Value)) (i : Nat) (q : Nat × Value), q ∈ v_lv ad i lv ↔ ∃ j v, lv[j]? = some (some v) ∧ q = (i + j, v_tr ad v)
  | [], i, q => by simp [v_lv]
  | none :: t, i, q => by
    rw [v_lv, v_lv_mem t (i + 1) q]
    constructor
    · rintro ⟨j, v, h1, h2⟩
      exact ⟨j + 1, v, by simpa using h1, by rw [h2]; congr 1; omega⟩
    · rintro ⟨j, v, h1, h2⟩
      cases j with
      | zero => simp at h1
      | succ j => exact ⟨j, v, by simpa using h1, by rw [h2]; congr 1; omega⟩
  | some w :: t, i, q => by
    rw [v_lv, List.mem_cons, v_lv_mem t (i + 1) q]
    constructor
    · rintro (h | ⟨j, v, h1, h2⟩)
      · exact ⟨0, w, by simp, by rw [h]; simp⟩
      · exact ⟨j + 1, v, by simpa using h1, by rw [h2]; congr 1; omega⟩
    · rintro ⟨j, v, h1, h2⟩
      cases j with
      | zero =>
        left
        simp at h1
        rw [h2, h1]; simp
      | succ j => exact Or.inr ⟨j, v, by simpa using h1, by rw [h2]; congr 1; omega⟩
theorem lv_mono {ls : Array Slot} {n : Nat} {l l' : List (Nat × Value)} (h : lv_has ls n l) (hs : ∀ q ∈ l', q ∈ l) : lv_has ls n l' := ⟨h.1, h.2.1, fun q hq => h.2.2 q (hs q hq)⟩
theorem v_lv_get {ad : Nat → Nat} {ls : Array Slot} {n : Nat} {lv : List (Option Value)} {i : Nat} {v : Value} (h : lv_has ls n (v_lv ad 0 lv)) (hi : lv[i]? = some (some v)) : ls[i]? = some (.val (v_tr ad v)) := by
  have := h.2.2 (i, v_tr ad v) ((v_lv_mem lv 0 _).mpr ⟨i, v, hi, by simp⟩)
  simpa using this
theorem v_tr_cat (ad : Nat → Nat) (v : Value) : (v_tr ad v).category = v.category := by cases v <;> rfl
/-- slot i holds no long whose second half is at i + 1 = k -/
def v_nl (lv : List (Option Value)) : Nat → Bool
  | 0 => true
  | k + 1 => match lv[k]? with
    | some (some (.long _)) => false
    | some (some (.double _)) => false
    | _ => true
theorem v_nl_spec {lv : List (Option Value)} {k : Nat} {v : Value} (h : v_nl lv (k + 1) = true) (hv : lv[k]? = some (some v)) : v.category = 1 := by
  simp only [v_nl, hv] at h
  cases v <;> first | rfl | (simp at h)
theorem v_lv_set1 {ad : Nat → Nat} {ls : Array Slot} {n : Nat} {lv : List (Option Value)} {i : Nat} {v : Value} {w : List (Nat × Value)} (hw : w = (i, v_tr ad v) :: (v_lv ad 0 lv).filter (fun q => !(q.1 == i) && !(q.1 + 1 == i && q.2.category == 2))) (h : lv_has ls n w) (hn : v_nl lv i = true) (hi : i < lv.length) : lv_has ls n (v_lv ad 0 (lv.set i (some v))) := by
  refine lv_mono h (fun q hq => ?_)
  obtain ⟨j, u, h1, h2⟩ := (v_lv_mem _ 0 q).mp hq
  rw [hw]
  by_cases hj : j = i
  · subst hj
    rw [List.getElem?_set_self hi] at h1
    cases h1
    rw [h2]; simp
  · rw [List.getElem?_set_ne (Ne.symm hj)] at h1
    refine List.mem_cons_of_mem _ (List.mem_filter.mpr ⟨(v_lv_mem _ 0 q).mpr ⟨j, u, h1, h2⟩, ?_⟩)
    rw [h2]
    simp only [Nat.zero_add, Bool.and_eq_true, Bool.not_eq_true', beq_eq_false_iff_ne, ne_eq, Bool.and_eq_false_iff]
    refine ⟨hj, ?_⟩
    by_cases hji : j + 1 = i
    · right
      subst hji
      rw [v_tr_cat, v_nl_spec hn h1]; decide
    · exact Or.inl hji
theorem v_lv_set2 {ad : Nat → Nat} {ls : Array Slot} {n : Nat} {lv : List (Option Value)} {i : Nat} {v : Value} {w : List (Nat × Value)} (hw : w = (i, v_tr ad v) :: (v_lv ad 0 lv).filter (fun q => !(q.1 == i) && (!(q.1 == i + 1) && !(q.1 + 1 == i && q.2.category == 2)))) (h : lv_has ls n w) (hn : v_nl lv i = true) (hi : i + 1 < lv.length) : lv_has ls n (v_lv ad 0 ((lv.set i (some v)).set (i + 1) none)) := by
  refine lv_mono h (fun q hq => ?_)
  obtain ⟨j, u, h1, h2⟩ := (v_lv_mem _ 0 q).mp hq
  rw [hw]
  by_cases hj1 : j = i + 1
  · subst hj1
    rw [List.getElem?_set_self (by simpa using hi)] at h1
    cases h1
  rw [List.getElem?_set_ne (Ne.symm hj1)] at h1
  by_cases hj : j = i
  · subst hj
    rw [List.getElem?_set_self (by omega)] at h1
    cases h1
    rw [h2]; simp
  · rw [List.getElem?_set_ne (Ne.symm hj)] at h1
    refine List.mem_cons_of_mem _ (List.mem_filter.mpr ⟨(v_lv_mem _ 0 q).mpr ⟨j, u, h1, h2⟩, ?_⟩)
    rw [h2]
    simp only [Nat.zero_add, Bool.and_eq_true, Bool.not_eq_true', beq_eq_false_iff_ne, ne_eq, Bool.and_eq_false_iff]
    refine ⟨hj, hj1, ?_⟩
    by_cases hji : j + 1 = i
    · right
      subst hji
      rw [v_tr_cat, v_nl_spec hn h1]; decide
    · exact Or.inl hji
theorem v_lv_en {ad : Nat → Nat} (k : Nat) : ∀ (vs : List Value) (i : Nat), v_lv ad i (v_en vs ++ List.replicate k none) = lv_args i (vs.map (v_tr ad))
  | [], i => by
    have : ∀ (k i : Nat), v_lv ad i (List.replicate k none) = [] := by
      intro k
      induction k with
      | zero => intro i; rfl
      | succ k ih => intro i; rw [List.replicate_succ, v_lv, ih]
    simp [v_en, lv_args, this]
  | v :: t, i => by
    rw [List.map_cons, lv_args, v_tr_cat]
    by_cases hc : v.category = 2
    · simp only [v_en, hc, if_true, List.cons_append, v_lv]
      rw [v_lv_en k t]
    · simp only [v_en, hc, if_false, List.cons_append, v_lv]
      rw [v_lv_en k t]
-- ===== words by their places =====
def CF (ci : Nat) (Cn : String) (T : u_T) (N : Nat) (ty : Nat → FieldType) : Prop := v_cl[ci]? = some (Cn, T, N) ∧ (∀ w ∈ u_ws Cn T N, w ∈ gw) ∧ (∀ k, k < N → parseFieldDescriptor (T k).2.2.1 = some (ty k)) ∧ ∀ a, a < N → ∀ b, b < N → a ≠ b → (T a).2.1 ≠ (T b).2.1
def FL (own : String) (idx : Nat) (T : u_T) (k : Nat) : Prop := Cond.fieldLink own idx (T k).1 (T k).2.1 (T k).2.2.1 ∈ gw
def LO (Λ : vLay) (r ci : Nat) (fc : List Nat) : Prop := r < Λ.1 ∧ Λ.2 r = .inr (ci, fc)
def LA (Λ : vLay) (r : Nat) (b : Bool) (n : Nat) : Prop := r < Λ.1 ∧ Λ.2 r = .inl (b, n)
theorem gw_good {w : Cond} (h : w ∈ gw) : (w.onTables && w.keeps) = true ∨ ∃ ty, w = .arrayClass ty := good_of_word (List.mem_filter.mp h).2
theorem inG (i : Nat) {w : Cond} (h : (decide (lw_tbl[i]? = some w) && goodWord w) = true) : w ∈ gw := by
  rw [Bool.and_eq_true, decide_eq_true_eq] at h
  exact List.mem_filter.mpr ⟨List.mem_of_getElem? h.1, h.2⟩
def CSV (own : String) (idx : Nat) (Cn : String) (y : MethodName) (ycc : ByteArray) (ynL : Nat) (yret : Option FieldType) (n : Nat) : Prop :=
  GoodIn gw (wsV own idx Cn y (.code y ycc ynL yret :: gw)) ∧ (y.cls = Cn ∧ y.cls ≠ "java/lang/invoke/MethodHandle" ∧ y.cls ≠ "java/lang/invoke/VarHandle" ∧ (parseMethodDescriptor y.desc).map (fun d => d.parameters.length) = some n)
def CSS (own : String) (idx : Nat) (y : MethodName) (ycc : ByteArray) (ynL : Nat) (yret : Option FieldType) (n : Nat) : Prop :=
  GoodIn gw (va_wsS own idx y (.code y ycc ynL yret :: gw)) ∧ (y.cls ≠ "java/lang/invoke/MethodHandle" ∧ y.cls ≠ "java/lang/invoke/VarHandle" ∧ (parseMethodDescriptor y.desc).map (fun d => d.parameters.length) = some n)
def CSN (own : String) (idx : Nat) (y : MethodName) (ycc : ByteArray) (ynL : Nat) (yret : Option FieldType) (n : Nat) : Prop :=
  (Cond.methodLinkNest own idx y RX5 ∈ v_nest ∧ Cond.static y ∈ gw ∧ Cond.initialized y.cls ∈ gw ∧ Cond.code y ycc ynL yret ∈ gw) ∧ (y.cls ≠ "java/lang/invoke/MethodHandle" ∧ y.cls ≠ "java/lang/invoke/VarHandle" ∧ (parseMethodDescriptor y.desc).map (fun d => d.parameters.length) = some n)
theorem gw_self : GoodIn gw gw := fun w h => ⟨h, gw_good h⟩
theorem gw_cons {ws : List Cond} {w : Cond} (h : w ∈ gw) (hs : GoodIn gw ws) : GoodIn gw (w :: ws) := by
  intro v hv
  rcases List.mem_cons.mp hv with rfl | hv
  · exact ⟨h, gw_good h⟩
  · exact hs v hv
