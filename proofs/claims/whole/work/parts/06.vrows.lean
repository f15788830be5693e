/-! LAYER V, its rows: an instruction each -/
def jr (x y : Int32) : Int32 := x - x / y * y
def jrl (x y : Int64) : Int64 := x - x / y * y
def jl (x y : Int32) : Int32 := x <<< (y &&& 31)
def js (x y : Int32) : Int32 := x >>> (y &&& 31)
def ju (x y : Int32) : Int32 := (x.toUInt32 >>> (y.toUInt32 &&& Int32.toUInt32 31)).toInt32
def jmax (x y : Int32) : Int32 := if x < y then y else x
def jmin (x y : Int32) : Int32 := if y < x then y else x
def jabs (x : Int32) : Int32 := if 0 ≤ x then x else 0 - x
def jn (i : Int32) : Nat := i.toNatClampNeg
abbrev inb (i : Int32) (n : Nat) : Prop := ¬ (i < 0 ∨ n ≤ jn i)
abbrev inc (sp dp n : Int32) (n0 n1 : Nat) : Prop := ¬ sp < 0 ∧ ¬ dp < 0 ∧ ¬ n < 0 ∧ jn sp + jn n ≤ n0 ∧ jn dp + jn n ≤ n1
section VROWS
variable {Λ : vLay} {X : vX} {d nL pc : Nat} {cc : ByteArray} {own : String} {ret : Option FieldType} {lv : List (Option Value)} {st : List Value} {mh : vMH}
theorem V_iconst (C : Cx X d nL cc own ret) {n : Int} {v : Int32} (hd : decode cc pc = .ok (.iconst n, 1)) (hv : Int32.ofInt n = v) (k : Vw Λ X d nL (pc + 1) lv (.int v :: st) mh) : Vw Λ X d nL pc lv (st) mh := by
  obtain ⟨p, l, e, s, m, args, below, meth, c, D, cA, ad, A, Qc⟩ := X
  obtain ⟨hx, hb, hml, hown, hts, hret, hlk, hK, hA, hE⟩ := C
  intro H locs ls hP hD hS hl
  exact lv_iconst hx hb hd hv (k H locs ls hP hD hS hl)
theorem V_bipush (C : Cx X d nL cc own ret) {n : Int} {v : Int32} (hd : decode cc pc = .ok (.bipush n, 2)) (hv : (Int8.ofInt n).toInt32 = v) (k : Vw Λ X d nL (pc + 2) lv (.int v :: st) mh) : Vw Λ X d nL pc lv (st) mh := by
  obtain ⟨p, l, e, s, m, args, below, meth, c, D, cA, ad, A, Qc⟩ := X
  obtain ⟨hx, hb, hml, hown, hts, hret, hlk, hK, hA, hE⟩ := C
  intro H locs ls hP hD hS hl
  exact lv_bipush hx hb hd hv (k H locs ls hP hD hS hl)
theorem V_sipush (C : Cx X d nL cc own ret) {n : Int} {v : Int32} (hd : decode cc pc = .ok (.sipush n, 3)) (hv : (Int16.ofInt n).toInt32 = v) (k : Vw Λ X d nL (pc + 3) lv (.int v :: st) mh) : Vw Λ X d nL pc lv (st) mh := by
  obtain ⟨p, l, e, s, m, args, below, meth, c, D, cA, ad, A, Qc⟩ := X
  obtain ⟨hx, hb, hml, hown, hts, hret, hlk, hK, hA, hE⟩ := C
  intro H locs ls hP hD hS hl
  exact lv_sipush hx hb hd hv (k H locs ls hP hD hS hl)
theorem V_lconst (C : Cx X d nL cc own ret) {n : Fin 2} {v : Int64} (hd : decode cc pc = .ok (.lconst n, 1)) (hv : Int64.ofNat (n : Nat) = v) (k : Vw Λ X d nL (pc + 1) lv (.long v :: st) mh) : Vw Λ X d nL pc lv (st) mh := by
  obtain ⟨p, l, e, s, m, args, below, meth, c, D, cA, ad, A, Qc⟩ := X
  obtain ⟨hx, hb, hml, hown, hts, hret, hlk, hK, hA, hE⟩ := C
  intro H locs ls hP hD hS hl
  exact lv_lconst hx hb hd hv (k H locs ls hP hD hS hl)
theorem V_ldc (C : Cx X d nL cc own ret) {i : Nat} {v : Int32} (hd : decode cc pc = .ok (.ldc i, 2)) (hg : Cond.constant own i v ∈ gw) (k : Vw Λ X d nL (pc + 2) lv (.int v :: st) mh) : Vw Λ X d nL pc lv (st) mh := by
  obtain ⟨p, l, e, s, m, args, below, meth, c, D, cA, ad, A, Qc⟩ := X
  obtain ⟨hx, hb, hml, hown, hts, hret, hlk, hK, hA, hE⟩ := C
  intro H locs ls hP hD hS hl
  exact lv_ldc hx hb hown (hts _ hg) hd (k H locs ls hP hD hS hl)
theorem V_ldcw (C : Cx X d nL cc own ret) {i : Nat} {v : Int32} (hd : decode cc pc = .ok (.ldc_w i, 3)) (hg : Cond.constant own i v ∈ gw) (k : Vw Λ X d nL (pc + 3) lv (.int v :: st) mh) : Vw Λ X d nL pc lv (st) mh := by
  obtain ⟨p, l, e, s, m, args, below, meth, c, D, cA, ad, A, Qc⟩ := X
  obtain ⟨hx, hb, hml, hown, hts, hret, hlk, hK, hA, hE⟩ := C
  intro H locs ls hP hD hS hl
  exact lv_ldcw hx hb hown (hts _ hg) hd (k H locs ls hP hD hS hl)
theorem V_ldc2 (C : Cx X d nL cc own ret) {i : Nat} {v : Int64} (hd : decode cc pc = .ok (.ldc2_w i, 3)) (hg : Cond.constantLong own i v ∈ gw) (k : Vw Λ X d nL (pc + 3) lv (.long v :: st) mh) : Vw Λ X d nL pc lv (st) mh := by
  obtain ⟨p, l, e, s, m, args, below, meth, c, D, cA, ad, A, Qc⟩ := X
  obtain ⟨hx, hb, hml, hown, hts, hret, hlk, hK, hA, hE⟩ := C
  intro H locs ls hP hD hS hl
  exact lv_ldc2 hx hb hown (hts _ hg) hd (k H locs ls hP hD hS hl)
theorem V_iload_n (C : Cx X d nL cc own ret) {j : Fin 4} {i : Nat} {x : Int32} (hd : decode cc pc = .ok (.iload_n j, 1)) (hi : (j : Nat) = i) (hv : lv[i]? = some (some (.int x))) (k : Vw Λ X d nL (pc + 1) lv (.int x :: st) mh) : Vw Λ X d nL pc lv (st) mh := by
  obtain ⟨p, l, e, s, m, args, below, meth, c, D, cA, ad, A, Qc⟩ := X
  obtain ⟨hx, hb, hml, hown, hts, hret, hlk, hK, hA, hE⟩ := C
  intro H locs ls hP hD hS hl
  exact lv_iload_n hx hb hd hi (v_lv_get hl hv) (k H locs ls hP hD hS hl)
theorem V_iload (C : Cx X d nL cc own ret) {i : Nat} {x : Int32} (hd : decode cc pc = .ok (.iload i, 2)) (hv : lv[i]? = some (some (.int x))) (k : Vw Λ X d nL (pc + 2) lv (.int x :: st) mh) : Vw Λ X d nL pc lv (st) mh := by
  obtain ⟨p, l, e, s, m, args, below, meth, c, D, cA, ad, A, Qc⟩ := X
  obtain ⟨hx, hb, hml, hown, hts, hret, hlk, hK, hA, hE⟩ := C
  intro H locs ls hP hD hS hl
  exact lv_iload hx hb hd (v_lv_get hl hv) (k H locs ls hP hD hS hl)
theorem V_lload_n (C : Cx X d nL cc own ret) {j : Fin 4} {i : Nat} {x : Int64} (hd : decode cc pc = .ok (.lload_n j, 1)) (hi : (j : Nat) = i) (hv : lv[i]? = some (some (.long x))) (k : Vw Λ X d nL (pc + 1) lv (.long x :: st) mh) : Vw Λ X d nL pc lv (st) mh := by
  obtain ⟨p, l, e, s, m, args, below, meth, c, D, cA, ad, A, Qc⟩ := X
  obtain ⟨hx, hb, hml, hown, hts, hret, hlk, hK, hA, hE⟩ := C
  intro H locs ls hP hD hS hl
  exact lv_lload_n hx hb hd hi (v_lv_get hl hv) (k H locs ls hP hD hS hl)
theorem V_lload (C : Cx X d nL cc own ret) {i : Nat} {x : Int64} (hd : decode cc pc = .ok (.lload i, 2)) (hv : lv[i]? = some (some (.long x))) (k : Vw Λ X d nL (pc + 2) lv (.long x :: st) mh) : Vw Λ X d nL pc lv (st) mh := by
  obtain ⟨p, l, e, s, m, args, below, meth, c, D, cA, ad, A, Qc⟩ := X
  obtain ⟨hx, hb, hml, hown, hts, hret, hlk, hK, hA, hE⟩ := C
  intro H locs ls hP hD hS hl
  exact lv_lload hx hb hd (v_lv_get hl hv) (k H locs ls hP hD hS hl)
theorem V_aload_n (C : Cx X d nL cc own ret) {j : Fin 4} {i r : Nat} (hd : decode cc pc = .ok (.aload_n j, 1)) (hi : (j : Nat) = i) (hv : lv[i]? = some (some (.ref r))) (k : Vw Λ X d nL (pc + 1) lv (.ref r :: st) mh) : Vw Λ X d nL pc lv (st) mh := by
  obtain ⟨p, l, e, s, m, args, below, meth, c, D, cA, ad, A, Qc⟩ := X
  obtain ⟨hx, hb, hml, hown, hts, hret, hlk, hK, hA, hE⟩ := C
  intro H locs ls hP hD hS hl
  exact lv_aload_n hx hb hd hi (v_lv_get hl hv) (k H locs ls hP hD hS hl)
theorem V_aload (C : Cx X d nL cc own ret) {i r : Nat} (hd : decode cc pc = .ok (.aload i, 2)) (hv : lv[i]? = some (some (.ref r))) (k : Vw Λ X d nL (pc + 2) lv (.ref r :: st) mh) : Vw Λ X d nL pc lv (st) mh := by
  obtain ⟨p, l, e, s, m, args, below, meth, c, D, cA, ad, A, Qc⟩ := X
  obtain ⟨hx, hb, hml, hown, hts, hret, hlk, hK, hA, hE⟩ := C
  intro H locs ls hP hD hS hl
  exact lv_aload hx hb hd (v_lv_get hl hv) (k H locs ls hP hD hS hl)
theorem V_istore_n (C : Cx X d nL cc own ret) {j : Fin 4} {i : Nat} {x : Int32} {lv' : List (Option Value)} (hd : decode cc pc = .ok (.istore_n j, 1)) (hj : (j : Nat) = i) (hn : i < nL) (hi : i < lv.length) (hq : v_nl lv i = true) (hlv : (lv.set i (some (.int x))) = lv') (k : Vw Λ X d nL (pc + 1) lv' st mh) : Vw Λ X d nL pc lv (.int x :: st) mh := by
  subst hlv
  obtain ⟨p, l, e, s, m, args, below, meth, c, D, cA, ad, A, Qc⟩ := X
  obtain ⟨hx, hb, hml, hown, hts, hret, hlk, hK, hA, hE⟩ := C
  intro H locs ls hP hD hS hl
  exact lv_istore_n hx hb hd hj hl hn rfl (fun ls' hl' => k H locs ls' hP hD hS (v_lv_set1 (v := .int x) rfl hl' hq hi))
theorem V_istore (C : Cx X d nL cc own ret) {i : Nat} {x : Int32} {lv' : List (Option Value)} (hd : decode cc pc = .ok (.istore i, 2)) (hn : i < nL) (hi : i < lv.length) (hq : v_nl lv i = true) (hlv : (lv.set i (some (.int x))) = lv') (k : Vw Λ X d nL (pc + 2) lv' st mh) : Vw Λ X d nL pc lv (.int x :: st) mh := by
  subst hlv
  obtain ⟨p, l, e, s, m, args, below, meth, c, D, cA, ad, A, Qc⟩ := X
  obtain ⟨hx, hb, hml, hown, hts, hret, hlk, hK, hA, hE⟩ := C
  intro H locs ls hP hD hS hl
  exact lv_istore hx hb hd hl hn rfl (fun ls' hl' => k H locs ls' hP hD hS (v_lv_set1 (v := .int x) rfl hl' hq hi))
theorem V_lstore_n (C : Cx X d nL cc own ret) {j : Fin 4} {i : Nat} {x : Int64} {lv' : List (Option Value)} (hd : decode cc pc = .ok (.lstore_n j, 1)) (hj : (j : Nat) = i) (hn : i + 1 < nL) (hi : i + 1 < lv.length) (hq : v_nl lv i = true) (hlv : ((lv.set i (some (.long x))).set (i + 1) none) = lv') (k : Vw Λ X d nL (pc + 1) lv' st mh) : Vw Λ X d nL pc lv (.long x :: st) mh := by
  subst hlv
  obtain ⟨p, l, e, s, m, args, below, meth, c, D, cA, ad, A, Qc⟩ := X
  obtain ⟨hx, hb, hml, hown, hts, hret, hlk, hK, hA, hE⟩ := C
  intro H locs ls hP hD hS hl
  exact lv_lstore_n hx hb hd hj hl hn rfl (fun ls' hl' => k H locs ls' hP hD hS (v_lv_set2 (v := .long x) rfl hl' hq hi))
theorem V_lstore (C : Cx X d nL cc own ret) {i : Nat} {x : Int64} {lv' : List (Option Value)} (hd : decode cc pc = .ok (.lstore i, 2)) (hn : i + 1 < nL) (hi : i + 1 < lv.length) (hq : v_nl lv i = true) (hlv : ((lv.set i (some (.long x))).set (i + 1) none) = lv') (k : Vw Λ X d nL (pc + 2) lv' st mh) : Vw Λ X d nL pc lv (.long x :: st) mh := by
  subst hlv
  obtain ⟨p, l, e, s, m, args, below, meth, c, D, cA, ad, A, Qc⟩ := X
  obtain ⟨hx, hb, hml, hown, hts, hret, hlk, hK, hA, hE⟩ := C
  intro H locs ls hP hD hS hl
  exact lv_lstore hx hb hd hl hn rfl (fun ls' hl' => k H locs ls' hP hD hS (v_lv_set2 (v := .long x) rfl hl' hq hi))
theorem V_iinc (C : Cx X d nL cc own ret) {i : Nat} {n : Int} {x : Int32} (hd : decode cc pc = .ok (.iinc i n, 3)) (hv : lv[i]? = some (some (.int x))) {v : Int32} (hvn : x + Int32.ofInt n = v) {lv' : List (Option Value)} (hn : i < nL) (hi : i < lv.length) (hq : v_nl lv i = true) (hlv : lv.set i (some (.int v)) = lv') (k : Vw Λ X d nL (pc + 3) lv' st mh) : Vw Λ X d nL pc lv st mh := by
  subst hlv
  obtain ⟨p, l, e, s, m, args, below, meth, c, D, cA, ad, A, Qc⟩ := X
  obtain ⟨hx, hb, hml, hown, hts, hret, hlk, hK, hA, hE⟩ := C
  intro H locs ls hP hD hS hl
  obtain ⟨j, hj⟩ := List.getElem?_of_mem ((v_lv_mem (ad := ad) lv 0 (i, .int x)).mpr ⟨i, .int x, hv, by simp [v_tr]⟩)
  exact lv_iinc hx hb hd hl hj hvn hn rfl (fun ls' hl' => k H locs ls' hP hD hS (v_lv_set1 (v := .int v) rfl hl' hq hi))
theorem V_iadd (C : Cx X d nL cc own ret) {x y : Int32} (hd : decode cc pc = .ok (.iadd, 1)) (k : Vw Λ X d nL (pc + 1) lv (.int (x + y) :: st) mh) : Vw Λ X d nL pc lv (.int y :: .int x :: st) mh := by
  obtain ⟨p, l, e, s, m, args, below, meth, c, D, cA, ad, A, Qc⟩ := X
  obtain ⟨hx, hb, hml, hown, hts, hret, hlk, hK, hA, hE⟩ := C
  intro H locs ls hP hD hS hl
  exact lv_iadd hx hb hd (k H locs ls hP hD hS hl)
theorem V_isub (C : Cx X d nL cc own ret) {x y : Int32} (hd : decode cc pc = .ok (.isub, 1)) (k : Vw Λ X d nL (pc + 1) lv (.int (x - y) :: st) mh) : Vw Λ X d nL pc lv (.int y :: .int x :: st) mh := by
  obtain ⟨p, l, e, s, m, args, below, meth, c, D, cA, ad, A, Qc⟩ := X
  obtain ⟨hx, hb, hml, hown, hts, hret, hlk, hK, hA, hE⟩ := C
  intro H locs ls hP hD hS hl
  exact lv_isub hx hb hd (k H locs ls hP hD hS hl)
theorem V_imul (C : Cx X d nL cc own ret) {x y : Int32} (hd : decode cc pc = .ok (.imul, 1)) (k : Vw Λ X d nL (pc + 1) lv (.int (x * y) :: st) mh) : Vw Λ X d nL pc lv (.int y :: .int x :: st) mh := by
  obtain ⟨p, l, e, s, m, args, below, meth, c, D, cA, ad, A, Qc⟩ := X
  obtain ⟨hx, hb, hml, hown, hts, hret, hlk, hK, hA, hE⟩ := C
  intro H locs ls hP hD hS hl
  exact lv_imul hx hb hd (k H locs ls hP hD hS hl)
theorem V_iand (C : Cx X d nL cc own ret) {x y : Int32} (hd : decode cc pc = .ok (.iand, 1)) (k : Vw Λ X d nL (pc + 1) lv (.int (x &&& y) :: st) mh) : Vw Λ X d nL pc lv (.int y :: .int x :: st) mh := by
  obtain ⟨p, l, e, s, m, args, below, meth, c, D, cA, ad, A, Qc⟩ := X
  obtain ⟨hx, hb, hml, hown, hts, hret, hlk, hK, hA, hE⟩ := C
  intro H locs ls hP hD hS hl
  exact lv_iand hx hb hd (k H locs ls hP hD hS hl)
theorem V_ior (C : Cx X d nL cc own ret) {x y : Int32} (hd : decode cc pc = .ok (.ior, 1)) (k : Vw Λ X d nL (pc + 1) lv (.int (x ||| y) :: st) mh) : Vw Λ X d nL pc lv (.int y :: .int x :: st) mh := by
  obtain ⟨p, l, e, s, m, args, below, meth, c, D, cA, ad, A, Qc⟩ := X
  obtain ⟨hx, hb, hml, hown, hts, hret, hlk, hK, hA, hE⟩ := C
  intro H locs ls hP hD hS hl
  exact lv_ior hx hb hd (k H locs ls hP hD hS hl)
theorem V_ixor (C : Cx X d nL cc own ret) {x y : Int32} (hd : decode cc pc = .ok (.ixor, 1)) (k : Vw Λ X d nL (pc + 1) lv (.int (x ^^^ y) :: st) mh) : Vw Λ X d nL pc lv (.int y :: .int x :: st) mh := by
  obtain ⟨p, l, e, s, m, args, below, meth, c, D, cA, ad, A, Qc⟩ := X
  obtain ⟨hx, hb, hml, hown, hts, hret, hlk, hK, hA, hE⟩ := C
  intro H locs ls hP hD hS hl
  exact lv_ixor hx hb hd (k H locs ls hP hD hS hl)
theorem V_ishl (C : Cx X d nL cc own ret) {x y : Int32} (hd : decode cc pc = .ok (.ishl, 1)) (k : Vw Λ X d nL (pc + 1) lv (.int (jl x y) :: st) mh) : Vw Λ X d nL pc lv (.int y :: .int x :: st) mh := by
  obtain ⟨p, l, e, s, m, args, below, meth, c, D, cA, ad, A, Qc⟩ := X
  obtain ⟨hx, hb, hml, hown, hts, hret, hlk, hK, hA, hE⟩ := C
  intro H locs ls hP hD hS hl
  exact lv_ishl hx hb hd (k H locs ls hP hD hS hl)
theorem V_ishr (C : Cx X d nL cc own ret) {x y : Int32} (hd : decode cc pc = .ok (.ishr, 1)) (k : Vw Λ X d nL (pc + 1) lv (.int (js x y) :: st) mh) : Vw Λ X d nL pc lv (.int y :: .int x :: st) mh := by
  obtain ⟨p, l, e, s, m, args, below, meth, c, D, cA, ad, A, Qc⟩ := X
  obtain ⟨hx, hb, hml, hown, hts, hret, hlk, hK, hA, hE⟩ := C
  intro H locs ls hP hD hS hl
  exact lv_ishr hx hb hd (k H locs ls hP hD hS hl)
theorem V_iushr (C : Cx X d nL cc own ret) {x y : Int32} (hd : decode cc pc = .ok (.iushr, 1)) (k : Vw Λ X d nL (pc + 1) lv (.int (ju x y) :: st) mh) : Vw Λ X d nL pc lv (.int y :: .int x :: st) mh := by
  obtain ⟨p, l, e, s, m, args, below, meth, c, D, cA, ad, A, Qc⟩ := X
  obtain ⟨hx, hb, hml, hown, hts, hret, hlk, hK, hA, hE⟩ := C
  intro H locs ls hP hD hS hl
  exact lv_iushr hx hb hd (v := ju x y) rfl (k H locs ls hP hD hS hl)
theorem V_idiv (C : Cx X d nL cc own ret) {x y : Int32} (hd : decode cc pc = .ok (.idiv, 1)) (hne : ¬ y = 0) (k : Vw Λ X d nL (pc + 1) lv (.int (x / y) :: st) mh) : Vw Λ X d nL pc lv (.int y :: .int x :: st) mh := by
  obtain ⟨p, l, e, s, m, args, below, meth, c, D, cA, ad, A, Qc⟩ := X
  obtain ⟨hx, hb, hml, hown, hts, hret, hlk, hK, hA, hE⟩ := C
  intro H locs ls hP hD hS hl
  exact lv_idiv hx hb hd hne (k H locs ls hP hD hS hl)
theorem V_irem (C : Cx X d nL cc own ret) {x y : Int32} (hd : decode cc pc = .ok (.irem, 1)) (hne : ¬ y = 0) (k : Vw Λ X d nL (pc + 1) lv (.int (jr x y) :: st) mh) : Vw Λ X d nL pc lv (.int y :: .int x :: st) mh := by
  obtain ⟨p, l, e, s, m, args, below, meth, c, D, cA, ad, A, Qc⟩ := X
  obtain ⟨hx, hb, hml, hown, hts, hret, hlk, hK, hA, hE⟩ := C
  intro H locs ls hP hD hS hl
  exact lv_irem hx hb hd hne (k H locs ls hP hD hS hl)
theorem V_ineg (C : Cx X d nL cc own ret) {x : Int32} (hd : decode cc pc = .ok (.ineg, 1)) (k : Vw Λ X d nL (pc + 1) lv (.int (-x) :: st) mh) : Vw Λ X d nL pc lv (.int x :: st) mh := by
  obtain ⟨p, l, e, s, m, args, below, meth, c, D, cA, ad, A, Qc⟩ := X
  obtain ⟨hx, hb, hml, hown, hts, hret, hlk, hK, hA, hE⟩ := C
  intro H locs ls hP hD hS hl
  exact lv_ineg hx hb hd (k H locs ls hP hD hS hl)
theorem V_ladd (C : Cx X d nL cc own ret) {x y : Int64} (hd : decode cc pc = .ok (.ladd, 1)) (k : Vw Λ X d nL (pc + 1) lv (.long (x + y) :: st) mh) : Vw Λ X d nL pc lv (.long y :: .long x :: st) mh := by
  obtain ⟨p, l, e, s, m, args, below, meth, c, D, cA, ad, A, Qc⟩ := X
  obtain ⟨hx, hb, hml, hown, hts, hret, hlk, hK, hA, hE⟩ := C
  intro H locs ls hP hD hS hl
  exact lv_ladd hx hb hd (k H locs ls hP hD hS hl)
theorem V_lsub (C : Cx X d nL cc own ret) {x y : Int64} (hd : decode cc pc = .ok (.lsub, 1)) (k : Vw Λ X d nL (pc + 1) lv (.long (x - y) :: st) mh) : Vw Λ X d nL pc lv (.long y :: .long x :: st) mh := by
  obtain ⟨p, l, e, s, m, args, below, meth, c, D, cA, ad, A, Qc⟩ := X
  obtain ⟨hx, hb, hml, hown, hts, hret, hlk, hK, hA, hE⟩ := C
  intro H locs ls hP hD hS hl
  exact lv_lsub hx hb hd (k H locs ls hP hD hS hl)
theorem V_lmul (C : Cx X d nL cc own ret) {x y : Int64} (hd : decode cc pc = .ok (.lmul, 1)) (k : Vw Λ X d nL (pc + 1) lv (.long (x * y) :: st) mh) : Vw Λ X d nL pc lv (.long y :: .long x :: st) mh := by
  obtain ⟨p, l, e, s, m, args, below, meth, c, D, cA, ad, A, Qc⟩ := X
  obtain ⟨hx, hb, hml, hown, hts, hret, hlk, hK, hA, hE⟩ := C
  intro H locs ls hP hD hS hl
  exact lv_lmul hx hb hd (k H locs ls hP hD hS hl)
theorem V_ldiv (C : Cx X d nL cc own ret) {x y : Int64} (hd : decode cc pc = .ok (.ldiv, 1)) (hne : ¬ y = 0) (k : Vw Λ X d nL (pc + 1) lv (.long (x / y) :: st) mh) : Vw Λ X d nL pc lv (.long y :: .long x :: st) mh := by
  obtain ⟨p, l, e, s, m, args, below, meth, c, D, cA, ad, A, Qc⟩ := X
  obtain ⟨hx, hb, hml, hown, hts, hret, hlk, hK, hA, hE⟩ := C
  intro H locs ls hP hD hS hl
  exact lv_ldiv hx hb hd hne (k H locs ls hP hD hS hl)
theorem V_lrem (C : Cx X d nL cc own ret) {x y : Int64} (hd : decode cc pc = .ok (.lrem, 1)) (hne : ¬ y = 0) (k : Vw Λ X d nL (pc + 1) lv (.long (jrl x y) :: st) mh) : Vw Λ X d nL pc lv (.long y :: .long x :: st) mh := by
  obtain ⟨p, l, e, s, m, args, below, meth, c, D, cA, ad, A, Qc⟩ := X
  obtain ⟨hx, hb, hml, hown, hts, hret, hlk, hK, hA, hE⟩ := C
  intro H locs ls hP hD hS hl
  exact lv_lrem hx hb hd hne (k H locs ls hP hD hS hl)
theorem V_lcmp (C : Cx X d nL cc own ret) {x y : Int64} (hd : decode cc pc = .ok (.lcmp, 1)) (k : Vw Λ X d nL (pc + 1) lv (.int (lg_cmp x y) :: st) mh) : Vw Λ X d nL pc lv (.long y :: .long x :: st) mh := by
  obtain ⟨p, l, e, s, m, args, below, meth, c, D, cA, ad, A, Qc⟩ := X
  obtain ⟨hx, hb, hml, hown, hts, hret, hlk, hK, hA, hE⟩ := C
  intro H locs ls hP hD hS hl
  exact W.lcmp hx hb hd (k H locs ls hP hD hS hl)
theorem V_i2l (C : Cx X d nL cc own ret) {x : Int32} (hd : decode cc pc = .ok (.i2l, 1)) (k : Vw Λ X d nL (pc + 1) lv (.long x.toInt64 :: st) mh) : Vw Λ X d nL pc lv (.int x :: st) mh := by
  obtain ⟨p, l, e, s, m, args, below, meth, c, D, cA, ad, A, Qc⟩ := X
  obtain ⟨hx, hb, hml, hown, hts, hret, hlk, hK, hA, hE⟩ := C
  intro H locs ls hP hD hS hl
  exact lv_i2l hx hb hd (v := x.toInt64) rfl (k H locs ls hP hD hS hl)
theorem V_l2i (C : Cx X d nL cc own ret) {x : Int64} (hd : decode cc pc = .ok (.l2i, 1)) (k : Vw Λ X d nL (pc + 1) lv (.int x.toInt32 :: st) mh) : Vw Λ X d nL pc lv (.long x :: st) mh := by
  obtain ⟨p, l, e, s, m, args, below, meth, c, D, cA, ad, A, Qc⟩ := X
  obtain ⟨hx, hb, hml, hown, hts, hret, hlk, hK, hA, hE⟩ := C
  intro H locs ls hP hD hS hl
  exact lv_l2i hx hb hd (v := x.toInt32) rfl (k H locs ls hP hD hS hl)
theorem V_i2b (C : Cx X d nL cc own ret) {x : Int32} (hd : decode cc pc = .ok (.i2b, 1)) (k : Vw Λ X d nL (pc + 1) lv (.int x.toInt8.toInt32 :: st) mh) : Vw Λ X d nL pc lv (.int x :: st) mh := by
  obtain ⟨p, l, e, s, m, args, below, meth, c, D, cA, ad, A, Qc⟩ := X
  obtain ⟨hx, hb, hml, hown, hts, hret, hlk, hK, hA, hE⟩ := C
  intro H locs ls hP hD hS hl
  exact lv_i2b hx hb hd (v := x.toInt8.toInt32) rfl (k H locs ls hP hD hS hl)
theorem V_i2s (C : Cx X d nL cc own ret) {x : Int32} (hd : decode cc pc = .ok (.i2s, 1)) (k : Vw Λ X d nL (pc + 1) lv (.int x.toInt16.toInt32 :: st) mh) : Vw Λ X d nL pc lv (.int x :: st) mh := by
  obtain ⟨p, l, e, s, m, args, below, meth, c, D, cA, ad, A, Qc⟩ := X
  obtain ⟨hx, hb, hml, hown, hts, hret, hlk, hK, hA, hE⟩ := C
  intro H locs ls hP hD hS hl
  exact lv_i2s hx hb hd (v := x.toInt16.toInt32) rfl (k H locs ls hP hD hS hl)
theorem V_dup (C : Cx X d nL cc own ret) {v : Value} (hd : decode cc pc = .ok (.dup, 1)) (hc : v.category = 1) (k : Vw Λ X d nL (pc + 1) lv (v :: v :: st) mh) : Vw Λ X d nL pc lv (v :: st) mh := by
  obtain ⟨p, l, e, s, m, args, below, meth, c, D, cA, ad, A, Qc⟩ := X
  obtain ⟨hx, hb, hml, hown, hts, hret, hlk, hK, hA, hE⟩ := C
  intro H locs ls hP hD hS hl
  exact lv_dup hx hb hd (by rw [v_tr_cat]; exact hc) (k H locs ls hP hD hS hl)
theorem V_pop (C : Cx X d nL cc own ret) {v : Value} (hd : decode cc pc = .ok (.pop, 1)) (hc : v.category = 1) (k : Vw Λ X d nL (pc + 1) lv (st) mh) : Vw Λ X d nL pc lv (v :: st) mh := by
  obtain ⟨p, l, e, s, m, args, below, meth, c, D, cA, ad, A, Qc⟩ := X
  obtain ⟨hx, hb, hml, hown, hts, hret, hlk, hK, hA, hE⟩ := C
  intro H locs ls hP hD hS hl
  exact lv_pop hx hb hd (by rw [v_tr_cat]; exact hc) (k H locs ls hP hD hS hl)
theorem V_dup2 (C : Cx X d nL cc own ret) {v w : Value} (hd : decode cc pc = .ok (.dup2, 1)) (hc : v.category = 1) (hc2 : w.category = 1) (k : Vw Λ X d nL (pc + 1) lv (v :: w :: v :: w :: st) mh) : Vw Λ X d nL pc lv (v :: w :: st) mh := by
  obtain ⟨p, l, e, s, m, args, below, meth, c, D, cA, ad, A, Qc⟩ := X
  obtain ⟨hx, hb, hml, hown, hts, hret, hlk, hK, hA, hE⟩ := C
  intro H locs ls hP hD hS hl
  exact lv_dup2_11 hx hb hd (by rw [v_tr_cat]; exact hc) (by rw [v_tr_cat]; exact hc2) (k H locs ls hP hD hS hl)
theorem V_goto (C : Cx X d nL cc own ret) {off : Int} {tgt : Nat} (hd : decode cc pc = .ok (.goto off, 3)) (ht : (pc : Int) + off = (tgt : Int)) (k : Vw Λ X d nL tgt lv st mh) : Vw Λ X d nL pc lv st mh := by
  obtain ⟨p, l, e, s, m, args, below, meth, c, D, cA, ad, A, Qc⟩ := X
  obtain ⟨hx, hb, hml, hown, hts, hret, hlk, hK, hA, hE⟩ := C
  intro H locs ls hP hD hS hl
  exact lv_goto hx hb hd ht (k H locs ls hP hD hS hl)
theorem V_ifeq (C : Cx X d nL cc own ret) {x : Int32} {off : Int} {tgt : Nat} (hd : decode cc pc = .ok (.ifCond .eq off, 3)) (ht : (pc : Int) + off = (tgt : Int)) (kt : x = 0 → Vw Λ X d nL tgt lv st mh) (kf : ¬ x = 0 → Vw Λ X d nL (pc + 3) lv st mh) : Vw Λ X d nL pc lv (.int x :: st) mh := by
  obtain ⟨p, l, e, s, m, args, below, meth, c, D, cA, ad, A, Qc⟩ := X
  obtain ⟨hx, hb, hml, hown, hts, hret, hlk, hK, hA, hE⟩ := C
  intro H locs ls hP hD hS hl
  exact lv_if_eq hx hb hd ht (fun h => kt h H locs ls hP hD hS hl) (fun h => kf h H locs ls hP hD hS hl)
theorem V_iflt (C : Cx X d nL cc own ret) {x : Int32} {off : Int} {tgt : Nat} (hd : decode cc pc = .ok (.ifCond .lt off, 3)) (ht : (pc : Int) + off = (tgt : Int)) (kt : x < 0 → Vw Λ X d nL tgt lv st mh) (kf : ¬ x < 0 → Vw Λ X d nL (pc + 3) lv st mh) : Vw Λ X d nL pc lv (.int x :: st) mh := by
  obtain ⟨p, l, e, s, m, args, below, meth, c, D, cA, ad, A, Qc⟩ := X
  obtain ⟨hx, hb, hml, hown, hts, hret, hlk, hK, hA, hE⟩ := C
  intro H locs ls hP hD hS hl
  exact lv_if_lt hx hb hd ht (fun h => kt h H locs ls hP hD hS hl) (fun h => kf h H locs ls hP hD hS hl)
theorem V_ifge (C : Cx X d nL cc own ret) {x : Int32} {off : Int} {tgt : Nat} (hd : decode cc pc = .ok (.ifCond .ge off, 3)) (ht : (pc : Int) + off = (tgt : Int)) (kt : 0 ≤ x → Vw Λ X d nL tgt lv st mh) (kf : ¬ 0 ≤ x → Vw Λ X d nL (pc + 3) lv st mh) : Vw Λ X d nL pc lv (.int x :: st) mh := by
  obtain ⟨p, l, e, s, m, args, below, meth, c, D, cA, ad, A, Qc⟩ := X
  obtain ⟨hx, hb, hml, hown, hts, hret, hlk, hK, hA, hE⟩ := C
  intro H locs ls hP hD hS hl
  exact lv_if_ge hx hb hd ht (fun h => kt h H locs ls hP hD hS hl) (fun h => kf h H locs ls hP hD hS hl)
theorem V_ifgt (C : Cx X d nL cc own ret) {x : Int32} {off : Int} {tgt : Nat} (hd : decode cc pc = .ok (.ifCond .gt off, 3)) (ht : (pc : Int) + off = (tgt : Int)) (kt : 0 < x → Vw Λ X d nL tgt lv st mh) (kf : ¬ 0 < x → Vw Λ X d nL (pc + 3) lv st mh) : Vw Λ X d nL pc lv (.int x :: st) mh := by
  obtain ⟨p, l, e, s, m, args, below, meth, c, D, cA, ad, A, Qc⟩ := X
  obtain ⟨hx, hb, hml, hown, hts, hret, hlk, hK, hA, hE⟩ := C
  intro H locs ls hP hD hS hl
  exact lv_if_gt hx hb hd ht (fun h => kt h H locs ls hP hD hS hl) (fun h => kf h H locs ls hP hD hS hl)
theorem V_ifle (C : Cx X d nL cc own ret) {x : Int32} {off : Int} {tgt : Nat} (hd : decode cc pc = .ok (.ifCond .le off, 3)) (ht : (pc : Int) + off = (tgt : Int)) (kt : x ≤ 0 → Vw Λ X d nL tgt lv st mh) (kf : ¬ x ≤ 0 → Vw Λ X d nL (pc + 3) lv st mh) : Vw Λ X d nL pc lv (.int x :: st) mh := by
  obtain ⟨p, l, e, s, m, args, below, meth, c, D, cA, ad, A, Qc⟩ := X
  obtain ⟨hx, hb, hml, hown, hts, hret, hlk, hK, hA, hE⟩ := C
  intro H locs ls hP hD hS hl
  exact lv_if_le hx hb hd ht (fun h => kt h H locs ls hP hD hS hl) (fun h => kf h H locs ls hP hD hS hl)
theorem V_ifne (C : Cx X d nL cc own ret) {x : Int32} {off : Int} {tgt : Nat} (hd : decode cc pc = .ok (.ifCond .ne off, 3)) (ht : (pc : Int) + off = (tgt : Int)) (kt : ¬ x = 0 → Vw Λ X d nL tgt lv st mh) (kf : x = 0 → Vw Λ X d nL (pc + 3) lv st mh) : Vw Λ X d nL pc lv (.int x :: st) mh := by
  obtain ⟨p, l, e, s, m, args, below, meth, c, D, cA, ad, A, Qc⟩ := X
  obtain ⟨hx, hb, hml, hown, hts, hret, hlk, hK, hA, hE⟩ := C
  intro H locs ls hP hD hS hl
  exact lv_if_ne hx hb hd ht (fun h => kt h H locs ls hP hD hS hl) (fun h => kf h H locs ls hP hD hS hl)
theorem V_icmpeq (C : Cx X d nL cc own ret) {x y : Int32} {off : Int} {tgt : Nat} (hd : decode cc pc = .ok (.if_icmp .eq off, 3)) (ht : (pc : Int) + off = (tgt : Int)) (kt : x = y → Vw Λ X d nL tgt lv st mh) (kf : ¬ x = y → Vw Λ X d nL (pc + 3) lv st mh) : Vw Λ X d nL pc lv (.int y :: .int x :: st) mh := by
  obtain ⟨p, l, e, s, m, args, below, meth, c, D, cA, ad, A, Qc⟩ := X
  obtain ⟨hx, hb, hml, hown, hts, hret, hlk, hK, hA, hE⟩ := C
  intro H locs ls hP hD hS hl
  exact lv_icmp_eq hx hb hd ht (fun h => kt h H locs ls hP hD hS hl) (fun h => kf h H locs ls hP hD hS hl)
theorem V_icmplt (C : Cx X d nL cc own ret) {x y : Int32} {off : Int} {tgt : Nat} (hd : decode cc pc = .ok (.if_icmp .lt off, 3)) (ht : (pc : Int) + off = (tgt : Int)) (kt : x < y → Vw Λ X d nL tgt lv st mh) (kf : ¬ x < y → Vw Λ X d nL (pc + 3) lv st mh) : Vw Λ X d nL pc lv (.int y :: .int x :: st) mh := by
  obtain ⟨p, l, e, s, m, args, below, meth, c, D, cA, ad, A, Qc⟩ := X
  obtain ⟨hx, hb, hml, hown, hts, hret, hlk, hK, hA, hE⟩ := C
  intro H locs ls hP hD hS hl
  exact lv_icmp_lt hx hb hd ht (fun h => kt h H locs ls hP hD hS hl) (fun h => kf h H locs ls hP hD hS hl)
theorem V_icmpge (C : Cx X d nL cc own ret) {x y : Int32} {off : Int} {tgt : Nat} (hd : decode cc pc = .ok (.if_icmp .ge off, 3)) (ht : (pc : Int) + off = (tgt : Int)) (kt : y ≤ x → Vw Λ X d nL tgt lv st mh) (kf : ¬ y ≤ x → Vw Λ X d nL (pc + 3) lv st mh) : Vw Λ X d nL pc lv (.int y :: .int x :: st) mh := by
  obtain ⟨p, l, e, s, m, args, below, meth, c, D, cA, ad, A, Qc⟩ := X
  obtain ⟨hx, hb, hml, hown, hts, hret, hlk, hK, hA, hE⟩ := C
  intro H locs ls hP hD hS hl
  exact lv_icmp_ge hx hb hd ht (fun h => kt h H locs ls hP hD hS hl) (fun h => kf h H locs ls hP hD hS hl)
theorem V_icmpgt (C : Cx X d nL cc own ret) {x y : Int32} {off : Int} {tgt : Nat} (hd : decode cc pc = .ok (.if_icmp .gt off, 3)) (ht : (pc : Int) + off = (tgt : Int)) (kt : y < x → Vw Λ X d nL tgt lv st mh) (kf : ¬ y < x → Vw Λ X d nL (pc + 3) lv st mh) : Vw Λ X d nL pc lv (.int y :: .int x :: st) mh := by
  obtain ⟨p, l, e, s, m, args, below, meth, c, D, cA, ad, A, Qc⟩ := X
  obtain ⟨hx, hb, hml, hown, hts, hret, hlk, hK, hA, hE⟩ := C
  intro H locs ls hP hD hS hl
  exact lv_icmp_gt hx hb hd ht (fun h => kt h H locs ls hP hD hS hl) (fun h => kf h H locs ls hP hD hS hl)
theorem V_icmple (C : Cx X d nL cc own ret) {x y : Int32} {off : Int} {tgt : Nat} (hd : decode cc pc = .ok (.if_icmp .le off, 3)) (ht : (pc : Int) + off = (tgt : Int)) (kt : x ≤ y → Vw Λ X d nL tgt lv st mh) (kf : ¬ x ≤ y → Vw Λ X d nL (pc + 3) lv st mh) : Vw Λ X d nL pc lv (.int y :: .int x :: st) mh := by
  obtain ⟨p, l, e, s, m, args, below, meth, c, D, cA, ad, A, Qc⟩ := X
  obtain ⟨hx, hb, hml, hown, hts, hret, hlk, hK, hA, hE⟩ := C
  intro H locs ls hP hD hS hl
  exact lv_icmp_le hx hb hd ht (fun h => kt h H locs ls hP hD hS hl) (fun h => kf h H locs ls hP hD hS hl)
theorem V_icmpne (C : Cx X d nL cc own ret) {x y : Int32} {off : Int} {tgt : Nat} (hd : decode cc pc = .ok (.if_icmp .ne off, 3)) (ht : (pc : Int) + off = (tgt : Int)) (kt : ¬ x = y → Vw Λ X d nL tgt lv st mh) (kf : x = y → Vw Λ X d nL (pc + 3) lv st mh) : Vw Λ X d nL pc lv (.int y :: .int x :: st) mh := by
  obtain ⟨p, l, e, s, m, args, below, meth, c, D, cA, ad, A, Qc⟩ := X
  obtain ⟨hx, hb, hml, hown, hts, hret, hlk, hK, hA, hE⟩ := C
  intro H locs ls hP hD hS hl
  exact lv_icmp_ne hx hb hd ht (fun h => kt h H locs ls hP hD hS hl) (fun h => kf h H locs ls hP hD hS hl)
/-- where a tableswitch goes -/
def v_tgt (pc : Nat) (dflt lo hi : Int) (offs : List Int) (x : Int32) : Int := if x.toInt < lo ∨ hi < x.toInt then pc + dflt else pc + offs.getD (x.toInt - lo).toNat dflt
theorem V_tab (C : Cx X d nL cc own ret) {x : Int32} {dflt lo hi : Int} {offs : Array Int} {len tgt : Nat} (hd : decode cc pc = .ok (.tableswitch dflt lo hi offs, len)) (hh : hi < lo + offs.size) (ht : v_tgt pc dflt lo hi offs.toList x = (tgt : Int)) (k : Vw Λ X d nL tgt lv st mh) : Vw Λ X d nL pc lv (.int x :: st) mh := by
  obtain ⟨p, l, e, s, m, args, below, meth, c, D, cA, ad, A, Qc⟩ := X
  obtain ⟨hx, hb, hml, hown, hts, hret, hlk, hK, hA, hE⟩ := C
  intro H locs ls hP hD hS hl
  unfold v_tgt at ht
  by_cases h : x.toInt < lo ∨ hi < x.toInt
  · rw [if_pos h] at ht
    exact lv_tableOut hx hb hd h ht (k H locs ls hP hD hS hl)
  · rw [if_neg h] at ht
    have h1 : ¬ x.toInt < lo := fun z => h (Or.inl z)
    have h2 : ¬ hi < x.toInt := fun z => h (Or.inr z)
    have hlt : (x.toInt - lo).toNat < offs.size := by omega
    refine lv_tableIn hx hb hd h1 h2 (off := offs[(x.toInt - lo).toNat]) (by simp [hlt]) ?_ (k H locs ls hP hD hS hl)
    rw [← ht]
    simp [List.getD, hlt]
def v_tabN (dflt : Int) (x : Int32) : Int → List Int → Prop
  | _, [] => True
  | lo, o :: t => (o = dflt ∨ ¬ x = Int32.ofInt lo) ∧ v_tabN dflt x (lo + 1) t
theorem v_tabN_at {dflt : Int} {x : Int32} : ∀ (offs : List Int) (lo : Int), v_tabN dflt x lo offs → ∀ j : Nat, x.toInt = lo + j → offs.getD j dflt = dflt
  | [], _, _, j, _ => by simp
  | o :: t, lo, h, 0, hx => by
    rcases h.1 with h1 | h1
    · simp [h1]
    · exfalso
      apply h1
      rw [← Int32.ofInt_toInt x, hx]
      simp
  | o :: t, lo, h, j + 1, hx => by
    have := v_tabN_at t (lo + 1) h.2 j (by rw [hx]; push_cast; omega)
    simpa using this
theorem v_tgt_d {pc : Nat} {dflt lo hi : Int} {offs : List Int} {x : Int32} {tgt : Nat} (h : v_tabN dflt x lo offs) (ht : (pc : Int) + dflt = tgt) : v_tgt pc dflt lo hi offs x = tgt := by
  unfold v_tgt
  split
  · exact ht
  · rename_i hn
    rw [v_tabN_at offs lo h (x.toInt - lo).toNat (by omega)]
    exact ht
theorem v_tgt_k {pc : Nat} {dflt lo hi : Int} {offs : List Int} {x v : Int32} {tgt : Nat} (hx : x = v) (ht : v_tgt pc dflt lo hi offs v = tgt) : v_tgt pc dflt lo hi offs x = tgt := by rw [hx]; exact ht
variable {r ci N k idx : Nat} {fc : List Nat} {Cn : String} {T : u_T} {ty : Nat → FieldType}
theorem V_getI (C : Cx X d nL cc own ret) (F : CF ci Cn T N ty) (L : FL own idx T k) (O : LO Λ r ci fc) (hk : k < N) (hc : fc[k]? = some 0) (hd : decode cc pc = .ok (.getfield idx, 3)) {v : Int32} (hv : mh.1 r k = v) (kk : Vw Λ X d nL (pc + 3) lv (.int v :: st) mh) : Vw Λ X d nL pc lv (.ref r :: st) mh := by
  subst hv
  obtain ⟨p, l, e, s, m, args, below, meth, c, D, cA, ad, A, Qc⟩ := X
  obtain ⟨hx, hb, hml, hown, hts, hret, hlk, hK, hA, hE⟩ := C
  intro H locs ls hP hD hS hl
  exact va_get hx hb hts F.2.1 hown hK hP r (v_ws_obj O.1 O.2) F.1 k hk (hts _ L) (fun _ h9 => h9) (v := .int (mh.1 r k)) (by simp [v_fs, List.getElem?_mapIdx, hc, v_fv]) hd (kk H locs ls hP hD hS hl)
theorem V_getL (C : Cx X d nL cc own ret) (F : CF ci Cn T N ty) (L : FL own idx T k) (O : LO Λ r ci fc) (hk : k < N) (hc : fc[k]? = some 1) (hd : decode cc pc = .ok (.getfield idx, 3)) {v : Int64} (hv : mh.2 = v) (kk : Vw Λ X d nL (pc + 3) lv (.long v :: st) mh) : Vw Λ X d nL pc lv (.ref r :: st) mh := by
  subst hv
  obtain ⟨p, l, e, s, m, args, below, meth, c, D, cA, ad, A, Qc⟩ := X
  obtain ⟨hx, hb, hml, hown, hts, hret, hlk, hK, hA, hE⟩ := C
  intro H locs ls hP hD hS hl
  exact va_get hx hb hts F.2.1 hown hK hP r (v_ws_obj O.1 O.2) F.1 k hk (hts _ L) (fun _ h9 => h9) (v := .long mh.2) (by simp [v_fs, List.getElem?_mapIdx, hc, v_fv]) hd (kk H locs ls hP hD hS hl)
theorem V_getR (C : Cx X d nL cc own ret) (F : CF ci Cn T N ty) (L : FL own idx T k) (O : LO Λ r ci fc) {r' : Nat} (hk : k < N) (hc : fc[k]? = some (r' + 2)) (hd : decode cc pc = .ok (.getfield idx, 3)) (kk : Vw Λ X d nL (pc + 3) lv (.ref r' :: st) mh) : Vw Λ X d nL pc lv (.ref r :: st) mh := by
  obtain ⟨p, l, e, s, m, args, below, meth, c, D, cA, ad, A, Qc⟩ := X
  obtain ⟨hx, hb, hml, hown, hts, hret, hlk, hK, hA, hE⟩ := C
  intro H locs ls hP hD hS hl
  exact va_get hx hb hts F.2.1 hown hK hP r (v_ws_obj O.1 O.2) F.1 k hk (hts _ L) (fun _ h9 => h9) (v := .ref (ad r')) (by simp [v_fs, List.getElem?_mapIdx, hc, v_fv]) hd (kk H locs ls hP hD hS hl)
theorem V_putT (C : Cx X d nL cc own ret) (F : CF ci Cn T N ty) (L : FL own idx T k) (O : LO Λ r ci fc) {t0 : FieldType} {x : Int32} (hk : k < N) (hc : fc[k]? = some 0) (hf : (T k).2.2.2 = false) (hty : ty k = t0) (hn : narrow t0 (.int x) = .int x) (hfi : fits t0 (.int x) = true) (hd : decode cc pc = .ok (.putfield idx, 3)) (kk : Vw Λ X d nL (pc + 3) lv st (v_up mh r k x)) : Vw Λ X d nL pc lv (.int x :: .ref r :: st) mh := by
  obtain ⟨p, l, e, s, m, args, below, meth, c, D, cA, ad, A, Qc⟩ := X
  obtain ⟨hx, hb, hml, hown, hts, hret, hlk, hK, hA, hE⟩ := C
  intro H locs ls hP hD hS hl
  refine va_put hx hb hts F.2.1 ty F.2.2.1 F.2.2.2 hown hK hP hD hS r (v_ws_obj O.1 O.2) F.1 k hk (hts _ L) (fun _ h9 => h9) hf (ty := t0) (v := .int x) (by rw [← hty]; exact F.2.2.1 k hk) hn hfi (by simp [v_fs]; exact (List.getElem?_eq_some_iff.mp hc).1) hd (fun H1 locs1 hP1 hD1 hS1 => ?_)
  rw [v_ws_up O.1 O.2 hc] at hP1 hD1
  exact kk H1 locs1 ls hP1 hD1 hS1 hl
theorem V_putI (C : Cx X d nL cc own ret) (F : CF ci Cn T N ty) (L : FL own idx T k) (O : LO Λ r ci fc) {x : Int32} (hk : k < N) (hc : fc[k]? = some 0) (hf : (T k).2.2.2 = false) (hty : ty k = .int) (hd : decode cc pc = .ok (.putfield idx, 3)) (kk : Vw Λ X d nL (pc + 3) lv st (v_up mh r k x)) : Vw Λ X d nL pc lv (.int x :: .ref r :: st) mh :=
  V_putT C F L O hk hc hf hty rfl rfl hd kk
theorem V_iald (C : Cx X d nL cc own ret) {n : Nat} (O : LA Λ r true n) {i : Int32} (hi : vp_in i n) (hd : decode cc pc = .ok (.iaload, 1)) {v : Int32} (hv : mh.1 r (jn i) = v) (kk : Vw Λ X d nL (pc + 1) lv (.int v :: st) mh) : Vw Λ X d nL pc lv (.int i :: .ref r :: st) mh := by
  subst hv
  obtain ⟨p, l, e, s, m, args, below, meth, c, D, cA, ad, A, Qc⟩ := X
  obtain ⟨hx, hb, hml, hown, hts, hret, hlk, hK, hA, hE⟩ := C
  intro H locs ls hP hD hS hl
  exact va_iald hx hb hK hP r 0 (v_ws_arr O.1 O.2) rfl hi hd (kk H locs ls hP hD hS hl)
theorem V_zald (C : Cx X d nL cc own ret) {n : Nat} (O : LA Λ r false n) {i : Int32} (hi : vp_in i n) (hd : decode cc pc = .ok (.baload, 1)) {v : Int32} (hv : mh.1 r (jn i) = v) (kk : Vw Λ X d nL (pc + 1) lv (.int v :: st) mh) : Vw Λ X d nL pc lv (.int i :: .ref r :: st) mh := by
  subst hv
  obtain ⟨p, l, e, s, m, args, below, meth, c, D, cA, ad, A, Qc⟩ := X
  obtain ⟨hx, hb, hml, hown, hts, hret, hlk, hK, hA, hE⟩ := C
  intro H locs ls hP hD hS hl
  exact va_zald hx hb hK hP r 1 (v_ws_arr O.1 O.2) rfl hi hd (kk H locs ls hP hD hS hl)
theorem V_iast (C : Cx X d nL cc own ret) {n : Nat} (O : LA Λ r true n) {i x : Int32} (hi : vp_in i n) (hd : decode cc pc = .ok (.iastore, 1)) (kk : Vw Λ X d nL (pc + 1) lv st (v_up mh r (jn i) x)) : Vw Λ X d nL pc lv (.int x :: .int i :: .ref r :: st) mh := by
  obtain ⟨p, l, e, s, m, args, below, meth, c, D, cA, ad, A, Qc⟩ := X
  obtain ⟨hx, hb, hml, hown, hts, hret, hlk, hK, hA, hE⟩ := C
  intro H locs ls hP hD hS hl
  refine va_iast hx hb hK hP hD hS r 0 (v_ws_arr O.1 O.2) rfl hi hd (fun H1 locs1 hP1 hD1 hS1 => ?_)
  have e := v_ws_rowA (cA := cA) (ad := ad) (mh := mh) (f := upd (mh.1 r) i.toNatClampNeg x) O.1 O.2
  rw [e] at hP1 hD1
  exact kk H1 locs1 ls hP1 hD1 hS1 hl
theorem V_zast (C : Cx X d nL cc own ret) {n : Nat} (O : LA Λ r false n) {i x : Int32} (hi : vp_in i n) (hz : x = 0 ∨ x = 1) (hd : decode cc pc = .ok (.bastore, 1)) (kk : Vw Λ X d nL (pc + 1) lv st (v_up mh r (jn i) x)) : Vw Λ X d nL pc lv (.int x :: .int i :: .ref r :: st) mh := by
  obtain ⟨p, l, e, s, m, args, below, meth, c, D, cA, ad, A, Qc⟩ := X
  obtain ⟨hx, hb, hml, hown, hts, hret, hlk, hK, hA, hE⟩ := C
  intro H locs ls hP hD hS hl
  refine va_zast hx hb hK hP hD hS r 1 (v_ws_arr O.1 O.2) rfl hi hd (fun H1 locs1 hP1 hD1 hS1 => ?_)
  have hz' : vp_nar .boolean x = x := by rcases hz with rfl | rfl <;> decide
  rw [hz'] at hP1 hD1
  have e := v_ws_rowA (cA := cA) (ad := ad) (mh := mh) (f := upd (mh.1 r) i.toNatClampNeg x) O.1 O.2
  rw [e] at hP1 hD1
  exact kk H1 locs1 ls hP1 hD1 hS1 hl
theorem V_alen (C : Cx X d nL cc own ret) {n : Nat} (O : LA Λ r true n) {v : Int32} (hv : Int32.ofNat n = v) (hd : decode cc pc = .ok (.arraylength, 1)) (kk : Vw Λ X d nL (pc + 1) lv (.int v :: st) mh) : Vw Λ X d nL pc lv (.ref r :: st) mh := by
  obtain ⟨p, l, e, s, m, args, below, meth, c, D, cA, ad, A, Qc⟩ := X
  obtain ⟨hx, hb, hml, hown, hts, hret, hlk, hK, hA, hE⟩ := C
  intro H locs ls hP hD hS hl
  exact va_alen hx hb hK hP r 0 (v_ws_arr O.1 O.2) rfl hv hd (kk H locs ls hP hD hS hl)
theorem V_copy (C : Cx X (d + 1) nL cc own ret) {n0 n1 r1 : Nat} (hg : Cond.methodLink own idx arraycopyName ∈ gw ∧ Cond.native arraycopyName ∈ gw ∧ Cond.static arraycopyName ∈ gw ∧ Cond.initialized "java/lang/System" ∈ gw) (O : LA Λ r true n0) (O1 : LA Λ r1 true n1) {sp dp n : Int32} (hi : inc sp dp n n0 n1) (hcat : (st.map fun v => v.category).sum ≤ 8) (hd : decode cc pc = .ok (.invokestatic idx, 3))
    (kk : Vw Λ X (d + 1) nL (pc + 3) lv st (v_cp mh r r1 (jn sp) (jn dp) (jn n))) : Vw Λ X (d + 1) nL pc lv (.int n :: .int dp :: .ref r1 :: .int sp :: .ref r :: st) mh := by
  obtain ⟨p, l, e, s, m, args, below, meth, c, D, cA, ad, A, Qc⟩ := X
  obtain ⟨hx, hb, hml, hown, hts, hret, hlk, hK, hA, hE⟩ := C
  intro H locs ls hP hD hS hl
  have hcat' : ((st.map (v_tr ad)).map fun v => v.category).sum ≤ 8 := by
    rw [List.map_map]
    rw [show ((fun v : Value => v.category) ∘ v_tr ad) = fun v => v.category from funext (fun v => v_tr_cat ad v)]
    exact hcat
  refine va_copyi hx hb (by rw [hml, hl.1]) hown (hts _ hg.1) (hts _ hg.2.1) (hts _ hg.2.2.1) (hts _ hg.2.2.2) hK hP hD hS r r1 0 0 (v_ws_arr O.1 O.2) (v_ws_arr O1.1 O1.2) (ty := .int) rfl rfl rfl hi.1 hi.2.1 hi.2.2.1 hi.2.2.2.1 hi.2.2.2.2 (fun _ _ => rfl) (by simp [v_rm]) (by
    have e : nativeFrameWords "java/lang/System" "arraycopy" 5 + 11 ≤ 56 := by decide
    simp only [v_rm]
    omega) hd (fun H1 locs1 hP1 hD1 hS1 => ?_)
  have e := v_ws_rowA (cA := cA) (ad := ad) (mh := mh) (f := va_cpy (mh.1 r) (mh.1 r1) sp.toNatClampNeg dp.toNatClampNeg n.toNatClampNeg) O1.1 O1.2
  rw [e] at hP1 hD1
  exact kk H1 locs1 ls hP1 hD1 hS1 hl
theorem V_max (C : Cx X (d + 1) nL cc own ret) (hg : Cond.methodLink own idx Lib.Math.max.name ∈ gw ∧ Cond.static Lib.Math.max.name ∈ gw ∧ Cond.initialized "java/lang/Math" ∈ gw ∧ Cond.code Lib.Math.max.name Lib.Math.max.code 2 (some .int) ∈ gw) {x y : Int32} (hcat : (st.map fun v => v.category).sum ≤ 8) (hd : decode cc pc = .ok (.invokestatic idx, 3)) (kk : Vw Λ X (d + 1) nL (pc + 3) lv (.int (jmax x y) :: st) mh) : Vw Λ X (d + 1) nL pc lv (.int y :: .int x :: st) mh := by
  obtain ⟨p, l, e, s, m, args, below, meth, c, D, cA, ad, A, Qc⟩ := X
  obtain ⟨hx, hb, hml, hown, hts, hret, hlk, hK, hA, hE⟩ := C
  intro H locs ls hP hD hS hl
  have hcat' : ((st.map (v_tr ad)).map fun v => v.category).sum ≤ 8 := by
    rw [List.map_map]
    rw [show ((fun v : Value => v.category) ∘ v_tr ad) = fun v => v.category from funext (fun v => v_tr_cat ad v)]
    exact hcat
  exact va_mmax hx hb (by rw [hml, hl.1]) hown (hts _ hg.1) (hts _ hg.2.1) (hts _ hg.2.2.1) (hts _ hg.2.2.2) (by simp [v_rm]) (by simp only [v_rm]; omega) (Nat.zero_le _) (Nat.zero_le _) hd (kk H locs ls hP hD hS hl)
theorem V_min (C : Cx X (d + 1) nL cc own ret) (hg : Cond.methodLink own idx Lib.Math.min.name ∈ gw ∧ Cond.static Lib.Math.min.name ∈ gw ∧ Cond.initialized "java/lang/Math" ∈ gw ∧ Cond.code Lib.Math.min.name Lib.Math.min.code 2 (some .int) ∈ gw) {x y : Int32} (hcat : (st.map fun v => v.category).sum ≤ 8) (hd : decode cc pc = .ok (.invokestatic idx, 3)) (kk : Vw Λ X (d + 1) nL (pc + 3) lv (.int (jmin x y) :: st) mh) : Vw Λ X (d + 1) nL pc lv (.int y :: .int x :: st) mh := by
  obtain ⟨p, l, e, s, m, args, below, meth, c, D, cA, ad, A, Qc⟩ := X
  obtain ⟨hx, hb, hml, hown, hts, hret, hlk, hK, hA, hE⟩ := C
  intro H locs ls hP hD hS hl
  have hcat' : ((st.map (v_tr ad)).map fun v => v.category).sum ≤ 8 := by
    rw [List.map_map]
    rw [show ((fun v : Value => v.category) ∘ v_tr ad) = fun v => v.category from funext (fun v => v_tr_cat ad v)]
    exact hcat
  exact va_mmin hx hb (by rw [hml, hl.1]) hown (hts _ hg.1) (hts _ hg.2.1) (hts _ hg.2.2.1) (hts _ hg.2.2.2) (by simp [v_rm]) (by simp only [v_rm]; omega) (Nat.zero_le _) (Nat.zero_le _) hd (kk H locs ls hP hD hS hl)
theorem V_abs (C : Cx X (d + 1) nL cc own ret) (hg : Cond.methodLink own idx Lib.Math.abs.name ∈ gw ∧ Cond.static Lib.Math.abs.name ∈ gw ∧ Cond.initialized "java/lang/Math" ∈ gw ∧ Cond.code Lib.Math.abs.name Lib.Math.abs.code 1 (some .int) ∈ gw) {x : Int32} (hcat : (st.map fun v => v.category).sum ≤ 8) (hd : decode cc pc = .ok (.invokestatic idx, 3)) (kk : Vw Λ X (d + 1) nL (pc + 3) lv (.int (jabs x) :: st) mh) : Vw Λ X (d + 1) nL pc lv (.int x :: st) mh := by
  obtain ⟨p, l, e, s, m, args, below, meth, c, D, cA, ad, A, Qc⟩ := X
  obtain ⟨hx, hb, hml, hown, hts, hret, hlk, hK, hA, hE⟩ := C
  intro H locs ls hP hD hS hl
  have hcat' : ((st.map (v_tr ad)).map fun v => v.category).sum ≤ 8 := by
    rw [List.map_map]
    rw [show ((fun v : Value => v.category) ∘ v_tr ad) = fun v => v.category from funext (fun v => v_tr_cat ad v)]
    exact hcat
  exact va_mabs hx hb (by rw [hml, hl.1]) hown (hts _ hg.1) (hts _ hg.2.1) (hts _ hg.2.2.1) (hts _ hg.2.2.2) (by simp [v_rm]) (by simp only [v_rm]; omega) (Nat.zero_le _) (Nat.zero_le _) hd (kk H locs ls hP hD hS hl)
theorem V_above (C : Cx X d nL cc own ret) (L : Cond.fieldLink own idx "FieldBeeps" "ABOVE" "[I" ∈ gw) (hd : decode cc pc = .ok (.getstatic idx, 3)) (kk : Vw Λ X d nL (pc + 3) lv (.ref 999 :: st) mh) : Vw Λ X d nL pc lv st mh := by
  obtain ⟨p, l, e, s, m, args, below, meth, c, D, cA, ad, A, Qc⟩ := X
  obtain ⟨hx, hb, hml, hown, hts, hret, hlk, hK, hA, hE⟩ := C
  intro H locs ls hP hD hS hl
  exact va_gets hx hb hE.2.1 hS hown (hts _ L) (fun _ h9 => h9) hd (kk H locs ls hP hD hS hl)
theorem V_aboveLen (C : Cx X d nL cc own ret) (hd : decode cc pc = .ok (.arraylength, 1)) (kk : Vw Λ X d nL (pc + 1) lv (.int 6 :: st) mh) : Vw Λ X d nL pc lv (.ref 999 :: st) mh := by
  obtain ⟨p, l, e, s, m, args, below, meth, c, D, cA, ad, A, Qc⟩ := X
  obtain ⟨hx, hb, hml, hown, hts, hret, hlk, hK, hA, hE⟩ := C
  intro H locs ls hP hD hS hl
  exact va_tlen hx hb hE.2.2.1 hS (v := 6) rfl hd (kk H locs ls hP hD hS hl)
theorem V_aboveAt (C : Cx X d nL cc own ret) {i : Int32} (hi : vp_in i 6) (hd : decode cc pc = .ok (.iaload, 1)) (kk : Vw Λ X d nL (pc + 1) lv (.int (v_above (jn i)) :: st) mh) : Vw Λ X d nL pc lv (.int i :: .ref 999 :: st) mh := by
  obtain ⟨p, l, e, s, m, args, below, meth, c, D, cA, ad, A, Qc⟩ := X
  obtain ⟨hx, hb, hml, hown, hts, hret, hlk, hK, hA, hE⟩ := C
  intro H locs ls hP hD hS hl
  exact va_ti hx hb hE.2.2.1 hS hi (v := .int (v_above (jn i))) rfl hd (kk H locs ls hP hD hS hl)
theorem V_ret0 (C : Cx X d nL cc own none) (hG : Gd Λ X none mh) (hd : decode cc pc = .ok (.return_, 1)) : Vw Λ X d nL pc lv [] mh := by
  obtain ⟨p, l, e, s, m, args, below, meth, c, D, cA, ad, A, Qc⟩ := X
  obtain ⟨hx, hb, hml, hown, hts, hret, hlk, hK, hA, hE⟩ := C
  intro H locs ls hP hD hS hl
  exact W.vret hx hb hret (fun t ht hW => hG H locs hP hD hS t ht hW) hS.2.2 hd hlk
theorem V_iret (C : Cx X d nL cc own (some .int)) {x : Int32} (hG : Gd Λ X (some (.int x)) mh) (hd : decode cc pc = .ok (.ireturn, 1)) : Vw Λ X d nL pc lv [.int x] mh := by
  obtain ⟨p, l, e, s, m, args, below, meth, c, D, cA, ad, A, Qc⟩ := X
  obtain ⟨hx, hb, hml, hown, hts, hret, hlk, hK, hA, hE⟩ := C
  intro H locs ls hP hD hS hl
  exact W.iret hx hb hret (fun t ht hW => hG H locs hP hD hS t ht hW) hS.2.2 hd hlk
theorem V_zret (C : Cx X d nL cc own (some .boolean)) {x : Int32} (hn : narrow .boolean (.int x) = .int x) (hG : Gd Λ X (some (.int x)) mh) (hd : decode cc pc = .ok (.ireturn, 1)) : Vw Λ X d nL pc lv [.int x] mh := by
  obtain ⟨p, l, e, s, m, args, below, meth, c, D, cA, ad, A, Qc⟩ := X
  obtain ⟨hx, hb, hml, hown, hts, hret, hlk, hK, hA, hE⟩ := C
  intro H locs ls hP hD hS hl
  exact W.zret hx hb hret hn (fun t ht hW => hG H locs hP hD hS t ht hW) hS.2.2 hd hlk
theorem V_lret (C : Cx X d nL cc own (some .long)) {x : Int64} (hG : Gd Λ X (some (.long x)) mh) (hd : decode cc pc = .ok (.lreturn, 1)) : Vw Λ X d nL pc lv [.long x] mh := by
  obtain ⟨p, l, e, s, m, args, below, meth, c, D, cA, ad, A, Qc⟩ := X
  obtain ⟨hx, hb, hml, hown, hts, hret, hlk, hK, hA, hE⟩ := C
  intro H locs ls hP hD hS hl
  exact W.lret hx hb hret (fun t ht hW => hG H locs hP hD hS t ht hW) hS.2.2 hd hlk
theorem V_putL (C : Cx X d nL cc own ret) (F : CF ci Cn T N ty) (L : FL own idx T k) (O : LO Λ r ci fc) {x : Int64} (hk : k < N) (hc : fc[k]? = some 1) (hf : (T k).2.2.2 = false) (hty : ty k = .long) (hu : ∀ (cA : ClassId × ClassId) (ad : Nat → Nat) (mh : vMH) (x : Int64), (v_ws Λ cA ad mh).set r (ad r, .inr (ci, (v_fs ad mh r fc).set k (.long x))) = v_ws Λ cA ad (v_ul mh x)) (hd : decode cc pc = .ok (.putfield idx, 3)) (kk : Vw Λ X d nL (pc + 3) lv st (v_ul mh x)) : Vw Λ X d nL pc lv (.long x :: .ref r :: st) mh := by
  obtain ⟨p, l, e, s, m, args, below, meth, c, D, cA, ad, A, Qc⟩ := X
  obtain ⟨hx, hb, hml, hown, hts, hret, hlk, hK, hA, hE⟩ := C
  intro H locs ls hP hD hS hl
  refine va_put hx hb hts F.2.1 ty F.2.2.1 F.2.2.2 hown hK hP hD hS r (v_ws_obj O.1 O.2) F.1 k hk (hts _ L) (fun _ h9 => h9) hf (ty := .long) (v := .long x) (by rw [← hty]; exact F.2.2.1 k hk) rfl rfl (by simp [v_fs]; exact (List.getElem?_eq_some_iff.mp hc).1) hd (fun H1 locs1 hP1 hD1 hS1 => ?_)
  rw [hu] at hP1 hD1
  exact kk H1 locs1 ls hP1 hD1 hS1 hl
theorem V_ldcS (C : Cx X d nL cc RX1 ret) {i : Nat} (hi : i < 12) (hidx : v_six.getD i 0 = idx) (hd : decode cc pc = .ok (.ldc idx, 2)) (kk : Vw Λ X d nL (pc + 2) lv (.ref (1000 + i) :: st) mh) : Vw Λ X d nL pc lv st mh := by
  subst hidx
  obtain ⟨p, l, e, s, m, args, below, meth, c, D, cA, ad, A, Qc⟩ := X
  obtain ⟨hx, hb, hml, hown, hts, hret, hlk, hK, hA, hE⟩ := C
  intro H locs ls hP hD hS hl
  exact va_ldcS hx hb hown (hE.2.2.2.1 i hi) hd (kk H locs ls hP hD hS hl)
theorem V_mask (bs : List Bool) {lv' : List (Option Value)} (hm : List.zipWith (fun (b : Bool) v => if b then v else none) bs lv = lv') (k : Vw Λ X d nL pc lv' st mh) : Vw Λ X d nL pc lv st mh := by
  obtain ⟨p, l, e, s, m, args, below, meth, c, D, cA, ad, A, Qc⟩ := X
  intro H locs ls hP hD hS hl
  refine k H locs ls hP hD hS (lv_mono hl (fun q hq => ?_))
  obtain ⟨j, v, h1, h2⟩ := (v_lv_mem _ 0 q).mp hq
  refine (v_lv_mem _ 0 q).mpr ⟨j, v, ?_, h2⟩
  rw [← hm, List.getElem?_zipWith] at h1
  cases hb : bs[j]? with
  | none => simp [hb] at h1
  | some b =>
    cases hv : lv[j]? with
    | none => simp [hb, hv] at h1
    | some w =>
      simp only [hb, hv] at h1
      cases b <;> simp_all
theorem rd_ne {r' j : Nat} {x : Int32} (h : r' ≠ r) : (v_up mh r j x).1 r' k = mh.1 r' k := by simp [v_up, v_row, h]
theorem rd_k {j : Nat} {x : Int32} (h : k ≠ j) : (v_up mh r j x).1 r k = mh.1 r k := by simp [v_up, v_row, upd, h]
theorem rd_eq {x : Int32} : (v_up mh r k x).1 r k = x := by simp [v_up, v_row, upd]
theorem lo_la {a n : Nat} {b : Bool} (O : LO Λ r ci fc) (A : LA Λ a b n) : r ≠ a := by
  rintro rfl
  have := O.2.symm.trans A.2
  cases this
theorem rd_oa {a n j : Nat} {b : Bool} {x : Int32} (O : LO Λ r ci fc) (A : LA Λ a b n) : (v_up mh a j x).1 r k = mh.1 r k := rd_ne (lo_la O A)
theorem rd_ao {a n j : Nat} {b : Bool} {x : Int32} (O : LO Λ r ci fc) (A : LA Λ a b n) : (v_up mh r j x).1 a k = mh.1 a k := rd_ne (Ne.symm (lo_la O A))
theorem rd_cp {a b sp dp n : Nat} (h : r ≠ b) : (v_cp mh a b sp dp n).1 r k = mh.1 r k := by simp [v_cp, v_row, h]
theorem rd_oc {a b sp dp n n1 : Nat} {b1 : Bool} (O : LO Λ r ci fc) (A : LA Λ b b1 n1) : (v_cp mh a b sp dp n).1 r k = mh.1 r k := rd_cp (lo_la O A)
end VROWS
