theorem v_fs_setL {ad : Nat → Nat} {mh : vMH} {r k : Nat} {fc : List Nat} {x : Int64} (h1 : fc[k]? = some 1) (hu : ∀ j, j < fc.length → fc[j]? = some 1 → j = k) : v_fs ad (v_ul mh x) r fc = (v_fs ad mh r fc).set k (.long x) := by
  apply List.ext_getElem?
  intro j
  have hl : k < fc.length := (List.getElem?_eq_some_iff.mp h1).1
  by_cases hj : j = k
  · subst hj
    rw [List.getElem?_set_self (by simp [v_fs, hl])]
    simp [v_fs, List.getElem?_mapIdx, h1, v_fv, v_ul]
  · rw [List.getElem?_set_ne (Ne.symm hj)]
    simp only [v_fs, List.getElem?_mapIdx]
    cases hc : fc[j]? with
    | none => rfl
    | some c =>
      match c, hc with
      | 0, hc => rfl
      | 1, hc => exact absurd (hu j (List.getElem?_eq_some_iff.mp hc).1 hc) hj
      | _ + 2, hc => rfl
theorem lm6_arr {r : Nat} (h : r ≠ 0) : ∃ q, lm6 r = .inl q := by
  unfold lm6
  split
  · exact absurd rfl h
  all_goals exact ⟨_, rfl⟩
theorem ulM (cA : ClassId × ClassId) (ad : Nat → Nat) (mh : vMH) (x : Int64) : (v_ws LM cA ad mh).set 0 (ad 0, .inr (6, (v_fs ad mh 0 fc6).set 28 (.long x))) = v_ws LM cA ad (v_ul mh x) := by
  apply List.ext_getElem?
  intro k
  by_cases hk : k = 0
  · subst hk
    rw [List.getElem?_set_self (by simp [v_ws, LM]), v_ws_at (by decide)]
    show _ = some (ad 0, Sum.inr (6, v_fs ad (v_ul mh x) 0 fc6))
    rw [v_fs_setL (k := 28) rfl (by decide)]
  · rw [List.getElem?_set_ne (Ne.symm hk)]
    by_cases hl : k < LM.1
    · rw [v_ws_at hl, v_ws_at hl]
      obtain ⟨q, hq⟩ := lm6_arr hk
      rw [show LM.2 k = lm6 k from rfl, hq]
      rfl
    · simp [v_ws, Nat.not_lt.mp hl]
theorem rd_ul {mh : vMH} {x : Int64} {r k : Nat} : (v_ul mh x).1 r k = mh.1 r k := rfl
