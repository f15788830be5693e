/-! the 32 calls of class (oC_) and reference (oM_), in one form: answer and picture behind it -/
def oC_find (a1 a2 a3 : Int32) (c : vMH) : Option (Int32 × vMH) := X5_find a1 a2 a3 c
theorem mC_find (a1 a2 a3 : Int32) {c c' : vMH} {x : Int32} (h : oC_find a1 a2 a3 c = some (x, c')) : MC LC (0 + 1) yX5_find cX5_find 6 (some .int) [.ref 0, .int a1, .int a2, .int a3] c (some (.int x)) c' := by
  exact c_X5_find 0 a1 a2 a3 c (res := (x, c')) h
def oM_find (a1 a2 a3 : Int32) (c : vMH) : Option (Int32 × vMH) := X6_find a1 a2 a3 c
theorem mM_find (a1 a2 a3 : Int32) {c c' : vMH} {x : Int32} (h : oM_find a1 a2 a3 c = some (x, c')) : MC LM (0 + 2) yX6_find cX6_find 4 (some .int) [.ref 0, .int a1, .int a2, .int a3] c (some (.int x)) c' := by
  exact c_X6_find 0 a1 a2 a3 c (res := (x, c')) h
def oC_set (a1 a2 a3 : Int32) (c : vMH) : Option (Int32 × vMH) := X5_set a1 a2 a3 c
theorem mC_set (a1 a2 a3 : Int32) {c c' : vMH} {x : Int32} (h : oC_set a1 a2 a3 c = some (x, c')) : MC LC (0 + 3) yX5_set cX5_set 4 (some .int) [.ref 0, .int a1, .int a2, .int a3] c (some (.int x)) c' := by
  exact c_X5_set 0 a1 a2 a3 c (res := (x, c')) h
def oM_set (a1 a2 a3 : Int32) (c : vMH) : Option (Int32 × vMH) := X6_set a1 a2 a3 c
theorem mM_set (a1 a2 a3 : Int32) {c c' : vMH} {x : Int32} (h : oM_set a1 a2 a3 c = some (x, c')) : MC LM (0 + 2) yX6_set cX6_set 5 (some .int) [.ref 0, .int a1, .int a2, .int a3] c (some (.int x)) c' := by
  exact c_X6_set 0 a1 a2 a3 c (res := (x, c')) h
def oC_told (a1 a2 : Int32) (c : vMH) : Option (Int32 × vMH) := X5_told a1 a2 c
theorem mC_told (a1 a2 : Int32) {c c' : vMH} {x : Int32} (h : oC_told a1 a2 c = some (x, c')) : MC LC (0 + 3) yX5_told cX5_told 3 (some .int) [.ref 0, .int a1, .int a2] c (some (.int x)) c' := by
  exact c_X5_told 0 a1 a2 c (res := (x, c')) h
def oM_told (a1 a2 : Int32) (c : vMH) : Option (Int32 × vMH) := X6_told a1 a2 c
theorem mM_told (a1 a2 : Int32) {c c' : vMH} {x : Int32} (h : oM_told a1 a2 c = some (x, c')) : MC LM (0 + 73) yX6_told cX6_told 3 (some .int) [.ref 0, .int a1, .int a2] c (some (.int x)) c' := by
  exact c_X6_told 0 a1 a2 c (res := (x, c')) h
def oC_feed (a1 : Int32) (c : vMH) : Option (Int32 × vMH) := X5_feed a1 c
theorem mC_feed (a1 : Int32) {c c' : vMH} {x : Int32} (h : oC_feed a1 c = some (x, c')) : MC LC (0 + 1) yX5_feed cX5_feed 2 (some .int) [.ref 0, .int a1] c (some (.int x)) c' := by
  exact c_X5_feed 0 a1 c (res := (x, c')) h
def oM_feed (a1 : Int32) (c : vMH) : Option (Int32 × vMH) := X6_feed a1 c
theorem mM_feed (a1 : Int32) {c c' : vMH} {x : Int32} (h : oM_feed a1 c = some (x, c')) : MC LM (0 + 1) yX6_feed cX6_feed 2 (some .int) [.ref 0, .int a1] c (some (.int x)) c' := by
  exact c_X6_feed 0 a1 c (res := (x, c')) h
def oC_text (c : vMH) : Option (Int32 × vMH) := X5_text c
theorem mC_text {c c' : vMH} {x : Int32} (h : oC_text  c = some (x, c')) : MC LC (0 + 74) yX5_text cX5_text 2 (some .int) [.ref 0] c (some (.int x)) c' := by
  exact c_X5_text 0 c (res := (x, c')) h
def oM_text (c : vMH) : Option (Int32 × vMH) := X6_text c
theorem mM_text {c c' : vMH} {x : Int32} (h : oM_text  c = some (x, c')) : MC LM (0 + 71) yX6_text cX6_text 2 (some .int) [.ref 0] c (some (.int x)) c' := by
  exact c_X6_text 0 c (res := (x, c')) h
def oC_force (a1 : Int32) (c : vMH) : Option (Int32 × vMH) := some (X5_force a1 c)
theorem mC_force (a1 : Int32) {c c' : vMH} {x : Int32} (h : oC_force a1 c = some (x, c')) : MC LC (0 + 1) yX5_force cX5_force 3 (some .int) [.ref 0, .int a1] c (some (.int x)) c' := by
  have e : X5_force a1 c = (x, c') := Option.some.inj h
  have h2 := c_X5_force 0 a1 c
  rw [e] at h2
  exact h2
def oM_force (a1 : Int32) (c : vMH) : Option (Int32 × vMH) := some (X6_force a1 c)
theorem mM_force (a1 : Int32) {c c' : vMH} {x : Int32} (h : oM_force a1 c = some (x, c')) : MC LM (0 + 1) yX6_force cX6_force 3 (some .int) [.ref 0, .int a1] c (some (.int x)) c' := by
  have e : X6_force a1 c = (x, c') := Option.some.inj h
  have h2 := c_X6_force 0 a1 c
  rw [e] at h2
  exact h2
def oC_beep (a1 : Int32) (c : vMH) : Option (Int32 × vMH) := X5_beep a1 c
theorem mC_beep (a1 : Int32) {c c' : vMH} {x : Int32} (h : oC_beep a1 c = some (x, c')) : MC LC (0 + 4) yX5_beep cX5_beep 2 (some .int) [.ref 0, .int a1] c (some (.int x)) c' := by
  exact c_X5_beep 0 a1 c (res := (x, c')) h
def oM_beep (a1 : Int32) (c : vMH) : Option (Int32 × vMH) := X6_beep a1 c
theorem mM_beep (a1 : Int32) {c c' : vMH} {x : Int32} (h : oM_beep a1 c = some (x, c')) : MC LM (0 + 74) yX6_beep cX6_beep 2 (some .int) [.ref 0, .int a1] c (some (.int x)) c' := by
  exact c_X6_beep 0 a1 c (res := (x, c')) h
def oC_walk (a1 : Int32) (c : vMH) : Option (Int32 × vMH) := X5_walk a1 c
theorem mC_walk (a1 : Int32) {c c' : vMH} {x : Int32} (h : oC_walk a1 c = some (x, c')) : MC LC (0 + 6) yX5_walk cX5_walk 2 (some .int) [.ref 0, .int a1] c (some (.int x)) c' := by
  exact c_X5_walk 0 a1 c (res := (x, c')) h
def oM_walk (a1 : Int32) (c : vMH) : Option (Int32 × vMH) := X6_walk a1 c
theorem mM_walk (a1 : Int32) {c c' : vMH} {x : Int32} (h : oM_walk a1 c = some (x, c')) : MC LM (0 + 76) yX6_walk cX6_walk 2 (some .int) [.ref 0, .int a1] c (some (.int x)) c' := by
  exact c_X6_walk 0 a1 c (res := (x, c')) h
def oC_plough (c : vMH) : Option (Int32 × vMH) := X5_plough c
theorem mC_plough {c c' : vMH} {x : Int32} (h : oC_plough  c = some (x, c')) : MC LC (0 + 3) yX5_plough cX5_plough 1 (some .int) [.ref 0] c (some (.int x)) c' := by
  exact c_X5_plough 0 c (res := (x, c')) h
def oM_plough (c : vMH) : Option (Int32 × vMH) := X6_plough c
theorem mM_plough {c c' : vMH} {x : Int32} (h : oM_plough  c = some (x, c')) : MC LM (0 + 2) yX6_plough cX6_plough 1 (some .int) [.ref 0] c (some (.int x)) c' := by
  exact c_X6_plough 0 c (res := (x, c')) h
def oC_found (a1 a2 : Int32) (c : vMH) : Option (Int32 × vMH) := X5_found a1 a2 c
theorem mC_found (a1 a2 : Int32) {c c' : vMH} {x : Int32} (h : oC_found a1 a2 c = some (x, c')) : MC LC (0 + 7) yX5_found cX5_found 4 (some .int) [.ref 0, .int a1, .int a2] c (some (.int x)) c' := by
  exact c_X5_found 0 a1 a2 c (res := (x, c')) h
def oM_found (a1 a2 : Int32) (c : vMH) : Option (Int32 × vMH) := X6_found a1 a2 c
theorem mM_found (a1 a2 : Int32) {c c' : vMH} {x : Int32} (h : oM_found a1 a2 c = some (x, c')) : MC LM (0 + 77) yX6_found cX6_found 4 (some .int) [.ref 0, .int a1, .int a2] c (some (.int x)) c' := by
  exact c_X6_found 0 a1 a2 c (res := (x, c')) h
def oC_years (a1 : Int32) (c : vMH) : Option (Int32 × vMH) := X5_years a1 c
theorem mC_years (a1 : Int32) {c c' : vMH} {x : Int32} (h : oC_years a1 c = some (x, c')) : MC LC (0 + 6) yX5_years cX5_years 4 (some .int) [.ref 0, .int a1] c (some (.int x)) c' := by
  exact c_X5_years 0 a1 c (res := (x, c')) h
def oM_years (a1 : Int32) (c : vMH) : Option (Int32 × vMH) := X6_years a1 c
theorem mM_years (a1 : Int32) {c c' : vMH} {x : Int32} (h : oM_years a1 c = some (x, c')) : MC LM (0 + 77) yX6_years cX6_years 3 (some .int) [.ref 0, .int a1] c (some (.int x)) c' := by
  exact c_X6_years 0 a1 c (res := (x, c')) h
def oC_soonest (a1 : Int32) (c : vMH) : Option (Int32 × vMH) := X5_soonest a1 c
theorem mC_soonest (a1 : Int32) {c c' : vMH} {x : Int32} (h : oC_soonest a1 c = some (x, c')) : MC LC (0 + 7) yX5_soonest cX5_soonest 6 (some .int) [.ref 0, .int a1] c (some (.int x)) c' := by
  exact c_X5_soonest 0 a1 c (res := (x, c')) h
def oM_soonest (a1 : Int32) (c : vMH) : Option (Int32 × vMH) := X6_soonest a1 c
theorem mM_soonest (a1 : Int32) {c c' : vMH} {x : Int32} (h : oM_soonest a1 c = some (x, c')) : MC LM (0 + 77) yX6_soonest cX6_soonest 6 (some .int) [.ref 0, .int a1] c (some (.int x)) c' := by
  exact c_X6_soonest 0 a1 c (res := (x, c')) h
def oC_strips (a1 a2 : Int32) (c : vMH) : Option (Int32 × vMH) := X5_strips a1 a2 c
theorem mC_strips (a1 a2 : Int32) {c c' : vMH} {x : Int32} (h : oC_strips a1 a2 c = some (x, c')) : MC LC (0 + 7) yX5_strips cX5_strips 6 (some .int) [.ref 0, .int a1, .int a2] c (some (.int x)) c' := by
  exact c_X5_strips 0 a1 a2 c (res := (x, c')) h
def oM_strips (a1 a2 : Int32) (c : vMH) : Option (Int32 × vMH) := X6_strips a1 a2 c
theorem mM_strips (a1 a2 : Int32) {c c' : vMH} {x : Int32} (h : oM_strips a1 a2 c = some (x, c')) : MC LM (0 + 77) yX6_strips cX6_strips 7 (some .int) [.ref 0, .int a1, .int a2] c (some (.int x)) c' := by
  exact c_X6_strips 0 a1 a2 c (res := (x, c')) h
def oC_better (c : vMH) : Option (Int32 × vMH) := X5_better c
theorem mC_better {c c' : vMH} {x : Int32} (h : oC_better  c = some (x, c')) : MC LC (0 + 7) yX5_better cX5_better 2 (some .int) [.ref 0] c (some (.int x)) c' := by
  exact c_X5_better 0 c (res := (x, c')) h
def oM_better (c : vMH) : Option (Int32 × vMH) := X6_better c
theorem mM_better {c c' : vMH} {x : Int32} (h : oM_better  c = some (x, c')) : MC LM (0 + 77) yX6_better cX6_better 3 (some .int) [.ref 0] c (some (.int x)) c' := by
  exact c_X6_better 0 c (res := (x, c')) h
def oC_order (a1 a2 : Int32) (c : vMH) : Option (Int32 × vMH) := X5_order a1 a2 c
theorem mC_order (a1 a2 : Int32) {c c' : vMH} {x : Int32} (h : oC_order a1 a2 c = some (x, c')) : MC LC (0 + 6) yX5_order cX5_order 3 (some .int) [.ref 0, .int a1, .int a2] c (some (.int x)) c' := by
  exact c_X5_order 0 a1 a2 c (res := (x, c')) h
def oM_order (a1 a2 : Int32) (c : vMH) : Option (Int32 × vMH) := X6_order a1 a2 c
theorem mM_order (a1 a2 : Int32) {c c' : vMH} {x : Int32} (h : oM_order a1 a2 c = some (x, c')) : MC LM (0 + 77) yX6_order cX6_order 5 (some .int) [.ref 0, .int a1, .int a2] c (some (.int x)) c' := by
  exact c_X6_order 0 a1 a2 c (res := (x, c')) h
def oC_pot (c : vMH) : Option (Int32 × vMH) := (X5_pot c).map (fun x => (x, c))
theorem mC_pot {c c' : vMH} {x : Int32} (h : oC_pot  c = some (x, c')) : MC LC (0 + 3) yX5_pot cX5_pot 5 (some .int) [.ref 0] c (some (.int x)) c' := by
  unfold oC_pot at h
  cases hq : X5_pot c with
  | none => rw [hq] at h; cases h
  | some q => rw [hq] at h; cases h; exact c_X5_pot 0 c hq
def oM_pot (c : vMH) : Option (Int32 × vMH) := (X6_pot c).map (fun x => (x, c))
theorem mM_pot {c c' : vMH} {x : Int32} (h : oM_pot  c = some (x, c')) : MC LM (0 + 1) yX6_pot cX6_pot 6 (some .int) [.ref 0] c (some (.int x)) c' := by
  unfold oM_pot at h
  cases hq : X6_pot c with
  | none => rw [hq] at h; cases h
  | some q => rw [hq] at h; cases h; exact c_X6_pot 0 c hq
def oC_came (a1 a2 : Int32) (c : vMH) : Option (Int32 × vMH) := (X5_came a1 a2 c).map (fun x => (x, c))
theorem mC_came (a1 a2 : Int32) {c c' : vMH} {x : Int32} (h : oC_came a1 a2 c = some (x, c')) : MC LC (0 + 1) yX5_came cX5_came 8 (some .int) [.ref 0, .int a1, .int a2] c (some (.int x)) c' := by
  unfold oC_came at h
  cases hq : X5_came a1 a2 c with
  | none => rw [hq] at h; cases h
  | some q => rw [hq] at h; cases h; exact c_X5_came 0 a1 a2 c hq
def oM_came (a1 a2 : Int32) (c : vMH) : Option (Int32 × vMH) := (X6_came a1 a2 c).map (fun x => (x, c))
theorem mM_came (a1 a2 : Int32) {c c' : vMH} {x : Int32} (h : oM_came a1 a2 c = some (x, c')) : MC LM (0 + 2) yX6_came cX6_came 7 (some .int) [.ref 0, .int a1, .int a2] c (some (.int x)) c' := by
  unfold oM_came at h
  cases hq : X6_came a1 a2 c with
  | none => rw [hq] at h; cases h
  | some q => rw [hq] at h; cases h; exact c_X6_came 0 a1 a2 c hq
def oC_dots (a1 : Int32) (c : vMH) : Option (Int32 × vMH) := (X5_dots a1 c).map (fun x => (x, c))
theorem mC_dots (a1 : Int32) {c c' : vMH} {x : Int32} (h : oC_dots a1 c = some (x, c')) : MC LC (0 + 3) yX5_dots cX5_dots 2 (some .int) [.ref 0, .int a1] c (some (.int x)) c' := by
  unfold oC_dots at h
  cases hq : X5_dots a1 c with
  | none => rw [hq] at h; cases h
  | some q => rw [hq] at h; cases h; exact c_X5_dots 0 a1 c hq
def oM_dots (a1 : Int32) (c : vMH) : Option (Int32 × vMH) := (X6_dots a1 c).map (fun x => (x, c))
theorem mM_dots (a1 : Int32) {c c' : vMH} {x : Int32} (h : oM_dots a1 c = some (x, c')) : MC LM (0 + 2) yX6_dots cX6_dots 2 (some .int) [.ref 0, .int a1] c (some (.int x)) c' := by
  unfold oM_dots at h
  cases hq : X6_dots a1 c with
  | none => rw [hq] at h; cases h
  | some q => rw [hq] at h; cases h; exact c_X6_dots 0 a1 c hq
def oC_thick (c : vMH) : Option (Int32 × vMH) := (X5_thick c).map (fun x => (x, c))
theorem mC_thick {c c' : vMH} {x : Int32} (h : oC_thick  c = some (x, c')) : MC LC (0 + 3) yX5_thick cX5_thick 5 (some .int) [.ref 0] c (some (.int x)) c' := by
  unfold oC_thick at h
  cases hq : X5_thick c with
  | none => rw [hq] at h; cases h
  | some q => rw [hq] at h; cases h; exact c_X5_thick 0 c hq
def oM_thick (c : vMH) : Option (Int32 × vMH) := (X6_thick c).map (fun x => (x, c))
theorem mM_thick {c c' : vMH} {x : Int32} (h : oM_thick  c = some (x, c')) : MC LM (0 + 2) yX6_thick cX6_thick 4 (some .int) [.ref 0] c (some (.int x)) c' := by
  unfold oM_thick at h
  cases hq : X6_thick c with
  | none => rw [hq] at h; cases h
  | some q => rw [hq] at h; cases h; exact c_X6_thick 0 c hq
def oC_judge (a1 a2 : Int32) (c : vMH) : Option (Int32 × vMH) := (X5_judge a1 a2 c).map (fun x => (x, c))
theorem mC_judge (a1 a2 : Int32) {c c' : vMH} {x : Int32} (h : oC_judge a1 a2 c = some (x, c')) : MC LC (0 + 4) yX5_judge cX5_judge 6 (some .int) [.ref 0, .int a1, .int a2] c (some (.int x)) c' := by
  unfold oC_judge at h
  cases hq : X5_judge a1 a2 c with
  | none => rw [hq] at h; cases h
  | some q => rw [hq] at h; cases h; exact c_X5_judge 0 a1 a2 c hq
def oM_judge (a1 a2 : Int32) (c : vMH) : Option (Int32 × vMH) := (X6_judge a1 a2 c).map (fun x => (x, c))
theorem mM_judge (a1 a2 : Int32) {c c' : vMH} {x : Int32} (h : oM_judge a1 a2 c = some (x, c')) : MC LM (0 + 2) yX6_judge cX6_judge 6 (some .int) [.ref 0, .int a1, .int a2] c (some (.int x)) c' := by
  unfold oM_judge at h
  cases hq : X6_judge a1 a2 c with
  | none => rw [hq] at h; cases h
  | some q => rw [hq] at h; cases h; exact c_X6_judge 0 a1 a2 c hq
def oC_unseen (c : vMH) : Option (Int32 × vMH) := (X5_unseen c).map (fun x => (x, c))
theorem mC_unseen {c c' : vMH} {x : Int32} (h : oC_unseen  c = some (x, c')) : MC LC (0 + 3) yX5_unseen cX5_unseen 1 (some .int) [.ref 0] c (some (.int x)) c' := by
  unfold oC_unseen at h
  cases hq : X5_unseen c with
  | none => rw [hq] at h; cases h
  | some q => rw [hq] at h; cases h; exact c_X5_unseen 0 c hq
def oM_unseen (c : vMH) : Option (Int32 × vMH) := (X6_unseen c).map (fun x => (x, c))
theorem mM_unseen {c c' : vMH} {x : Int32} (h : oM_unseen  c = some (x, c')) : MC LM (0 + 1) yX6_unseen cX6_unseen 3 (some .int) [.ref 0] c (some (.int x)) c' := by
  unfold oM_unseen at h
  cases hq : X6_unseen c with
  | none => rw [hq] at h; cases h
  | some q => rw [hq] at h; cases h; exact c_X6_unseen 0 c hq
def oC_left (a1 : Int32) (c : vMH) : Option (Int32 × vMH) := X5_left a1 c
theorem mC_left (a1 : Int32) {c c' : vMH} {x : Int32} (h : oC_left a1 c = some (x, c')) : MC LC (0 + 5) yX5_left cX5_left 2 (some .int) [.ref 0, .int a1] c (some (.int x)) c' := by
  exact c_X5_left 0 a1 c (res := (x, c')) h
def oM_left (a1 : Int32) (c : vMH) : Option (Int32 × vMH) := X6_left a1 c
theorem mM_left (a1 : Int32) {c c' : vMH} {x : Int32} (h : oM_left a1 c = some (x, c')) : MC LM (0 + 73) yX6_left cX6_left 6 (some .int) [.ref 0, .int a1] c (some (.int x)) c' := by
  exact c_X6_left 0 a1 c (res := (x, c')) h
def oC_drawn (a1 : Int32) (c : vMH) : Option (Int32 × vMH) := X5_drawn a1 c
theorem mC_drawn (a1 : Int32) {c c' : vMH} {x : Int32} (h : oC_drawn a1 c = some (x, c')) : MC LC (0 + 7) yX5_drawn cX5_drawn 2 (some .int) [.ref 0, .int a1] c (some (.int x)) c' := by
  exact c_X5_drawn 0 a1 c (res := (x, c')) h
def oM_drawn (a1 : Int32) (c : vMH) : Option (Int32 × vMH) := X6_drawn a1 c
theorem mM_drawn (a1 : Int32) {c c' : vMH} {x : Int32} (h : oM_drawn a1 c = some (x, c')) : MC LM (0 + 77) yX6_drawn cX6_drawn 4 (some .int) [.ref 0, .int a1] c (some (.int x)) c' := by
  exact c_X6_drawn 0 a1 c (res := (x, c')) h
def oC_odds (a1 a2 a3 a4 : Int32) (c : vMH) : Option (Int64 × vMH) := X5_odds a1 a2 a3 a4 c
theorem mC_odds (a1 a2 a3 a4 : Int32) {c c' : vMH} {x : Int64} (h : oC_odds a1 a2 a3 a4 c = some (x, c')) : MC LC (0 + 7) yX5_odds cX5_odds 7 (some .long) [.ref 0, .int a1, .int a2, .int a3, .int a4] c (some (.long x)) c' := by
  exact c_X5_odds 0 a1 a2 a3 a4 c (res := (x, c')) h
def oM_odds (a1 a2 a3 a4 : Int32) (c : vMH) : Option (Int64 × vMH) := X6_odds a1 a2 a3 a4 c
theorem mM_odds (a1 a2 a3 a4 : Int32) {c c' : vMH} {x : Int64} (h : oM_odds a1 a2 a3 a4 c = some (x, c')) : MC LM (0 + 78) yX6_odds cX6_odds 13 (some .long) [.ref 0, .int a1, .int a2, .int a3, .int a4] c (some (.long x)) c' := by
  exact c_X6_odds 0 a1 a2 a3 a4 c (res := (x, c')) h
def oC_image (c : vMH) : Option (Int32 × vMH) := some (X5_image c)
theorem mC_image {c c' : vMH} {x : Int32} (h : oC_image  c = some (x, c')) : MC LC (0 + 2) yX5_image cX5_image 1 (some .int) [.ref 0] c (some (.int x)) c' := by
  have e : X5_image c = (x, c') := Option.some.inj h
  have h2 := c_X5_image 0 c
  rw [e] at h2
  exact h2
def oM_image (c : vMH) : Option (Int32 × vMH) := X6_image c
theorem mM_image {c c' : vMH} {x : Int32} (h : oM_image  c = some (x, c')) : MC LM (0 + 1) yX6_image cX6_image 2 (some .int) [.ref 0] c (some (.int x)) c' := by
  exact c_X6_image 0 c (res := (x, c')) h
def oC_back (c : vMH) : Option (Int32 × vMH) := some (X5_back c)
theorem mC_back {c c' : vMH} {x : Int32} (h : oC_back  c = some (x, c')) : MC LC (0 + 2) yX5_back cX5_back 1 (some .int) [.ref 0] c (some (.int x)) c' := by
  have e : X5_back c = (x, c') := Option.some.inj h
  have h2 := c_X5_back 0 c
  rw [e] at h2
  exact h2
def oM_back (c : vMH) : Option (Int32 × vMH) := X6_back c
theorem mM_back {c c' : vMH} {x : Int32} (h : oM_back  c = some (x, c')) : MC LM (0 + 1) yX6_back cX6_back 2 (some .int) [.ref 0] c (some (.int x)) c' := by
  exact c_X6_back 0 c (res := (x, c')) h
def oC_count (a1 : Int32) (c : vMH) : Option (Int32 × vMH) := some (X5_count a1 c, c)
theorem mC_count (a1 : Int32) {c c' : vMH} {x : Int32} (h : oC_count a1 c = some (x, c')) : MC LC (0 + 2) yX5_count cX5_count 2 (some .int) [.ref 0, .int a1] c (some (.int x)) c' := by
  cases h
  exact c_X5_count 0 a1 c
def oM_count (a1 : Int32) (c : vMH) : Option (Int32 × vMH) := (X6_count a1 c).map (fun x => (x, c))
theorem mM_count (a1 : Int32) {c c' : vMH} {x : Int32} (h : oM_count a1 c = some (x, c')) : MC LM (0 + 1) yX6_count cX6_count 2 (some .int) [.ref 0, .int a1] c (some (.int x)) c' := by
  unfold oM_count at h
  cases hq : X6_count a1 c with
  | none => rw [hq] at h; cases h
  | some q => rw [hq] at h; cases h; exact c_X6_count 0 a1 c hq
def oC_sheet (a1 a2 a3 : Int32) (c : vMH) : Option (Int32 × vMH) := X5_sheet a1 a2 a3 c
theorem mC_sheet (a1 a2 a3 : Int32) {c c' : vMH} {x : Int32} (h : oC_sheet a1 a2 a3 c = some (x, c')) : MC LC (0 + 3) yX5_sheet cX5_sheet 4 (some .int) [.ref 0, .int a1, .int a2, .int a3] c (some (.int x)) c' := by
  exact c_X5_sheet 0 a1 a2 a3 c (res := (x, c')) h
def oM_sheet (a1 a2 a3 : Int32) (c : vMH) : Option (Int32 × vMH) := X6_sheet a1 a2 a3 c
theorem mM_sheet (a1 a2 a3 : Int32) {c c' : vMH} {x : Int32} (h : oM_sheet a1 a2 a3 c = some (x, c')) : MC LM (0 + 2) yX6_sheet cX6_sheet 5 (some .int) [.ref 0, .int a1, .int a2, .int a3] c (some (.int x)) c' := by
  exact c_X6_sheet 0 a1 a2 a3 c (res := (x, c')) h
def oC_cell (a1 a2 a3 : Int32) (c : vMH) : Option (Int32 × vMH) := X5_cell a1 a2 a3 c
theorem mC_cell (a1 a2 a3 : Int32) {c c' : vMH} {x : Int32} (h : oC_cell a1 a2 a3 c = some (x, c')) : MC LC (0 + 4) yX5_cell cX5_cell 4 (some .int) [.ref 0, .int a1, .int a2, .int a3] c (some (.int x)) c' := by
  exact c_X5_cell 0 a1 a2 a3 c (res := (x, c')) h
def oM_cell (a1 a2 a3 : Int32) (c : vMH) : Option (Int32 × vMH) := X6_cell a1 a2 a3 c
theorem mM_cell (a1 a2 a3 : Int32) {c c' : vMH} {x : Int32} (h : oM_cell a1 a2 a3 c = some (x, c')) : MC LM (0 + 2) yX6_cell cX6_cell 4 (some .int) [.ref 0, .int a1, .int a2, .int a3] c (some (.int x)) c' := by
  exact c_X6_cell 0 a1 a2 a3 c (res := (x, c')) h
def oC_copy (a1 a2 a3 a4 a5 : Int32) (c : vMH) : Option (Int32 × vMH) := X5_copy a1 a2 a3 a4 a5 c
theorem mC_copy (a1 a2 a3 a4 a5 : Int32) {c c' : vMH} {x : Int32} (h : oC_copy a1 a2 a3 a4 a5 c = some (x, c')) : MC LC (0 + 4) yX5_copy cX5_copy 6 (some .int) [.ref 0, .int a1, .int a2, .int a3, .int a4, .int a5] c (some (.int x)) c' := by
  exact c_X5_copy 0 a1 a2 a3 a4 a5 c (res := (x, c')) h
def oM_copy (a1 a2 a3 a4 a5 : Int32) (c : vMH) : Option (Int32 × vMH) := X6_copy a1 a2 a3 a4 a5 c
theorem mM_copy (a1 a2 a3 a4 a5 : Int32) {c c' : vMH} {x : Int32} (h : oM_copy a1 a2 a3 a4 a5 c = some (x, c')) : MC LM (0 + 2) yX6_copy cX6_copy 9 (some .int) [.ref 0, .int a1, .int a2, .int a3, .int a4, .int a5] c (some (.int x)) c' := by
  exact c_X6_copy 0 a1 a2 a3 a4 a5 c (res := (x, c')) h
def oC_finds (a1 a2 a3 a4 : Int32) (c : vMH) : Option (Int32 × vMH) := X5_finds a1 a2 a3 a4 c
theorem mC_finds (a1 a2 a3 a4 : Int32) {c c' : vMH} {x : Int32} (h : oC_finds a1 a2 a3 a4 c = some (x, c')) : MC LC (0 + 4) yX5_finds cX5_finds 10 (some .int) [.ref 0, .int a1, .int a2, .int a3, .int a4] c (some (.int x)) c' := by
  exact c_X5_finds 0 a1 a2 a3 a4 c (res := (x, c')) h
def oM_finds (a1 a2 a3 a4 : Int32) (c : vMH) : Option (Int32 × vMH) := X6_finds a1 a2 a3 a4 c
theorem mM_finds (a1 a2 a3 a4 : Int32) {c c' : vMH} {x : Int32} (h : oM_finds a1 a2 a3 a4 c = some (x, c')) : MC LM (0 + 3) yX6_finds cX6_finds 8 (some .int) [.ref 0, .int a1, .int a2, .int a3, .int a4] c (some (.int x)) c' := by
  exact c_X6_finds 0 a1 a2 a3 a4 c (res := (x, c')) h
def oC_taken (a1 a2 : Int32) (c : vMH) : Option (Int32 × vMH) := (X5_taken a1 a2 c).map (fun x => (x, c))
theorem mC_taken (a1 a2 : Int32) {c c' : vMH} {x : Int32} (h : oC_taken a1 a2 c = some (x, c')) : MC LC (0 + 1) yX5_taken cX5_taken 3 (some .int) [.ref 0, .int a1, .int a2] c (some (.int x)) c' := by
  unfold oC_taken at h
  cases hq : X5_taken a1 a2 c with
  | none => rw [hq] at h; cases h
  | some q => rw [hq] at h; cases h; exact c_X5_taken 0 a1 a2 c hq
def oM_taken (a1 a2 : Int32) (c : vMH) : Option (Int32 × vMH) := (X6_taken a1 a2 c).map (fun x => (x, c))
theorem mM_taken (a1 a2 : Int32) {c c' : vMH} {x : Int32} (h : oM_taken a1 a2 c = some (x, c')) : MC LM (0 + 2) yX6_taken cX6_taken 4 (some .int) [.ref 0, .int a1, .int a2] c (some (.int x)) c' := by
  unfold oM_taken at h
  cases hq : X6_taken a1 a2 c with
  | none => rw [hq] at h; cases h
  | some q => rw [hq] at h; cases h; exact c_X6_taken 0 a1 a2 c hq
/-- a call keeps the two alike: equal answers, and they are alike behind it -/
def OpOK {α : Type} (Rl : vMH → vMH → Prop) (f g : vMH → Option (α × vMH)) : Prop := ∀ c m : vMH, Rl c m → ∃ (x : α) (c' m' : vMH), f c = some (x, c') ∧ g m = some (x, m') ∧ Rl c' m'
def Ops (Rl : vMH → vMH → Prop) : Prop :=
  (∀ a1 a2 a3 : Int32, OpOK Rl (oC_find a1 a2 a3) (oM_find a1 a2 a3)) ∧
  (∀ a1 a2 a3 : Int32, OpOK Rl (oC_set a1 a2 a3) (oM_set a1 a2 a3)) ∧
  (∀ a1 a2 : Int32, OpOK Rl (oC_told a1 a2) (oM_told a1 a2)) ∧
  (∀ a1 : Int32, OpOK Rl (oC_feed a1) (oM_feed a1)) ∧
  OpOK Rl oC_text oM_text ∧
  (∀ a1 : Int32, OpOK Rl (oC_force a1) (oM_force a1)) ∧
  (∀ a1 : Int32, OpOK Rl (oC_beep a1) (oM_beep a1)) ∧
  (∀ a1 : Int32, OpOK Rl (oC_walk a1) (oM_walk a1)) ∧
  OpOK Rl oC_plough oM_plough ∧
  (∀ a1 a2 : Int32, OpOK Rl (oC_found a1 a2) (oM_found a1 a2)) ∧
  (∀ a1 : Int32, OpOK Rl (oC_years a1) (oM_years a1)) ∧
  (∀ a1 : Int32, OpOK Rl (oC_soonest a1) (oM_soonest a1)) ∧
  (∀ a1 a2 : Int32, OpOK Rl (oC_strips a1 a2) (oM_strips a1 a2)) ∧
  OpOK Rl oC_better oM_better ∧
  (∀ a1 a2 : Int32, OpOK Rl (oC_order a1 a2) (oM_order a1 a2)) ∧
  OpOK Rl oC_pot oM_pot ∧
  (∀ a1 a2 : Int32, OpOK Rl (oC_came a1 a2) (oM_came a1 a2)) ∧
  (∀ a1 : Int32, OpOK Rl (oC_dots a1) (oM_dots a1)) ∧
  OpOK Rl oC_thick oM_thick ∧
  (∀ a1 a2 : Int32, OpOK Rl (oC_judge a1 a2) (oM_judge a1 a2)) ∧
  OpOK Rl oC_unseen oM_unseen ∧
  (∀ a1 : Int32, OpOK Rl (oC_left a1) (oM_left a1)) ∧
  (∀ a1 : Int32, OpOK Rl (oC_drawn a1) (oM_drawn a1)) ∧
  (∀ a1 a2 a3 a4 : Int32, OpOK Rl (oC_odds a1 a2 a3 a4) (oM_odds a1 a2 a3 a4)) ∧
  OpOK Rl oC_image oM_image ∧
  OpOK Rl oC_back oM_back ∧
  (∀ a1 : Int32, OpOK Rl (oC_count a1) (oM_count a1)) ∧
  (∀ a1 a2 a3 : Int32, OpOK Rl (oC_sheet a1 a2 a3) (oM_sheet a1 a2 a3)) ∧
  (∀ a1 a2 a3 : Int32, OpOK Rl (oC_cell a1 a2 a3) (oM_cell a1 a2 a3)) ∧
  (∀ a1 a2 a3 a4 a5 : Int32, OpOK Rl (oC_copy a1 a2 a3 a4 a5) (oM_copy a1 a2 a3 a4 a5)) ∧
  (∀ a1 a2 a3 a4 : Int32, OpOK Rl (oC_finds a1 a2 a3 a4) (oM_finds a1 a2 a3 a4)) ∧
  (∀ a1 a2 : Int32, OpOK Rl (oC_taken a1 a2) (oM_taken a1 a2))
