/-! the words of the law's helpers -/
def litL : List Cond := [.initialized RL, .classLink RL 13 "java/lang/IllegalArgumentException", .classLink RL 15 "java/lang/IllegalStateException", .classLink RL 45 "java/lang/IndexOutOfBoundsException", .methodLink RL 105 yX0_isOn, .instanceMethod yX0_isOn, .selects RX0 yX0_isOn yX0_isOn, .methodLink RL 7 yX0_put, .instanceMethod yX0_put, .selects RX0 yX0_put yX0_put, .methodLink RL 17 yX0_get, .instanceMethod yX0_get, .selects RX0 yX0_get yX0_get, .methodLink RL 21 yX0_wouldMove, .instanceMethod yX0_wouldMove, .selects RX0 yX0_wouldMove yX0_wouldMove, .methodLink RL 25 yX0_begin, .instanceMethod yX0_begin, .selects RX0 yX0_begin yX0_begin, .methodLink RL 28 yX0_stage, .instanceMethod yX0_stage, .selects RX0 yX0_stage yX0_stage, .methodLink RL 31 yX0_commit, .instanceMethod yX0_commit, .selects RX0 yX0_commit yX0_commit, .methodLink RL 35 yX0_abandon, .instanceMethod yX0_abandon, .selects RX0 yX0_abandon yX0_abandon, .methodLink RL 38 yX0_left, .instanceMethod yX0_left, .selects RX0 yX0_left yX0_left, .methodLink RL 41 yX0_cell, .instanceMethod yX0_cell, .selects RX0 yX0_cell yX0_cell, .methodLink RL 47 yX0_failAfter, .instanceMethod yX0_failAfter, .selects RX0 yX0_failAfter yX0_failAfter, .methodLink RL 51 yX0_mount, .instanceMethod yX0_mount, .selects RX0 yX0_mount yX0_mount, .methodLink RL 54 yX0_words, .instanceMethod yX0_words, .selects RX0 yX0_words yX0_words, .methodLink RL 57 yX0_history, .instanceMethod yX0_history, .selects RX0 yX0_history yX0_history]
def bL : List Cond := litL ++ bX0
theorem gdL : bL.all goodWord = true := by decide +kernel
theorem bL_X0 : ∀ w ∈ bX0, w ∈ bL := fun _ h => List.mem_append_right _ h
theorem mL_init : Cond.initialized RL ∈ bL := List.mem_append_left _ (List.mem_of_getElem? (i := 0) rfl)
theorem mL_cl_IAE : Cond.classLink RL 13 "java/lang/IllegalArgumentException" ∈ bL := List.mem_append_left _ (List.mem_of_getElem? (i := 1) rfl)
theorem mL_cl_ISE : Cond.classLink RL 15 "java/lang/IllegalStateException" ∈ bL := List.mem_append_left _ (List.mem_of_getElem? (i := 2) rfl)
theorem mL_cl_IOB : Cond.classLink RL 45 "java/lang/IndexOutOfBoundsException" ∈ bL := List.mem_append_left _ (List.mem_of_getElem? (i := 3) rfl)
theorem mL_l_isOn : Cond.methodLink RL 105 yX0_isOn ∈ bL := List.mem_append_left _ (List.mem_of_getElem? (i := 4) rfl)
theorem mL_s_isOn : Cond.instanceMethod yX0_isOn ∈ bL := List.mem_append_left _ (List.mem_of_getElem? (i := 5) rfl)
theorem mL_v_isOn : Cond.selects RX0 yX0_isOn yX0_isOn ∈ bL := List.mem_append_left _ (List.mem_of_getElem? (i := 6) rfl)
theorem mL_l_put : Cond.methodLink RL 7 yX0_put ∈ bL := List.mem_append_left _ (List.mem_of_getElem? (i := 7) rfl)
theorem mL_s_put : Cond.instanceMethod yX0_put ∈ bL := List.mem_append_left _ (List.mem_of_getElem? (i := 8) rfl)
theorem mL_v_put : Cond.selects RX0 yX0_put yX0_put ∈ bL := List.mem_append_left _ (List.mem_of_getElem? (i := 9) rfl)
theorem mL_l_get : Cond.methodLink RL 17 yX0_get ∈ bL := List.mem_append_left _ (List.mem_of_getElem? (i := 10) rfl)
theorem mL_s_get : Cond.instanceMethod yX0_get ∈ bL := List.mem_append_left _ (List.mem_of_getElem? (i := 11) rfl)
theorem mL_v_get : Cond.selects RX0 yX0_get yX0_get ∈ bL := List.mem_append_left _ (List.mem_of_getElem? (i := 12) rfl)
theorem mL_l_wouldMove : Cond.methodLink RL 21 yX0_wouldMove ∈ bL := List.mem_append_left _ (List.mem_of_getElem? (i := 13) rfl)
theorem mL_s_wouldMove : Cond.instanceMethod yX0_wouldMove ∈ bL := List.mem_append_left _ (List.mem_of_getElem? (i := 14) rfl)
theorem mL_v_wouldMove : Cond.selects RX0 yX0_wouldMove yX0_wouldMove ∈ bL := List.mem_append_left _ (List.mem_of_getElem? (i := 15) rfl)
theorem mL_l_begin : Cond.methodLink RL 25 yX0_begin ∈ bL := List.mem_append_left _ (List.mem_of_getElem? (i := 16) rfl)
theorem mL_s_begin : Cond.instanceMethod yX0_begin ∈ bL := List.mem_append_left _ (List.mem_of_getElem? (i := 17) rfl)
theorem mL_v_begin : Cond.selects RX0 yX0_begin yX0_begin ∈ bL := List.mem_append_left _ (List.mem_of_getElem? (i := 18) rfl)
theorem mL_l_stage : Cond.methodLink RL 28 yX0_stage ∈ bL := List.mem_append_left _ (List.mem_of_getElem? (i := 19) rfl)
theorem mL_s_stage : Cond.instanceMethod yX0_stage ∈ bL := List.mem_append_left _ (List.mem_of_getElem? (i := 20) rfl)
theorem mL_v_stage : Cond.selects RX0 yX0_stage yX0_stage ∈ bL := List.mem_append_left _ (List.mem_of_getElem? (i := 21) rfl)
theorem mL_l_commit : Cond.methodLink RL 31 yX0_commit ∈ bL := List.mem_append_left _ (List.mem_of_getElem? (i := 22) rfl)
theorem mL_s_commit : Cond.instanceMethod yX0_commit ∈ bL := List.mem_append_left _ (List.mem_of_getElem? (i := 23) rfl)
theorem mL_v_commit : Cond.selects RX0 yX0_commit yX0_commit ∈ bL := List.mem_append_left _ (List.mem_of_getElem? (i := 24) rfl)
theorem mL_l_abandon : Cond.methodLink RL 35 yX0_abandon ∈ bL := List.mem_append_left _ (List.mem_of_getElem? (i := 25) rfl)
theorem mL_s_abandon : Cond.instanceMethod yX0_abandon ∈ bL := List.mem_append_left _ (List.mem_of_getElem? (i := 26) rfl)
theorem mL_v_abandon : Cond.selects RX0 yX0_abandon yX0_abandon ∈ bL := List.mem_append_left _ (List.mem_of_getElem? (i := 27) rfl)
theorem mL_l_left : Cond.methodLink RL 38 yX0_left ∈ bL := List.mem_append_left _ (List.mem_of_getElem? (i := 28) rfl)
theorem mL_s_left : Cond.instanceMethod yX0_left ∈ bL := List.mem_append_left _ (List.mem_of_getElem? (i := 29) rfl)
theorem mL_v_left : Cond.selects RX0 yX0_left yX0_left ∈ bL := List.mem_append_left _ (List.mem_of_getElem? (i := 30) rfl)
theorem mL_l_cell : Cond.methodLink RL 41 yX0_cell ∈ bL := List.mem_append_left _ (List.mem_of_getElem? (i := 31) rfl)
theorem mL_s_cell : Cond.instanceMethod yX0_cell ∈ bL := List.mem_append_left _ (List.mem_of_getElem? (i := 32) rfl)
theorem mL_v_cell : Cond.selects RX0 yX0_cell yX0_cell ∈ bL := List.mem_append_left _ (List.mem_of_getElem? (i := 33) rfl)
theorem mL_l_failAfter : Cond.methodLink RL 47 yX0_failAfter ∈ bL := List.mem_append_left _ (List.mem_of_getElem? (i := 34) rfl)
theorem mL_s_failAfter : Cond.instanceMethod yX0_failAfter ∈ bL := List.mem_append_left _ (List.mem_of_getElem? (i := 35) rfl)
theorem mL_v_failAfter : Cond.selects RX0 yX0_failAfter yX0_failAfter ∈ bL := List.mem_append_left _ (List.mem_of_getElem? (i := 36) rfl)
theorem mL_l_mount : Cond.methodLink RL 51 yX0_mount ∈ bL := List.mem_append_left _ (List.mem_of_getElem? (i := 37) rfl)
theorem mL_s_mount : Cond.instanceMethod yX0_mount ∈ bL := List.mem_append_left _ (List.mem_of_getElem? (i := 38) rfl)
theorem mL_v_mount : Cond.selects RX0 yX0_mount yX0_mount ∈ bL := List.mem_append_left _ (List.mem_of_getElem? (i := 39) rfl)
theorem mL_l_words : Cond.methodLink RL 54 yX0_words ∈ bL := List.mem_append_left _ (List.mem_of_getElem? (i := 40) rfl)
theorem mL_s_words : Cond.instanceMethod yX0_words ∈ bL := List.mem_append_left _ (List.mem_of_getElem? (i := 41) rfl)
theorem mL_v_words : Cond.selects RX0 yX0_words yX0_words ∈ bL := List.mem_append_left _ (List.mem_of_getElem? (i := 42) rfl)
theorem mL_l_history : Cond.methodLink RL 57 yX0_history ∈ bL := List.mem_append_left _ (List.mem_of_getElem? (i := 43) rfl)
theorem mL_s_history : Cond.instanceMethod yX0_history ∈ bL := List.mem_append_left _ (List.mem_of_getElem? (i := 44) rfl)
theorem mL_v_history : Cond.selects RX0 yX0_history yX0_history ∈ bL := List.mem_append_left _ (List.mem_of_getElem? (i := 45) rfl)
theorem goV2 {base b0 : List Cond} (hg : base.all goodWord = true) {own C : String} {idx : Nat} {y : MethodName} {c1 : Cond} (h1 : Cond.methodLink own idx y ∈ base) (h2 : Cond.instanceMethod y ∈ base) (h3 : Cond.selects C y y ∈ base) (h5 : Cond.initialized C ∈ base) (h4 : c1 ∈ base) (h6 : ∀ w ∈ b0, w ∈ base) : GoodIn base (wsV own idx C y (c1 :: b0)) := by
  refine goI hg fun w hw => ?_
  simp only [wsV, List.cons_append, List.nil_append, List.mem_cons] at hw
  rcases hw with rfl | rfl | rfl | rfl | rfl | h
  · exact h1
  · exact h2
  · exact h3
  · exact h5
  · exact h4
  · exact h6 w h
theorem goL_isOn : GoodIn bL (wsV RL 105 RX0 yX0_isOn wsX0_isOn) := goV2 gdL mL_l_isOn mL_s_isOn mL_v_isOn (bL_X0 _ mX0_init) (bL_X0 _ mX0_c_isOn) bL_X0
theorem goL_put : GoodIn bL (wsV RL 7 RX0 yX0_put wsX0_put) := goV2 gdL mL_l_put mL_s_put mL_v_put (bL_X0 _ mX0_init) (bL_X0 _ mX0_c_put) bL_X0
theorem goL_get : GoodIn bL (wsV RL 17 RX0 yX0_get wsX0_get) := goV2 gdL mL_l_get mL_s_get mL_v_get (bL_X0 _ mX0_init) (bL_X0 _ mX0_c_get) bL_X0
theorem goL_wouldMove : GoodIn bL (wsV RL 21 RX0 yX0_wouldMove wsX0_wouldMove) := goV2 gdL mL_l_wouldMove mL_s_wouldMove mL_v_wouldMove (bL_X0 _ mX0_init) (bL_X0 _ mX0_c_wouldMove) bL_X0
theorem goL_begin : GoodIn bL (wsV RL 25 RX0 yX0_begin wsX0_begin) := goV2 gdL mL_l_begin mL_s_begin mL_v_begin (bL_X0 _ mX0_init) (bL_X0 _ mX0_c_begin) bL_X0
theorem goL_stage : GoodIn bL (wsV RL 28 RX0 yX0_stage wsX0_stage) := goV2 gdL mL_l_stage mL_s_stage mL_v_stage (bL_X0 _ mX0_init) (bL_X0 _ mX0_c_stage) bL_X0
theorem goL_commit : GoodIn bL (wsV RL 31 RX0 yX0_commit wsX0_commit) := goV2 gdL mL_l_commit mL_s_commit mL_v_commit (bL_X0 _ mX0_init) (bL_X0 _ mX0_c_commit) bL_X0
theorem goL_abandon : GoodIn bL (wsV RL 35 RX0 yX0_abandon wsX0_abandon) := goV2 gdL mL_l_abandon mL_s_abandon mL_v_abandon (bL_X0 _ mX0_init) (bL_X0 _ mX0_c_abandon) bL_X0
theorem goL_left : GoodIn bL (wsV RL 38 RX0 yX0_left wsX0_left) := goV2 gdL mL_l_left mL_s_left mL_v_left (bL_X0 _ mX0_init) (bL_X0 _ mX0_c_left) bL_X0
theorem goL_cell : GoodIn bL (wsV RL 41 RX0 yX0_cell wsX0_cell) := goV2 gdL mL_l_cell mL_s_cell mL_v_cell (bL_X0 _ mX0_init) (bL_X0 _ mX0_c_cell) bL_X0
theorem goL_failAfter : GoodIn bL (wsV RL 47 RX0 yX0_failAfter wsX0_failAfter) := goV2 gdL mL_l_failAfter mL_s_failAfter mL_v_failAfter (bL_X0 _ mX0_init) (bL_X0 _ mX0_c_failAfter) bL_X0
theorem goL_mount : GoodIn bL (wsV RL 51 RX0 yX0_mount wsX0_mount) := goV2 gdL mL_l_mount mL_s_mount mL_v_mount (bL_X0 _ mX0_init) (bL_X0 _ mX0_c_mount) bL_X0
theorem goL_words : GoodIn bL (wsV RL 54 RX0 yX0_words wsX0_words) := goV2 gdL mL_l_words mL_s_words mL_v_words (bL_X0 _ mX0_init) (bL_X0 _ mX0_c_words) bL_X0
theorem goL_history : GoodIn bL (wsV RL 57 RX0 yX0_history wsX0_history) := goV2 gdL mL_l_history mL_s_history mL_v_history (bL_X0 _ mX0_init) (bL_X0 _ mX0_c_history) bL_X0
def hh_put : List (Nat × Nat × Nat × Nat) := [(0, 10, 13, 13), (0, 10, 17, 15)]
def wsL_put : List Cond := .codeWith yL_put cL_put 5 (some .int) hh_put :: bL
def hh_get : List (Nat × Nat × Nat × Nat) := [(0, 9, 12, 13), (0, 9, 15, 15)]
def wsL_get : List Cond := .codeWith yL_get cL_get 4 (some .int) hh_get :: bL
def hh_wouldMove : List (Nat × Nat × Nat × Nat) := [(0, 17, 20, 13), (0, 17, 24, 15)]
def wsL_wouldMove : List Cond := .codeWith yL_wouldMove cL_wouldMove 5 (some .int) hh_wouldMove :: bL
def hh_begin : List (Nat × Nat × Nat × Nat) := [(0, 4, 7, 15)]
def wsL_begin : List Cond := .codeWith yL_begin cL_begin 2 (some .int) hh_begin :: bL
def hh_stage : List (Nat × Nat × Nat × Nat) := [(0, 10, 13, 13), (0, 10, 17, 15)]
def wsL_stage : List Cond := .codeWith yL_stage cL_stage 5 (some .int) hh_stage :: bL
def hh_commit : List (Nat × Nat × Nat × Nat) := [(0, 8, 11, 15)]
def wsL_commit : List Cond := .codeWith yL_commit cL_commit 3 (some .int) hh_commit :: bL
def hh_abandon : List (Nat × Nat × Nat × Nat) := [(0, 8, 11, 15)]
def wsL_abandon : List Cond := .codeWith yL_abandon cL_abandon 3 (some .int) hh_abandon :: bL
def hh_left : List (Nat × Nat × Nat × Nat) := [(0, 9, 12, 13)]
def wsL_left : List Cond := .codeWith yL_left cL_left 4 (some .int) hh_left :: bL
def hh_cell : List (Nat × Nat × Nat × Nat) := [(0, 12, 15, 45)]
def wsL_cell : List Cond := .codeWith yL_cell cL_cell 6 (some .int) hh_cell :: bL
def hh_failAfter : List (Nat × Nat × Nat × Nat) := [(0, 5, 8, 13), (0, 5, 11, 15)]
def wsL_failAfter : List Cond := .codeWith yL_failAfter cL_failAfter 3 (some .int) hh_failAfter :: bL
def hh_mount : List (Nat × Nat × Nat × Nat) := [(0, 8, 11, 15)]
def wsL_mount : List Cond := .codeWith yL_mount cL_mount 3 (some .int) hh_mount :: bL
def hh_words : List (Nat × Nat × Nat × Nat) := [(0, 9, 12, 13)]
def wsL_words : List Cond := .codeWith yL_words cL_words 4 (some .int) hh_words :: bL
def hh_history : List (Nat × Nat × Nat × Nat) := [(0, 10, 13, 13), (0, 10, 17, 45)]
def wsL_history : List Cond := .codeWith yL_history cL_history 5 (some .int) hh_history :: bL
abbrev wH (A : Nat → Nat) (cI : ClassId) (σ : OS) (O : Nat) (cJ : ClassId) (g : Nat → Int64) : va_W := [(A 0, .inr (0, [.ref (A 1), .ref (A 2), .ref (A 3), .int (oSet σ), .int (oWr σ), .int (oOn σ), .int (oUn σ), .ref (A 4), .ref (A 5), .ref (A 6), .int (oBo σ), .int (oBs σ)])), (A 1, .inl (cI, 160, .inl (oW σ))), (A 2, .inl (cI, 160, .inl (oT σ))), (A 3, .inl (cI, 360, .inl (oL σ))), (A 4, .inl (cI, 8, .inl (oK σ))), (A 5, .inl (cI, 8, .inl (oV σ))), (A 6, .inl (cI, 8, .inl (oP σ))), (O, .inl (cJ, 1, .inr (.inl g)))]
abbrev hX (A : Nat → Nat) (cI : ClassId) (σ : OS) (O : Nat) (cJ : ClassId) (g : Nat → Int64) (sz : Nat) : Nat → Prop := va_A (wH A cI σ O cJ g) sz
def xC (U : State) : Prop := va_Nc "java/lang/IllegalStateException" "java/lang/IllegalArgumentException" U ∧ va_Nc "java/lang/IndexOutOfBoundsException" "java/lang/IllegalArgumentException" U
theorem xC.moved {u U : State} (h : u.vm.Alike U.vm) (k : xC u) : xC U := ⟨k.1.moved h, k.2.moved h⟩
abbrev hPre (D : va_G) (A : Nat → Nat) (cI : ClassId) (σ : OS) (O : Nat) (cJ : ClassId) (g : Nat → Int64) (sz : Nat) : State → Prop := fun U => U.heap.size = sz ∧ va_P D vwCl (wH A cI σ O cJ g) U.heap ∧ va_K D vwCl [(cI, .int), (cJ, .long)] U ∧ va_D (fun _ => True) (wH A cI σ O cJ g) ∧ xN U ∧ xZ (hX A cI σ O cJ g sz) U ∧ xC U
abbrev hBo (D : va_G) (A : Nat → Nat) (cI : ClassId) (O : Nat) (cJ : ClassId) (X : Nat → Prop) (u : OS × (Nat → Int64)) (t : State) : Prop := va_P D vwCl (wH A cI u.1 O cJ u.2) t.heap ∧ va_K D vwCl [(cI, .int), (cJ, .long)] t ∧ va_D X (wH A cI u.1 O cJ u.2)
/-- what a helper leaves: the call's own, where it returned -/
def hU (k : Nat) (σ σ2 : OS) (g : Nat → Int64) (r : Int64) : OS × (Nat → Int64) := if k = 0 then (σ2, vp_updL g 0 r) else (σ, g)
def hV (k : Nat) (σ σ2 : OS) (g : Nat → Int64) : OS × (Nat → Int64) := if k = 0 then (σ2, g) else (σ, g)
theorem xZ.to {X Y : Nat → Prop} {s U : State} (hz : xZ X s) (hvm : s.vm.Alike U.vm) (hh : U.heap = s.heap) (hXY : ∀ q, Y q → X q) : xZ Y U := by
  obtain ⟨h1, h2⟩ := hz
  refine ⟨?_, ?_⟩
  · rw [hh]; exact (vx_Zq.moved hvm h1).narrow hXY
  · rw [hh]; exact (vx_Zq.moved hvm h2).narrow hXY
