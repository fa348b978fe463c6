/-! the words of the law itself -/
def litW : List Cond := [.arrayClass .long, .classLink RL 8 RX0, .instantiable RX0 12, .classLink RL 61 RX1, .instantiable RX1 12, .methodLink RL 60 yX0_init, .instanceMethod yX0_init, .methodLink RL 64 yL_put, .static yL_put, .codeWith yL_put cL_put 5 (some .int) hh_put, .methodLink RL 73 yL_get, .static yL_get, .codeWith yL_get cL_get 4 (some .int) hh_get, .methodLink RL 77 yL_wouldMove, .static yL_wouldMove, .codeWith yL_wouldMove cL_wouldMove 5 (some .int) hh_wouldMove, .methodLink RL 80 yL_begin, .static yL_begin, .codeWith yL_begin cL_begin 2 (some .int) hh_begin, .methodLink RL 84 yL_stage, .static yL_stage, .codeWith yL_stage cL_stage 5 (some .int) hh_stage, .methodLink RL 87 yL_commit, .static yL_commit, .codeWith yL_commit cL_commit 3 (some .int) hh_commit, .methodLink RL 91 yL_abandon, .static yL_abandon, .codeWith yL_abandon cL_abandon 3 (some .int) hh_abandon, .methodLink RL 94 yL_left, .static yL_left, .codeWith yL_left cL_left 4 (some .int) hh_left, .methodLink RL 97 yL_cell, .static yL_cell, .codeWith yL_cell cL_cell 6 (some .int) hh_cell, .methodLink RL 101 yL_failAfter, .static yL_failAfter, .codeWith yL_failAfter cL_failAfter 3 (some .int) hh_failAfter, .methodLink RL 110 yL_mount, .static yL_mount, .codeWith yL_mount cL_mount 3 (some .int) hh_mount, .methodLink RL 113 yL_words, .static yL_words, .codeWith yL_words cL_words 4 (some .int) hh_words, .methodLink RL 116 yL_history, .static yL_history, .codeWith yL_history cL_history 5 (some .int) hh_history, .methodLink RL 63 yX1_init, .instanceMethod yX1_init, .methodLink RL 70 yX1_thrown, .instanceMethod yX1_thrown, .selects RX1 yX1_thrown yX1_thrown, .methodLink RL 69 yX1_put, .instanceMethod yX1_put, .selects RX1 yX1_put yX1_put, .methodLink RL 76 yX1_get, .instanceMethod yX1_get, .selects RX1 yX1_get yX1_get, .methodLink RL 79 yX1_wouldMove, .instanceMethod yX1_wouldMove, .selects RX1 yX1_wouldMove yX1_wouldMove, .methodLink RL 83 yX1_begin, .instanceMethod yX1_begin, .selects RX1 yX1_begin yX1_begin, .methodLink RL 86 yX1_stage, .instanceMethod yX1_stage, .selects RX1 yX1_stage yX1_stage, .methodLink RL 93 yX1_abandon, .instanceMethod yX1_abandon, .selects RX1 yX1_abandon yX1_abandon, .methodLink RL 90 yX1_commit, .instanceMethod yX1_commit, .selects RX1 yX1_commit yX1_commit, .methodLink RL 104 yX1_failAfter, .instanceMethod yX1_failAfter, .selects RX1 yX1_failAfter yX1_failAfter, .methodLink RL 109 yX1_isOn, .instanceMethod yX1_isOn, .selects RX1 yX1_isOn yX1_isOn, .methodLink RL 112 yX1_mount, .instanceMethod yX1_mount, .selects RX1 yX1_mount yX1_mount, .methodLink RL 96 yX1_left, .instanceMethod yX1_left, .selects RX1 yX1_left yX1_left, .methodLink RL 100 yX1_cell, .instanceMethod yX1_cell, .selects RX1 yX1_cell yX1_cell, .methodLink RL 115 yX1_words, .instanceMethod yX1_words, .selects RX1 yX1_words yX1_words, .methodLink RL 118 yX1_history, .instanceMethod yX1_history, .selects RX1 yX1_history yX1_history]
def bW : List Cond := litW ++ (bL ++ bX1)
theorem gdW : bW.all goodWord = true := by decide +kernel
theorem bW_L : ∀ w ∈ bL, w ∈ bW := fun _ h => List.mem_append_right _ (List.mem_append_left _ h)
theorem bW_1 : ∀ w ∈ bX1, w ∈ bW := fun _ h => List.mem_append_right _ (List.mem_append_right _ h)
theorem bW_0 : ∀ w ∈ bX0, w ∈ bW := fun w h => bW_L w (bL_X0 w h)
theorem mW_a_long : Cond.arrayClass .long ∈ bW := List.mem_append_left _ (List.mem_of_getElem? (i := 0) rfl)
theorem mW_cl_X0 : Cond.classLink RL 8 RX0 ∈ bW := List.mem_append_left _ (List.mem_of_getElem? (i := 1) rfl)
theorem mW_in_X0 : Cond.instantiable RX0 12 ∈ bW := List.mem_append_left _ (List.mem_of_getElem? (i := 2) rfl)
theorem mW_cl_X1 : Cond.classLink RL 61 RX1 ∈ bW := List.mem_append_left _ (List.mem_of_getElem? (i := 3) rfl)
theorem mW_in_X1 : Cond.instantiable RX1 12 ∈ bW := List.mem_append_left _ (List.mem_of_getElem? (i := 4) rfl)
theorem mW_l_X0init : Cond.methodLink RL 60 yX0_init ∈ bW := List.mem_append_left _ (List.mem_of_getElem? (i := 5) rfl)
theorem mW_s_X0init : Cond.instanceMethod yX0_init ∈ bW := List.mem_append_left _ (List.mem_of_getElem? (i := 6) rfl)
theorem mW_l_Lput : Cond.methodLink RL 64 yL_put ∈ bW := List.mem_append_left _ (List.mem_of_getElem? (i := 7) rfl)
theorem mW_s_Lput : Cond.static yL_put ∈ bW := List.mem_append_left _ (List.mem_of_getElem? (i := 8) rfl)
theorem mW_c_Lput : Cond.codeWith yL_put cL_put 5 (some .int) hh_put ∈ bW := List.mem_append_left _ (List.mem_of_getElem? (i := 9) rfl)
theorem mW_l_Lget : Cond.methodLink RL 73 yL_get ∈ bW := List.mem_append_left _ (List.mem_of_getElem? (i := 10) rfl)
theorem mW_s_Lget : Cond.static yL_get ∈ bW := List.mem_append_left _ (List.mem_of_getElem? (i := 11) rfl)
theorem mW_c_Lget : Cond.codeWith yL_get cL_get 4 (some .int) hh_get ∈ bW := List.mem_append_left _ (List.mem_of_getElem? (i := 12) rfl)
theorem mW_l_LwouldMove : Cond.methodLink RL 77 yL_wouldMove ∈ bW := List.mem_append_left _ (List.mem_of_getElem? (i := 13) rfl)
theorem mW_s_LwouldMove : Cond.static yL_wouldMove ∈ bW := List.mem_append_left _ (List.mem_of_getElem? (i := 14) rfl)
theorem mW_c_LwouldMove : Cond.codeWith yL_wouldMove cL_wouldMove 5 (some .int) hh_wouldMove ∈ bW := List.mem_append_left _ (List.mem_of_getElem? (i := 15) rfl)
theorem mW_l_Lbegin : Cond.methodLink RL 80 yL_begin ∈ bW := List.mem_append_left _ (List.mem_of_getElem? (i := 16) rfl)
theorem mW_s_Lbegin : Cond.static yL_begin ∈ bW := List.mem_append_left _ (List.mem_of_getElem? (i := 17) rfl)
theorem mW_c_Lbegin : Cond.codeWith yL_begin cL_begin 2 (some .int) hh_begin ∈ bW := List.mem_append_left _ (List.mem_of_getElem? (i := 18) rfl)
theorem mW_l_Lstage : Cond.methodLink RL 84 yL_stage ∈ bW := List.mem_append_left _ (List.mem_of_getElem? (i := 19) rfl)
theorem mW_s_Lstage : Cond.static yL_stage ∈ bW := List.mem_append_left _ (List.mem_of_getElem? (i := 20) rfl)
theorem mW_c_Lstage : Cond.codeWith yL_stage cL_stage 5 (some .int) hh_stage ∈ bW := List.mem_append_left _ (List.mem_of_getElem? (i := 21) rfl)
theorem mW_l_Lcommit : Cond.methodLink RL 87 yL_commit ∈ bW := List.mem_append_left _ (List.mem_of_getElem? (i := 22) rfl)
theorem mW_s_Lcommit : Cond.static yL_commit ∈ bW := List.mem_append_left _ (List.mem_of_getElem? (i := 23) rfl)
theorem mW_c_Lcommit : Cond.codeWith yL_commit cL_commit 3 (some .int) hh_commit ∈ bW := List.mem_append_left _ (List.mem_of_getElem? (i := 24) rfl)
theorem mW_l_Labandon : Cond.methodLink RL 91 yL_abandon ∈ bW := List.mem_append_left _ (List.mem_of_getElem? (i := 25) rfl)
theorem mW_s_Labandon : Cond.static yL_abandon ∈ bW := List.mem_append_left _ (List.mem_of_getElem? (i := 26) rfl)
theorem mW_c_Labandon : Cond.codeWith yL_abandon cL_abandon 3 (some .int) hh_abandon ∈ bW := List.mem_append_left _ (List.mem_of_getElem? (i := 27) rfl)
theorem mW_l_Lleft : Cond.methodLink RL 94 yL_left ∈ bW := List.mem_append_left _ (List.mem_of_getElem? (i := 28) rfl)
theorem mW_s_Lleft : Cond.static yL_left ∈ bW := List.mem_append_left _ (List.mem_of_getElem? (i := 29) rfl)
theorem mW_c_Lleft : Cond.codeWith yL_left cL_left 4 (some .int) hh_left ∈ bW := List.mem_append_left _ (List.mem_of_getElem? (i := 30) rfl)
theorem mW_l_Lcell : Cond.methodLink RL 97 yL_cell ∈ bW := List.mem_append_left _ (List.mem_of_getElem? (i := 31) rfl)
theorem mW_s_Lcell : Cond.static yL_cell ∈ bW := List.mem_append_left _ (List.mem_of_getElem? (i := 32) rfl)
theorem mW_c_Lcell : Cond.codeWith yL_cell cL_cell 6 (some .int) hh_cell ∈ bW := List.mem_append_left _ (List.mem_of_getElem? (i := 33) rfl)
theorem mW_l_LfailAfter : Cond.methodLink RL 101 yL_failAfter ∈ bW := List.mem_append_left _ (List.mem_of_getElem? (i := 34) rfl)
theorem mW_s_LfailAfter : Cond.static yL_failAfter ∈ bW := List.mem_append_left _ (List.mem_of_getElem? (i := 35) rfl)
theorem mW_c_LfailAfter : Cond.codeWith yL_failAfter cL_failAfter 3 (some .int) hh_failAfter ∈ bW := List.mem_append_left _ (List.mem_of_getElem? (i := 36) rfl)
theorem mW_l_Lmount : Cond.methodLink RL 110 yL_mount ∈ bW := List.mem_append_left _ (List.mem_of_getElem? (i := 37) rfl)
theorem mW_s_Lmount : Cond.static yL_mount ∈ bW := List.mem_append_left _ (List.mem_of_getElem? (i := 38) rfl)
theorem mW_c_Lmount : Cond.codeWith yL_mount cL_mount 3 (some .int) hh_mount ∈ bW := List.mem_append_left _ (List.mem_of_getElem? (i := 39) rfl)
theorem mW_l_Lwords : Cond.methodLink RL 113 yL_words ∈ bW := List.mem_append_left _ (List.mem_of_getElem? (i := 40) rfl)
theorem mW_s_Lwords : Cond.static yL_words ∈ bW := List.mem_append_left _ (List.mem_of_getElem? (i := 41) rfl)
theorem mW_c_Lwords : Cond.codeWith yL_words cL_words 4 (some .int) hh_words ∈ bW := List.mem_append_left _ (List.mem_of_getElem? (i := 42) rfl)
theorem mW_l_Lhistory : Cond.methodLink RL 116 yL_history ∈ bW := List.mem_append_left _ (List.mem_of_getElem? (i := 43) rfl)
theorem mW_s_Lhistory : Cond.static yL_history ∈ bW := List.mem_append_left _ (List.mem_of_getElem? (i := 44) rfl)
theorem mW_c_Lhistory : Cond.codeWith yL_history cL_history 5 (some .int) hh_history ∈ bW := List.mem_append_left _ (List.mem_of_getElem? (i := 45) rfl)
theorem mW_l_X1init : Cond.methodLink RL 63 yX1_init ∈ bW := List.mem_append_left _ (List.mem_of_getElem? (i := 46) rfl)
theorem mW_s_X1init : Cond.instanceMethod yX1_init ∈ bW := List.mem_append_left _ (List.mem_of_getElem? (i := 47) rfl)
theorem mW_l_X1thrown : Cond.methodLink RL 70 yX1_thrown ∈ bW := List.mem_append_left _ (List.mem_of_getElem? (i := 48) rfl)
theorem mW_s_X1thrown : Cond.instanceMethod yX1_thrown ∈ bW := List.mem_append_left _ (List.mem_of_getElem? (i := 49) rfl)
theorem mW_v_X1thrown : Cond.selects RX1 yX1_thrown yX1_thrown ∈ bW := List.mem_append_left _ (List.mem_of_getElem? (i := 50) rfl)
theorem mW_l_X1put : Cond.methodLink RL 69 yX1_put ∈ bW := List.mem_append_left _ (List.mem_of_getElem? (i := 51) rfl)
theorem mW_s_X1put : Cond.instanceMethod yX1_put ∈ bW := List.mem_append_left _ (List.mem_of_getElem? (i := 52) rfl)
theorem mW_v_X1put : Cond.selects RX1 yX1_put yX1_put ∈ bW := List.mem_append_left _ (List.mem_of_getElem? (i := 53) rfl)
theorem mW_l_X1get : Cond.methodLink RL 76 yX1_get ∈ bW := List.mem_append_left _ (List.mem_of_getElem? (i := 54) rfl)
theorem mW_s_X1get : Cond.instanceMethod yX1_get ∈ bW := List.mem_append_left _ (List.mem_of_getElem? (i := 55) rfl)
theorem mW_v_X1get : Cond.selects RX1 yX1_get yX1_get ∈ bW := List.mem_append_left _ (List.mem_of_getElem? (i := 56) rfl)
theorem mW_l_X1wouldMove : Cond.methodLink RL 79 yX1_wouldMove ∈ bW := List.mem_append_left _ (List.mem_of_getElem? (i := 57) rfl)
theorem mW_s_X1wouldMove : Cond.instanceMethod yX1_wouldMove ∈ bW := List.mem_append_left _ (List.mem_of_getElem? (i := 58) rfl)
theorem mW_v_X1wouldMove : Cond.selects RX1 yX1_wouldMove yX1_wouldMove ∈ bW := List.mem_append_left _ (List.mem_of_getElem? (i := 59) rfl)
theorem mW_l_X1begin : Cond.methodLink RL 83 yX1_begin ∈ bW := List.mem_append_left _ (List.mem_of_getElem? (i := 60) rfl)
theorem mW_s_X1begin : Cond.instanceMethod yX1_begin ∈ bW := List.mem_append_left _ (List.mem_of_getElem? (i := 61) rfl)
theorem mW_v_X1begin : Cond.selects RX1 yX1_begin yX1_begin ∈ bW := List.mem_append_left _ (List.mem_of_getElem? (i := 62) rfl)
theorem mW_l_X1stage : Cond.methodLink RL 86 yX1_stage ∈ bW := List.mem_append_left _ (List.mem_of_getElem? (i := 63) rfl)
theorem mW_s_X1stage : Cond.instanceMethod yX1_stage ∈ bW := List.mem_append_left _ (List.mem_of_getElem? (i := 64) rfl)
theorem mW_v_X1stage : Cond.selects RX1 yX1_stage yX1_stage ∈ bW := List.mem_append_left _ (List.mem_of_getElem? (i := 65) rfl)
theorem mW_l_X1abandon : Cond.methodLink RL 93 yX1_abandon ∈ bW := List.mem_append_left _ (List.mem_of_getElem? (i := 66) rfl)
theorem mW_s_X1abandon : Cond.instanceMethod yX1_abandon ∈ bW := List.mem_append_left _ (List.mem_of_getElem? (i := 67) rfl)
theorem mW_v_X1abandon : Cond.selects RX1 yX1_abandon yX1_abandon ∈ bW := List.mem_append_left _ (List.mem_of_getElem? (i := 68) rfl)
theorem mW_l_X1commit : Cond.methodLink RL 90 yX1_commit ∈ bW := List.mem_append_left _ (List.mem_of_getElem? (i := 69) rfl)
theorem mW_s_X1commit : Cond.instanceMethod yX1_commit ∈ bW := List.mem_append_left _ (List.mem_of_getElem? (i := 70) rfl)
theorem mW_v_X1commit : Cond.selects RX1 yX1_commit yX1_commit ∈ bW := List.mem_append_left _ (List.mem_of_getElem? (i := 71) rfl)
theorem mW_l_X1failAfter : Cond.methodLink RL 104 yX1_failAfter ∈ bW := List.mem_append_left _ (List.mem_of_getElem? (i := 72) rfl)
theorem mW_s_X1failAfter : Cond.instanceMethod yX1_failAfter ∈ bW := List.mem_append_left _ (List.mem_of_getElem? (i := 73) rfl)
theorem mW_v_X1failAfter : Cond.selects RX1 yX1_failAfter yX1_failAfter ∈ bW := List.mem_append_left _ (List.mem_of_getElem? (i := 74) rfl)
theorem mW_l_X1isOn : Cond.methodLink RL 109 yX1_isOn ∈ bW := List.mem_append_left _ (List.mem_of_getElem? (i := 75) rfl)
theorem mW_s_X1isOn : Cond.instanceMethod yX1_isOn ∈ bW := List.mem_append_left _ (List.mem_of_getElem? (i := 76) rfl)
theorem mW_v_X1isOn : Cond.selects RX1 yX1_isOn yX1_isOn ∈ bW := List.mem_append_left _ (List.mem_of_getElem? (i := 77) rfl)
theorem mW_l_X1mount : Cond.methodLink RL 112 yX1_mount ∈ bW := List.mem_append_left _ (List.mem_of_getElem? (i := 78) rfl)
theorem mW_s_X1mount : Cond.instanceMethod yX1_mount ∈ bW := List.mem_append_left _ (List.mem_of_getElem? (i := 79) rfl)
theorem mW_v_X1mount : Cond.selects RX1 yX1_mount yX1_mount ∈ bW := List.mem_append_left _ (List.mem_of_getElem? (i := 80) rfl)
theorem mW_l_X1left : Cond.methodLink RL 96 yX1_left ∈ bW := List.mem_append_left _ (List.mem_of_getElem? (i := 81) rfl)
theorem mW_s_X1left : Cond.instanceMethod yX1_left ∈ bW := List.mem_append_left _ (List.mem_of_getElem? (i := 82) rfl)
theorem mW_v_X1left : Cond.selects RX1 yX1_left yX1_left ∈ bW := List.mem_append_left _ (List.mem_of_getElem? (i := 83) rfl)
theorem mW_l_X1cell : Cond.methodLink RL 100 yX1_cell ∈ bW := List.mem_append_left _ (List.mem_of_getElem? (i := 84) rfl)
theorem mW_s_X1cell : Cond.instanceMethod yX1_cell ∈ bW := List.mem_append_left _ (List.mem_of_getElem? (i := 85) rfl)
theorem mW_v_X1cell : Cond.selects RX1 yX1_cell yX1_cell ∈ bW := List.mem_append_left _ (List.mem_of_getElem? (i := 86) rfl)
theorem mW_l_X1words : Cond.methodLink RL 115 yX1_words ∈ bW := List.mem_append_left _ (List.mem_of_getElem? (i := 87) rfl)
theorem mW_s_X1words : Cond.instanceMethod yX1_words ∈ bW := List.mem_append_left _ (List.mem_of_getElem? (i := 88) rfl)
theorem mW_v_X1words : Cond.selects RX1 yX1_words yX1_words ∈ bW := List.mem_append_left _ (List.mem_of_getElem? (i := 89) rfl)
theorem mW_l_X1history : Cond.methodLink RL 118 yX1_history ∈ bW := List.mem_append_left _ (List.mem_of_getElem? (i := 90) rfl)
theorem mW_s_X1history : Cond.instanceMethod yX1_history ∈ bW := List.mem_append_left _ (List.mem_of_getElem? (i := 91) rfl)
theorem mW_v_X1history : Cond.selects RX1 yX1_history yX1_history ∈ bW := List.mem_append_left _ (List.mem_of_getElem? (i := 92) rfl)
theorem goSW {base b0 : List Cond} (hg : base.all goodWord = true) {own : String} {idx : Nat} {y : MethodName} {c1 : Cond} (h1 : Cond.methodLink own idx y ∈ base) (h2 : Cond.static y ∈ base) (h3 : Cond.initialized y.cls ∈ base) (h4 : c1 ∈ base) (h6 : ∀ w ∈ b0, w ∈ base) : GoodIn base (va_wsS own idx y (c1 :: b0)) := by
  refine goI hg fun w hw => ?_
  simp only [va_wsS, List.cons_append, List.nil_append, List.mem_cons] at hw
  rcases hw with rfl | rfl | rfl | rfl | h
  · exact h1
  · exact h2
  · exact h3
  · exact h4
  · exact h6 w h
theorem goW_X0isOn : GoodIn bW (wsV RL 105 RX0 yX0_isOn wsX0_isOn) := goV2 gdW (bW_L _ mL_l_isOn) (bW_L _ mL_s_isOn) (bW_L _ mL_v_isOn) (bW_0 _ mX0_init) (bW_0 _ mX0_c_isOn) bW_0
theorem goW_Lput : GoodIn bW (va_wsS RL 64 yL_put wsL_put) := goSW gdW mW_l_Lput mW_s_Lput (bW_L _ mL_init) mW_c_Lput bW_L
theorem goW_Lget : GoodIn bW (va_wsS RL 73 yL_get wsL_get) := goSW gdW mW_l_Lget mW_s_Lget (bW_L _ mL_init) mW_c_Lget bW_L
theorem goW_LwouldMove : GoodIn bW (va_wsS RL 77 yL_wouldMove wsL_wouldMove) := goSW gdW mW_l_LwouldMove mW_s_LwouldMove (bW_L _ mL_init) mW_c_LwouldMove bW_L
theorem goW_Lbegin : GoodIn bW (va_wsS RL 80 yL_begin wsL_begin) := goSW gdW mW_l_Lbegin mW_s_Lbegin (bW_L _ mL_init) mW_c_Lbegin bW_L
theorem goW_Lstage : GoodIn bW (va_wsS RL 84 yL_stage wsL_stage) := goSW gdW mW_l_Lstage mW_s_Lstage (bW_L _ mL_init) mW_c_Lstage bW_L
theorem goW_Lcommit : GoodIn bW (va_wsS RL 87 yL_commit wsL_commit) := goSW gdW mW_l_Lcommit mW_s_Lcommit (bW_L _ mL_init) mW_c_Lcommit bW_L
theorem goW_Labandon : GoodIn bW (va_wsS RL 91 yL_abandon wsL_abandon) := goSW gdW mW_l_Labandon mW_s_Labandon (bW_L _ mL_init) mW_c_Labandon bW_L
theorem goW_Lleft : GoodIn bW (va_wsS RL 94 yL_left wsL_left) := goSW gdW mW_l_Lleft mW_s_Lleft (bW_L _ mL_init) mW_c_Lleft bW_L
theorem goW_Lcell : GoodIn bW (va_wsS RL 97 yL_cell wsL_cell) := goSW gdW mW_l_Lcell mW_s_Lcell (bW_L _ mL_init) mW_c_Lcell bW_L
theorem goW_LfailAfter : GoodIn bW (va_wsS RL 101 yL_failAfter wsL_failAfter) := goSW gdW mW_l_LfailAfter mW_s_LfailAfter (bW_L _ mL_init) mW_c_LfailAfter bW_L
theorem goW_Lmount : GoodIn bW (va_wsS RL 110 yL_mount wsL_mount) := goSW gdW mW_l_Lmount mW_s_Lmount (bW_L _ mL_init) mW_c_Lmount bW_L
theorem goW_Lwords : GoodIn bW (va_wsS RL 113 yL_words wsL_words) := goSW gdW mW_l_Lwords mW_s_Lwords (bW_L _ mL_init) mW_c_Lwords bW_L
theorem goW_Lhistory : GoodIn bW (va_wsS RL 116 yL_history wsL_history) := goSW gdW mW_l_Lhistory mW_s_Lhistory (bW_L _ mL_init) mW_c_Lhistory bW_L
theorem goW_X1thrown : GoodIn bW (wsV RL 70 RX1 yX1_thrown wsX1_thrown) := goV2 gdW mW_l_X1thrown mW_s_X1thrown mW_v_X1thrown (bW_1 _ mX1_init) (bW_1 _ mX1_c_thrown) bW_1
theorem goW_X1put : GoodIn bW (wsV RL 69 RX1 yX1_put wsX1_put) := goV2 gdW mW_l_X1put mW_s_X1put mW_v_X1put (bW_1 _ mX1_init) (bW_1 _ mX1_c_put) bW_1
theorem goW_X1get : GoodIn bW (wsV RL 76 RX1 yX1_get wsX1_get) := goV2 gdW mW_l_X1get mW_s_X1get mW_v_X1get (bW_1 _ mX1_init) (bW_1 _ mX1_c_get) bW_1
theorem goW_X1wouldMove : GoodIn bW (wsV RL 79 RX1 yX1_wouldMove wsX1_wouldMove) := goV2 gdW mW_l_X1wouldMove mW_s_X1wouldMove mW_v_X1wouldMove (bW_1 _ mX1_init) (bW_1 _ mX1_c_wouldMove) bW_1
theorem goW_X1begin : GoodIn bW (wsV RL 83 RX1 yX1_begin wsX1_begin) := goV2 gdW mW_l_X1begin mW_s_X1begin mW_v_X1begin (bW_1 _ mX1_init) (bW_1 _ mX1_c_begin) bW_1
theorem goW_X1stage : GoodIn bW (wsV RL 86 RX1 yX1_stage wsX1_stage) := goV2 gdW mW_l_X1stage mW_s_X1stage mW_v_X1stage (bW_1 _ mX1_init) (bW_1 _ mX1_c_stage) bW_1
theorem goW_X1abandon : GoodIn bW (wsV RL 93 RX1 yX1_abandon wsX1_abandon) := goV2 gdW mW_l_X1abandon mW_s_X1abandon mW_v_X1abandon (bW_1 _ mX1_init) (bW_1 _ mX1_c_abandon) bW_1
theorem goW_X1commit : GoodIn bW (wsV RL 90 RX1 yX1_commit wsX1_commit) := goV2 gdW mW_l_X1commit mW_s_X1commit mW_v_X1commit (bW_1 _ mX1_init) (bW_1 _ mX1_c_commit) bW_1
theorem goW_X1failAfter : GoodIn bW (wsV RL 104 RX1 yX1_failAfter wsX1_failAfter) := goV2 gdW mW_l_X1failAfter mW_s_X1failAfter mW_v_X1failAfter (bW_1 _ mX1_init) (bW_1 _ mX1_c_failAfter) bW_1
theorem goW_X1isOn : GoodIn bW (wsV RL 109 RX1 yX1_isOn wsX1_isOn) := goV2 gdW mW_l_X1isOn mW_s_X1isOn mW_v_X1isOn (bW_1 _ mX1_init) (bW_1 _ mX1_c_isOn) bW_1
theorem goW_X1mount : GoodIn bW (wsV RL 112 RX1 yX1_mount wsX1_mount) := goV2 gdW mW_l_X1mount mW_s_X1mount mW_v_X1mount (bW_1 _ mX1_init) (bW_1 _ mX1_c_mount) bW_1
theorem goW_X1left : GoodIn bW (wsV RL 96 RX1 yX1_left wsX1_left) := goV2 gdW mW_l_X1left mW_s_X1left mW_v_X1left (bW_1 _ mX1_init) (bW_1 _ mX1_c_left) bW_1
theorem goW_X1cell : GoodIn bW (wsV RL 100 RX1 yX1_cell wsX1_cell) := goV2 gdW mW_l_X1cell mW_s_X1cell mW_v_X1cell (bW_1 _ mX1_init) (bW_1 _ mX1_c_cell) bW_1
theorem goW_X1words : GoodIn bW (wsV RL 115 RX1 yX1_words wsX1_words) := goV2 gdW mW_l_X1words mW_s_X1words mW_v_X1words (bW_1 _ mX1_init) (bW_1 _ mX1_c_words) bW_1
theorem goW_X1history : GoodIn bW (wsV RL 118 RX1 yX1_history wsX1_history) := goV2 gdW mW_l_X1history mW_s_X1history mW_v_X1history (bW_1 _ mX1_init) (bW_1 _ mX1_c_history) bW_1
set_option maxRecDepth 100000 in
theorem bW_t1 : ∀ w ∈ litW, w ∈ lw_tbl := by decide +kernel
set_option maxRecDepth 100000 in
theorem bW_t2 : ∀ w ∈ litL, w ∈ lw_tbl := by decide +kernel
set_option maxRecDepth 100000 in
theorem bW_t3 : ∀ w ∈ litX0, w ∈ lw_tbl := fun w h => (goodIn_p litX0 [59, 238, 56, 101, 110, 113, 116, 119, 202, 206, 209, 213, 216, 219, 223, 227, 231, 235, 248, 251, 254, 261, 268, 275, 279, 286, 290, 294, 298, 302, 305, 310, 314, 317, 320, 323, 326, 334, 341, 345, 349, 357, 379, 386, 390, 397, 401, 408, 412] (by decide +kernel) (by decide +kernel) w h).1
set_option maxRecDepth 100000 in
theorem bW_t4 : ∀ w ∈ litX1, w ∈ lw_tbl := fun w h => (goodIn_p litX1 [59, 417, 460, 464, 467, 470, 475, 479, 483, 487, 491, 495, 498, 501, 504, 508, 512, 516, 520, 524, 528, 532, 536, 540, 544, 548, 552, 556, 560, 564, 568, 572, 576, 580, 584, 591, 596, 600, 604, 608, 614, 617, 621, 625, 629] (by decide +kernel) (by decide +kernel) w h).1
set_option maxRecDepth 100000 in
theorem bW_t5 : ∀ w ∈ wsX00, w ∈ lw_tbl := by decide +kernel
set_option maxRecDepth 100000 in
theorem bW_t6 : ∀ w ∈ wsX10, w ∈ lw_tbl := by decide +kernel
set_option maxRecDepth 100000 in
theorem bW_t7 : ∀ w ∈ xX0_IAE ++ xX0_ISE ++ xX0_IOB, w ∈ lw_tbl := by decide +kernel
theorem bW_tbl : ∀ w ∈ bW, w ∈ lw_tbl := by
  intro w h
  rcases List.mem_append.mp h with h | h
  · exact bW_t1 w h
  · rcases List.mem_append.mp h with h | h
    · rcases List.mem_append.mp h with h | h
      · exact bW_t2 w h
      · rcases List.mem_append.mp h with h | h
        · exact bW_t3 w h
        · rcases List.mem_append.mp h with h | h
          · exact bW_t5 w h
          · exact bW_t7 w h
    · rcases List.mem_append.mp h with h | h
      · exact bW_t4 w h
      · exact bW_t6 w h
