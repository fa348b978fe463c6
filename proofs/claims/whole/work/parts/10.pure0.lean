/-! the class's words: what its methods answer, as pure numbers -/
def rk (k : Nat) : Room := { frames := k, cells := 0, slots := 0, locals := 30 * k }
def bI (b : Bool) : Int32 := if b then 1 else 0
def uS (x y : Int32) : Int32 := (x.toUInt32 >>> (y.toUInt32 &&& Int32.toUInt32 31)).toInt32
theorem bI_nar (b : Bool) : narrow .boolean (.int (bI b)) = .int (bI b) := by cases b <;> rfl
theorem bI_0 {b : Bool} : bI b = 0 ↔ b = false := by cases b <;> decide
theorem bI_n0 {b : Bool} : ¬ bI b = 0 ↔ b = true := by cases b <;> decide
def f_below (n b : Int32) : Bool := decide (¬ n < 0 ∧ ¬ b ≤ n)
def f_bc (x : Int32) : Int32 :=
  let a := x - (uS x 1 &&& 1431655765)
  let b := (a &&& 858993459) + (uS a 2 &&& 858993459)
  let d := (b + uS b 4) &&& 252645135
  let g := d + uS d 8
  let h := g + uS g 16
  h &&& 63
def f_mg (c : Int32) : Int32 := if (if f_bc c ≤ 1 then c else c ^^^ 7) = 4 then 3 else (if f_bc c ≤ 1 then c else c ^^^ 7)
def f_grp (c : Int32) (i : Nat) : Int32 := uS c (3 * nI i) &&& 7
def f_two (v : Int32) (i : Nat) : Int32 := uS v (2 * nI i) &&& 3
def f_mwL (c : Int32) : Nat → Nat → Int32 → Int32
  | 0, _, a => a
  | n + 1, i, a => f_mwL c n (i + 1) (a ||| (f_mg (f_grp c i) <<< ((2 * nI i) &&& 31)))
def f_mw (c : Int32) : Int32 := f_mwL c 8 0 0
def f_sm (w : Int32) : Int32 := if w = 0 then 0 else 1 <<< ((w - 1) &&& 31)
def f_pg (c w : Int32) : Int32 := if (c &&& (f_sm w ^^^ (-1))) = 0 then f_sm w else if (c &&& ((f_sm w ^^^ 7) ^^^ (-1))) = 0 then f_sm w ^^^ 7 else -1
def f_pwL (c v : Int32) : Nat → Nat → Int32 → Int32
  | 0, _, a => a
  | n + 1, i, a => if f_pg (f_grp c i) (f_two v i) = -1 then -1 else f_pwL c v n (i + 1) (a ||| (f_pg (f_grp c i) (f_two v i) <<< ((3 * nI i) &&& 31)))
def f_pw (c v : Int32) : Int32 := f_pwL c v 8 0 0
def f_line (k v w : Int32) : Int32 := ((v ||| (k <<< ((16 : Int32) &&& 31))) ||| (w <<< ((22 : Int32) &&& 31))) ||| 1073741824
def f_lw (x : Int32) : Int32 := uS x 22 &&& 255
def f_lk (x : Int32) : Int32 := uS x 16 &&& 63
def f_lv (x : Int32) : Int32 := x &&& 65535
def f_names (x : Int32) : Bool := decide (¬ (x &&& 1073741824) = 0 ∧ ¬ 160 ≤ f_lw x)
theorem goJ_bc : GoodIn bX0 ([.methodLink RX0 123 yJ6_bitCount_0f7a4, .static yJ6_bitCount_0f7a4, .initialized RJ6] ++ wsJ6_bc) := by
  refine goI gdX0 fun w hw => ?_
  simp only [wsJ6_bc, List.cons_append, List.nil_append, List.mem_cons, List.not_mem_nil, or_false] at hw
  rcases hw with rfl | rfl | rfl | rfl | rfl | rfl | rfl
  · exact mX0_l_bc
  · exact mX0_s_bc
  · exact mX0_i_bc
  · exact mX0_c_bc
  · exact mX0_kj1
  · exact mX0_kj2
  · exact mX0_kj3
/-- a static method of another class -/
theorem cwSJ {s : State} {R : Room} {args : Array Value} {Ts ws ws' : List Cond} {own : String} {index : Nat} {y : MethodName} {bytes : ByteArray} {maxL : Nat} {ret : Option FieldType} {rm : Room} {mc ms : Nat} (n : Nat) (ht : ∀ w ∈ Ts, w.before args s = true) (hT : GoodIn Ts ([.methodLink own index y, .static y, .initialized y.cls] ++ ws)) (hw : ws = Cond.code y bytes maxL ret :: ws') (hrc : rm.cells = mc) (hrs : rm.slots = ms)
    (hd : True ∧ y.cls ≠ "java/lang/invoke/MethodHandle" ∧ y.cls ≠ "java/lang/invoke/VarHandle" ∧ (parseMethodDescriptor y.desc).map (fun d => d.parameters.length) = some n) (hR : rm.frames + 1 ≤ R.frames ∧ 8 + (maxL + 11) + rm.locals ≤ R.locals) :
    CallB R s args own index y bytes maxL ret ws rm mc ms n ∧ (Cond.static y).before args s = true := by
  obtain ⟨-, hd⟩ := hd
  have ok : ∀ w ∈ ([.methodLink own index y, .static y, .initialized y.cls] ++ ws), w.before args s = true := fun w h => ht w (hT w h).1
  exact ⟨callB_of n ht (fun w h => hT w (List.mem_append_right _ h)) hw hrc hrs (ok _ (by simp)) (ok _ (by simp)) hd hR, ok _ (by simp)⟩

