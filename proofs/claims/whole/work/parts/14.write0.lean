/-! what the class's writers do to its state -/
def f_add (r x : Int32) : Int32 := x &&& (r ^^^ (-1))
def f_dec (u : Int32) : Int32 := if u ≤ 0 then u else u - 1
def f_ok (σ : OS) (a : Int32) : Bool := decide (a = 0 ∨ ¬ oUn σ = 0)
def f_wr1 (σ : OS) (i : Nat) (x : Int32) : OS :=
  if f_add (oW σ i) x = 0 then σ
  else if oUn σ = 0 then mkO (oW σ) (oT σ) (oL σ) (oSet σ) (oWr σ) 0 (oUn σ) (oK σ) (oV σ) (oP σ) (oBo σ) (oBs σ)
  else mkO (upd (oW σ) i (oW σ i ||| f_add (oW σ i) x)) (oT σ) (oL σ) (oSet σ + f_bc (f_add (oW σ i) x)) (oWr σ + 1) (oOn σ) (f_dec (oUn σ)) (oK σ) (oV σ) (oP σ) (oBo σ) (oBs σ)
theorem f_wr1_bs (σ : OS) (i : Nat) (x : Int32) : oBs (f_wr1 σ i x) = oBs σ := by
  unfold f_wr1
  split
  · rfl
  · split <;> rfl
theorem f_wr1_p (σ : OS) (i : Nat) (x : Int32) : oP (f_wr1 σ i x) = oP σ := by
  unfold f_wr1
  split
  · rfl
  · split <;> rfl
def f_wr2 (σ : OS) (i : Nat) (x : Int32) : OS :=
  if f_add (oT σ i) x = 0 then σ
  else if oUn σ = 0 then mkO (oW σ) (oT σ) (oL σ) (oSet σ) (oWr σ) 0 (oUn σ) (oK σ) (oV σ) (oP σ) (oBo σ) (oBs σ)
  else mkO (oW σ) (upd (oT σ) i (oT σ i ||| f_add (oT σ i) x)) (oL σ) (oSet σ + f_bc (f_add (oT σ i) x)) (oWr σ + 1) (oOn σ) (f_dec (oUn σ)) (oK σ) (oV σ) (oP σ) (oBo σ) (oBs σ)
theorem f_wr2_bs (σ : OS) (i : Nat) (x : Int32) : oBs (f_wr2 σ i x) = oBs σ := by
  unfold f_wr2
  split
  · rfl
  · split <;> rfl
theorem f_wr2_p (σ : OS) (i : Nat) (x : Int32) : oP (f_wr2 σ i x) = oP σ := by
  unfold f_wr2
  split
  · rfl
  · split <;> rfl
def f_wr3 (σ : OS) (i : Nat) (x : Int32) : OS :=
  if f_add (oL σ i) x = 0 then σ
  else if oUn σ = 0 then mkO (oW σ) (oT σ) (oL σ) (oSet σ) (oWr σ) 0 (oUn σ) (oK σ) (oV σ) (oP σ) (oBo σ) (oBs σ)
  else mkO (oW σ) (oT σ) (upd (oL σ) i (oL σ i ||| f_add (oL σ i) x)) (oSet σ + f_bc (f_add (oL σ i) x)) (oWr σ + 1) (oOn σ) (f_dec (oUn σ)) (oK σ) (oV σ) (oP σ) (oBo σ) (oBs σ)
theorem f_wr3_bs (σ : OS) (i : Nat) (x : Int32) : oBs (f_wr3 σ i x) = oBs σ := by
  unfold f_wr3
  split
  · rfl
  · split <;> rfl
theorem f_wr3_p (σ : OS) (i : Nat) (x : Int32) : oP (f_wr3 σ i x) = oP σ := by
  unfold f_wr3
  split
  · rfl
  · split <;> rfl
def f_put (σ : OS) (w : Nat) (key v : Int32) : Bool × OS :=
  if f_ok σ (f_add (oW σ w) (f_pw (oW σ w) v)) = true then (f_ok (f_wr1 σ w (f_pw (oW σ w) v)) (f_add (oT (f_wr1 σ w (f_pw (oW σ w) v)) w) (key + 128)), f_wr2 (f_wr1 σ w (f_pw (oW σ w) v)) w (key + 128))
  else (false, f_wr1 σ w (f_pw (oW σ w) v))
theorem f_put_bs (σ : OS) (w : Nat) (key v : Int32) : oBs (f_put σ w key v).2 = oBs σ := by
  unfold f_put
  split
  · rw [f_wr2_bs, f_wr1_bs]
  · rw [f_wr1_bs]
def f_close (σ : OS) : OS := mkO (oW σ) (oT σ) (oL σ) (oSet σ) (oWr σ) (oOn σ) (oUn σ) (oK σ) (oV σ) (oP σ) 0 0
def f_lwN (x : Int32) : Nat := (f_lw x).toNatClampNeg
def f_carL (b : Nat) : Nat → Nat → OS → Bool × OS
  | 0, _, σ => (f_ok σ (f_add (oL σ (b * 9 + 8)) 3), f_wr3 σ (b * 9 + 8) 3)
  | n + 1, i, σ => if f_names (oL σ (b * 9 + i)) = true then
      (if (f_put σ (f_lwN (oL σ (b * 9 + i))) (f_lk (oL σ (b * 9 + i))) (f_lv (oL σ (b * 9 + i)))).1 = true then f_carL b n (i + 1) (f_put σ (f_lwN (oL σ (b * 9 + i))) (f_lk (oL σ (b * 9 + i))) (f_lv (oL σ (b * 9 + i)))).2
       else (false, (f_put σ (f_lwN (oL σ (b * 9 + i))) (f_lk (oL σ (b * 9 + i))) (f_lv (oL σ (b * 9 + i)))).2))
    else f_carL b n (i + 1) σ
def f_car (σ : OS) (b : Nat) : Bool × OS := f_carL b 8 0 σ
def f_noteL (b : Nat) : Nat → Nat → OS → Bool × OS
  | 0, _, σ => (f_ok σ (f_add (oL σ (b * 9 + 8)) 1), f_wr3 σ (b * 9 + 8) 1)
  | n + 1, i, σ => if f_ok σ (f_add (oL σ (b * 9 + i)) (oP σ i)) = true then f_noteL b n (i + 1) (f_wr3 σ (b * 9 + i) (oP σ i)) else (false, f_wr3 σ (b * 9 + i) (oP σ i))
def f_note (σ : OS) (b nb : Nat) : Bool × OS := f_noteL b nb 0 σ
def f_setP (σ : OS) (i : Nat) (x : Int32) : OS := mkO (oW σ) (oT σ) (oL σ) (oSet σ) (oWr σ) (oOn σ) (oUn σ) (oK σ) (oV σ) (upd (oP σ) i x) (oBo σ) (oBs σ)
def f_tk (σ : OS) (i fr : Nat) : Int32 := f_takes (oW σ) (oT σ) (oK σ i) (oV σ i) fr
def f_planL : Nat → Nat → Nat → OS → Bool × OS
  | 0, _, _, σ => (true, σ)
  | n + 1, i, fr, σ => if f_tk σ i fr = -1 then (false, σ) else
      f_planL n (i + 1) (if f_fresh (oW σ) (oT σ) (f_tk σ i fr).toNatClampNeg = true then (f_tk σ i fr).toNatClampNeg + 1 else fr) (f_setP σ i (f_line (oK σ i) (oV σ i) (f_tk σ i fr)))
def f_plan (σ : OS) (nb : Nat) : Bool × OS := f_planL nb 0 0 σ
theorem f_takes_in (w t : Nat → Int32) (key v : Int32) (fr : Nat) (hfr : fr ≤ 160) : f_takes w t key v fr = -1 ∨ ∃ k, k < 160 ∧ f_takes w t key v fr = nI k := by
  unfold f_takes
  split
  · rcases f_pres_in t key 160 (Nat.le_refl _) with h | ⟨k, h1, h2, -⟩
    · exact Or.inl h
    · exact Or.inr ⟨k, h1, h2⟩
  · rcases f_first_in (f_fresh w t) (160 - fr) fr with h | ⟨k, h1, h2, h3, -⟩
    · exact Or.inl h
    · exact Or.inr ⟨k, by omega, h3⟩
/-- a line's word, where the line names one -/
theorem f_names_in {x : Int32} (h : f_names x = true) : f_lwN x < 160 ∧ f_lw x = nI (f_lwN x) := by
  have h2 : ¬ 160 ≤ f_lw x := (of_decide_eq_true h).2
  have h0 : ¬ f_lw x < 0 := by
    obtain ⟨j, hj, e⟩ := pk_andE (uS x 22) (m := 255) 8 (by decide)
    show ¬ (uS x 22 &&& 255) < 0
    rw [e]
    exact nI_pos (by omega)
  obtain ⟨j, hj, e, -⟩ := pk_mu (L := 160) h0 h2 (by decide)
  have e2 : f_lwN x = j := by
    unfold f_lwN
    rw [e]
    exact nI_clamp (by omega)
  rw [e2]
  exact ⟨hj, e⟩
abbrev oX (A : Nat → Nat) (cI : ClassId) (σ : OS) (sz : Nat) : Nat → Prop := va_A (wO A cI σ) sz
abbrev oPre (D : va_G) (A : Nat → Nat) (cI : ClassId) (σ : OS) (sz : Nat) : State → Prop := fun U => U.heap.size = sz ∧ va_P D vwCl (wO A cI σ) U.heap ∧ va_K D vwCl [(cI, .int)] U ∧ va_D (fun _ => True) (wO A cI σ)
abbrev oB (D : va_G) (A : Nat → Nat) (cI : ClassId) (X : Nat → Prop) (u : OS) (t : State) : Prop := va_P D vwCl (wO A cI u) t.heap ∧ va_K D vwCl [(cI, .int)] t ∧ va_D X (wO A cI u)

