/-! THE CLAIM OUT OF ONE WALK OF THE LAW'S BODY. Your part is whole_start (and what it stands on); all else here is the same for every law, but numbers. -/
def R_law : String := "OnceStoreLaw"
def lw_P (b : Addr) (xs : List Int32) (args : Array Value) (s : State) : Prop := args = #[.ref b] ∧ s.IntsAt b xs ∧ xs.length ≤ 2048 ∧ (Jvm.Cond.and given_1 narrow_1).before args s = true
def lw_Q (_ : Array Value) (s : State) (o : Outcome) (t : State) : Prop := o = .returned (some (.int 1)) ∧ Framed s o t [] 1058 25699
def lw_Z (below : List Frame) (a : Array Value) (s : State) : State → Prop := fun t => ∃ o, t.status = .running ∧ Ended t below o ∧ lw_Q a s o t
/-- the law's own end, with 1 on the stack, nothing written that was there before, its room as the claim has it -/
theorem lw_ret {p : Program} {l : Launch} {e : Env} {s : State} {m : MethodId} {below : List Frame} {meth : Method} {c : Code} {b : Nat} (hx : p.tables.exec = Jvm.exec) (hb : c.code = code) (hr : meth.sig.returnType = ret) (hlocks : meth.locks = false) {pc : Nat} {H : Heap} {ls : Array Slot} (hdg : decode code pc = .ok (.ireturn, 1)) : W p l e room_1 s m #[Value.ref b] below meth c H [] 1058 25699 (lw_Z below #[Value.ref b] s) (F0 m pc ls [.int 1]) := by
  intro T hT X
  obtain ⟨fs, hret, hrun, hended, hW, hframe⟩ := X.leave (v := some (.int 1)) (hlocks := hlocks) (fun h => by rw [hr] at h; cases h)
  have hmeth' : T.vm.method? m = some meth := X.method'
  refine ⟨T.setFrames fs, ?_, .returned (some (.int 1)), hrun, hended, rfl, ⟨_, rfl⟩, hW, hframe⟩
  jvm_step X.here [X.here.top, hx, hb, hdg, hmeth', hr, ret, narrow_b1]
  (try refine ⟨rfl, ?_⟩); (try refine ⟨rfl, ?_⟩)
  first | (intro acts; rw [hret _ acts rfl rfl rfl]) | rw [hret _ _ rfl rfl rfl]
  exact Steps.refl _
/-- what holds at the law's entry: the machine, the code, the tables' words (any of lw_tbl by 'hts w (by decide +kernel)'), the script of L ints xs at the cell b, what the Statement gives of the start (any of its parts by flat_of_before) -/
def lw_At (p : Program) (s : State) (m : MethodId) (meth : Method) (c : Code) (b L : Nat) (xs : Nat → Int32) : Prop :=
  p.tables.exec = Jvm.exec ∧ c.code = code ∧ meth.sig.returnType = ret ∧ c.maxLocals = 7 ∧ s.vm.findClass R_law = some m.cls ∧ (∀ w ∈ lw_tbl, w.before #[Value.ref b] s = true) ∧ va_X b L xs s s.heap ∧ b < s.heap.size ∧ meth.locks = false ∧ (Jvm.Cond.and given_1 narrow_1).before #[Value.ref b] s = true
/-- one call: what the reference says of a throw; the states behind it, alike again -/
def simC (Rel : OS → NS → Prop) (σ : OS) (k : Nat) (σ2 : OS) (μ2 : NS) : Prop := nTh μ2 = nI k ∧ k ≤ 2 ∧ Rel (if k = 0 then σ2 else σ) μ2
/-- what the law's walk asks of a relation between the class's state and the reference's -/
def simOK (Rel : OS → NS → Prop) : Prop :=
  Rel σ0 μ0 ∧ ∀ σ μ, Rel σ μ →
    (∀ key v, simC Rel σ (k_put σ key v) (s_put σ key v) (hs_put μ key v) ∧ (k_put σ key v = 0 → hr_put μ key v = r_put σ key v)) ∧
    (∀ key, simC Rel σ (k_get σ key) σ (h_th μ (hk_get μ key)) ∧ (k_get σ key = 0 → hr_get μ key = r_get σ key)) ∧
    (∀ key v, simC Rel σ (k_wm σ key v) σ (h_th μ (hk_wm μ key v)) ∧ (k_wm σ key v = 0 → hr_wm μ key v = r_wm σ key v)) ∧
    simC Rel σ (k_begin σ) (s_begin σ) (hs_begin μ) ∧
    (∃ nb nm : Nat, nb ≤ 8 ∧ nm ≤ 8 ∧ oBs σ = nI nb ∧ nSt μ = nI nm ∧
      (∀ key v, simC Rel σ (k_stage σ nb key v) (s_stage σ nb key v) (hs_stage μ nm key v) ∧ (k_stage σ nb key v = 0 → hr_stage μ nm key v = nI (nb + 1))) ∧
      (simC Rel σ (k_open σ) (s_commit σ nb) (hs_commit μ nm) ∧ (k_open σ = 0 → hr_commit μ nm = r_commit σ nb))) ∧
    (simC Rel σ (k_open σ) (f_close σ) (hs_ab μ) ∧ (k_open σ = 0 → hr_ab μ = oBs σ)) ∧
    (∀ z, simC Rel σ (k_left z) σ (h_th μ (hk_left z)) ∧ (k_left z = 0 → hr_left μ z = r_left σ z)) ∧
    (∀ a b d, simC Rel σ (k_cell a b d) σ (h_th μ (hk_cell a b d)) ∧ (k_cell a b d = 0 → hr_cell μ a b d = r_cell σ a b d)) ∧
    (∀ z, simC Rel σ (k_fail σ z) (s_fail σ z) (hs_fail μ z)) ∧
    ((∃ bb : Bool, oOn σ = bI bb) ∧ oOn σ = bI (decide (nOf μ = 0)) ∧ Rel σ (h_th μ 0)) ∧
    ((∀ j, j < 40 → g_named (nLc μ) j) ∧ simC Rel σ (k_mount σ) (s_mount σ) (hs_mount μ) ∧ (k_mount σ = 0 → hr_mount μ = r_mount σ)) ∧
    (∀ key, simC Rel σ (k_words key) σ (h_th μ (hk_words key)) ∧ (k_words key = 0 → hr_words μ key = f_cnt (fun w => decide (oT σ w = key + 128)) 160 0 0)) ∧
    (∀ key j, simC Rel σ (k_hist σ key j) σ (h_th μ (g_his μ key j).2) ∧ (k_hist σ key j = 0 → (g_his μ key j).1 = r_hist σ key j))
theorem hU_1 (k : Nat) (σ σ2 : OS) (g : Nat → Int64) (r : Int64) : (hU k σ σ2 g r).1 = if k = 0 then σ2 else σ := by unfold hU; split <;> rfl
theorem hV_1 (k : Nat) (σ σ2 : OS) (g : Nat → Int64) : (hV k σ σ2 g).1 = if k = 0 then σ2 else σ := by unfold hV; split <;> rfl
theorem hU_2 {k : Nat} (σ σ2 : OS) (g : Nat → Int64) (r : Int64) (h : k = 0) : (hU k σ σ2 g r).2 0 = r := by unfold hU; rw [if_pos h]; rfl
theorem nI_k0 {k : Nat} (hk : k ≤ 2) (h : nI k = 0) : k = 0 := by
  rcases Nat.eq_zero_or_pos k with h1 | h1
  · exact h1
  · exact absurd h (nI_ne0 h1 (by omega))
theorem law_cmp {L j : Nat} (hL : L ≤ 2048) (hj : j ≤ 4096) : nI L - 4 < nI j ↔ L < j + 4 := by
  have e1 : (nI L - nI 4).toInt = (L : Int) - 4 := pk_sub_toInt (by omega) (by decide)
  have e2 : (nI j).toInt = (j : Int) := nI_toInt (by omega)
  rw [Int32.lt_iff_toInt_lt, show (nI L - 4).toInt = (L : Int) - 4 from e1, e2]
  omega
