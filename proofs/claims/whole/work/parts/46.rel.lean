/-! the relation, and the calls that write nothing -/
def RB (σ : OS) (μ : NS) : Prop :=
  (oBo σ = 0 ∧ nOp μ = 0 ∧ oBs σ = 0 ∧ ∃ nm, nm ≤ 8 ∧ nSt μ = nI nm) ∨
  (oBo σ = 1 ∧ nOp μ = 1 ∧ ∃ nb, nb ≤ 8 ∧ oBs σ = nI nb ∧ nSt μ = nI nb ∧ ∃ K V : Nat → Nat, (∀ j, j < nb → K j < 64 ∧ V j < 65536 ∧ oK σ j = nI (K j) ∧ oV σ j = nI (V j) ∧ nKs μ j = nI (K j) ∧ nVs μ j = nI (V j)) ∧ ∀ j j', j < j' → j' < nb → K j ≠ K j')
def RN (σ : OS) (μ : NS) : Prop := (nOf μ = 0 → ∀ b, b < 40 → ¬ oL σ (b * 9 + 8) = 1) ∧ ∀ b, b < 40 → oL σ (b * 9 + 8) = 1 → JN σ b ∧ ∀ b', b' < 40 → b' ≠ b → ¬ oL σ (b' * 9 + 8) = 1
def Rel (σ : OS) (μ : NS) : Prop := RC σ μ ∧ RB σ μ ∧ RN σ μ
theorem RC.same {σ σ' : OS} {μ μ' : NS} (h : RC σ μ) (e1 : oW σ' = oW σ) (e2 : oT σ' = oT σ) (e3 : oL σ' = oL σ) (e4 : oSet σ' = oSet σ) (e5 : oWr σ' = oWr σ) (d1 : nWc μ' = nWc μ) (d2 : nTc μ' = nTc μ) (d3 : nLc μ' = nLc μ) (d4 : nWr μ' = nWr μ) (hu : nUn μ' = oUn σ') (ho : oOn σ' = bI (decide (nOf μ' = 0))) : RC σ' μ' := by
  have hs := h.2.2.2.2.2.2.2
  unfold RC
  unfold setN at hs ⊢
  rw [e1, e2, e3, e4, e5, d1, d2, d3, d4]
  exact ⟨h.1, h.2.1, h.2.2.1, h.2.2.2.1, h.2.2.2.2.1, hu, ho, hs⟩
theorem RB.same {σ σ' : OS} {μ μ' : NS} (h : RB σ μ) (a1 : oK σ' = oK σ) (a2 : oV σ' = oV σ) (a3 : oBo σ' = oBo σ) (a4 : oBs σ' = oBs σ) (b1 : nKs μ' = nKs μ) (b2 : nVs μ' = nVs μ) (b3 : nSt μ' = nSt μ) (b4 : nOp μ' = nOp μ) : RB σ' μ' := by
  unfold RB at h ⊢
  rw [a1, a2, a3, a4, b1, b2, b3, b4]
  exact h
theorem RN.none {σ : OS} {μ : NS} (h : ∀ b, b < 40 → ¬ oL σ (b * 9 + 8) = 1) : RN σ μ := ⟨fun _ => h, fun b hb z => absurd z (h b hb)⟩
theorem RN.same {σ σ' : OS} {μ μ' : NS} (h : RN σ μ) (e1 : oW σ' = oW σ) (e2 : oT σ' = oT σ) (e3 : oL σ' = oL σ) (e4 : nOf μ' = nOf μ) : RN σ' μ' := by
  refine ⟨fun z => ?_, fun b hb z => ?_⟩
  · rw [e3]
    exact h.1 (e4.symm.trans z)
  · rw [e3] at z ⊢
    obtain ⟨a, c⟩ := h.2 b hb z
    exact ⟨a.same e1 e2 (fun i _ => congrFun e3 _), c⟩
/-! codes -/
theorem code2 {A A' B B' : Prop} [Decidable A] [Decidable A'] [Decidable B] [Decidable B'] (hA : A ↔ A') (hB : B ↔ B') : (if A' then (1 : Int32) else if B' then 2 else 0) = nI (if A then 1 else if B then 2 else 0) ∧ (if A then 1 else if B then 2 else 0 : Nat) ≤ 2 := by
  by_cases a : A
  · rw [if_pos a, if_pos (hA.mp a)]
    exact ⟨rfl, by decide⟩
  · rw [if_neg a, if_neg (fun z => a (hA.mpr z))]
    by_cases b : B
    · rw [if_pos b, if_pos (hB.mp b)]
      exact ⟨rfl, by decide⟩
    · rw [if_neg b, if_neg (fun z => b (hB.mpr z))]
      exact ⟨rfl, by decide⟩
theorem code1 {A A' : Prop} [Decidable A] [Decidable A'] (hA : A ↔ A') : (if A' then (1 : Int32) else 0) = nI (if A then 1 else 0) ∧ (if A then 1 else 0 : Nat) ≤ 2 := by
  by_cases a : A
  · rw [if_pos a, if_pos (hA.mp a)]
    exact ⟨rfl, by decide⟩
  · rw [if_neg a, if_neg (fun z => a (hA.mpr z))]
    exact ⟨rfl, by decide⟩
theorem code2_0 {A B : Prop} [Decidable A] [Decidable B] (h : (if A then 1 else if B then 2 else 0 : Nat) = 0) : ¬ A ∧ ¬ B := by
  by_cases a : A
  · rw [if_pos a] at h
    exact absurd h (by decide)
  · rw [if_neg a] at h
    by_cases b : B
    · rw [if_pos b] at h
      exact absurd h (by decide)
    · exact ⟨a, b⟩
theorem code1_0 {A : Prop} [Decidable A] (h : (if A then 1 else 0 : Nat) = 0) : ¬ A := by
  intro a
  rw [if_pos a] at h
  exact absurd h (by decide)
theorem tr_of {b : Bool} (h : ¬ b = false) : b = true := by
  cases b
  · exact absurd rfl h
  · rfl
theorem k_z {x : Int32} {k : Nat} (c : x = nI k) (hk : k = 0) : x = 0 := (c.trans (congrArg nI hk)).trans nI_0
theorem k_nz {x : Int32} {k : Nat} (c : x = nI k ∧ k ≤ 2) (hk : ¬ k = 0) : ¬ x = 0 := fun z => hk (nI_k0 c.2 (c.1.symm.trans z))
theorem args_n {key v : Int32} (h : k_args key v = true) : ∃ k n, k < 64 ∧ n < 65536 ∧ key = nI k ∧ v = nI n := by
  unfold k_args at h
  rw [Bool.and_eq_true] at h
  obtain ⟨k, hk, e1⟩ := below_n (N := 64) h.1 (by decide)
  obtain ⟨n, hn, e2⟩ := below_n (N := 65536) h.2 (by decide)
  exact ⟨k, n, hk, hn, e1, e2⟩
theorem ko_op {σ : OS} {μ : NS} (h : Rel σ μ) : oBo σ = 0 ↔ nOp μ = 0 := by
  rcases h.2.1 with ⟨a, b, -⟩ | ⟨a, b, -⟩
  · exact ⟨fun _ => b, fun _ => a⟩
  · exact ⟨fun z => absurd (a.symm.trans z) (by decide), fun z => absurd (b.symm.trans z) (by decide)⟩
theorem sim_rd {σ : OS} {μ : NS} (h : Rel σ μ) {k : Nat} {x : Int32} (c : x = nI k ∧ k ≤ 2) : simC Rel σ k σ (h_th μ x) := by
  refine ⟨c.1, c.2, ?_⟩
  rw [ite_self]
  exact h
theorem sim_no {σ σ2 : OS} {μ μ2 : NS} (h : Rel σ μ) {k : Nat} {x : Int32} (c : x = nI k ∧ k ≤ 2) (h0 : ¬ k = 0) (e2 : μ2 = h_th μ x) : simC Rel σ k σ2 μ2 := by
  rw [e2]
  refine ⟨c.1, c.2, ?_⟩
  rw [if_neg h0]
  exact h
theorem sim_yes {σ σ2 : OS} {μ2 : NS} {k : Nat} (e : k = 0) (ht : nTh μ2 = 0) (h : Rel σ2 μ2) : simC Rel σ k σ2 μ2 := by
  refine ⟨?_, by omega, ?_⟩
  · rw [e]
    exact ht.trans nI_0.symm
  · rw [if_pos e]
    exact h
/-! the calls that read -/
theorem sim_get {σ : OS} {μ : NS} (h : Rel σ μ) (key : Int32) : simC Rel σ (k_get σ key) σ (h_th μ (hk_get μ key)) ∧ (k_get σ key = 0 → hr_get μ key = r_get σ key) := by
  have c : hk_get μ key = nI (k_get σ key) ∧ k_get σ key ≤ 2 := by
    unfold hk_get k_get
    exact code2 Iff.rfl (rc_on h.1)
  refine ⟨sim_rd h c, fun hk => ?_⟩
  have hk2 := k_z c.1 hk
  unfold hr_get r_get
  rw [if_neg (fun z : ¬ hk_get μ key = 0 => z hk2), rc_pres h.1]
  rcases f_pres_in (oT σ) key 160 (Nat.le_refl _) with e | ⟨t, ht, e, -⟩
  · rw [e, if_neg (by decide), if_pos rfl]
  · rw [e, if_pos (nI_pos' (by omega)), if_neg (takes_ne ht), nI_clamp (by omega)]
    exact rc_val h.1 t ht
theorem sim_wm {σ : OS} {μ : NS} (h : Rel σ μ) (key v : Int32) : simC Rel σ (k_wm σ key v) σ (h_th μ (hk_wm μ key v)) ∧ (k_wm σ key v = 0 → hr_wm μ key v = r_wm σ key v) := by
  have c : hk_wm μ key v = nI (k_wm σ key v) ∧ k_wm σ key v ≤ 2 := by
    unfold hk_wm k_wm
    exact code2 Iff.rfl (rc_on h.1)
  refine ⟨sim_rd h c, fun hk => ?_⟩
  have hk2 := k_z c.1 hk
  have z := hk
  unfold k_wm at z
  obtain ⟨k, n, hk64, hn, e1, e2⟩ := args_n (tr_of (code2_0 z).1)
  unfold hr_wm r_wm
  rw [decide_eq_true hk2, Bool.true_and, e2]
  exact rc_mov h.1 key (by omega)
theorem sim_left {σ : OS} {μ : NS} (h : Rel σ μ) (z : Int32) : simC Rel σ (k_left z) σ (h_th μ (hk_left z)) ∧ (k_left z = 0 → hr_left μ z = r_left σ z) := by
  have c : hk_left z = nI (k_left z) ∧ k_left z ≤ 2 := by
    unfold hk_left k_left
    exact code1 Iff.rfl
  refine ⟨sim_rd h c, fun hk => ?_⟩
  have y := hk
  unfold k_left at y
  have y := code1_0 y
  unfold hr_left r_left
  by_cases z0 : z = 0
  · rw [if_pos z0, if_pos z0]
    exact cnt_alike _ _ 160 0 0 (fun k _ h2 => (rc_fr h.1 k (by omega)).symm)
  · rw [if_neg z0, if_neg z0]
    by_cases z1 : z = 1
    · rw [if_pos z1, if_pos z1]
      exact cnt_alike _ _ 40 0 0 (fun k _ h2 => (rc_em h.1 k (by omega)).symm)
    · rw [if_neg z1, if_neg z1]
      by_cases z2 : z = 2
      · rw [if_pos z2, if_pos z2]
        exact rc_cells h.1
      · rw [if_neg z2, if_neg z2]
        have z3 : z = 3 := by
          have e0 : ¬ z.toInt = 0 := fun e => z0 (Int32.toInt_inj.mp (e.trans (by decide)))
          have e1 : ¬ z.toInt = 1 := fun e => z1 (Int32.toInt_inj.mp (e.trans (by decide)))
          have e2 : ¬ z.toInt = 2 := fun e => z2 (Int32.toInt_inj.mp (e.trans (by decide)))
          have e3 : z.toInt = 3 := by omega
          exact Int32.toInt_inj.mp (e3.trans (by decide))
        rw [if_pos z3]
        exact h.1.2.2.2.2.1
theorem bit_alike (x : Int32) {i : Nat} (hi : i < 32) {y : Int32} (h : y = bI ((uI x).testBit i)) : (if y = 0 then (0 : Int32) else 1) = uS x (nI i) &&& 1 := by
  rw [pk_andU _ 1 (by decide), uS_u x hi, h, Nat.testBit_eq_decide_div_mod_eq, Nat.pow_one]
  have h2 : uI x / 2 ^ i % 2 = 0 ∨ uI x / 2 ^ i % 2 = 1 := by omega
  rcases h2 with h2 | h2 <;> rw [h2] <;> decide
theorem sim_cell {σ : OS} {μ : NS} (h : Rel σ μ) (a b d : Int32) : simC Rel σ (k_cell a b d) σ (h_th μ (hk_cell a b d)) ∧ (k_cell a b d = 0 → hr_cell μ a b d = r_cell σ a b d) := by
  have c : hk_cell a b d = nI (k_cell a b d) ∧ k_cell a b d ≤ 2 := by
    refine ⟨rfl, ?_⟩
    unfold k_cell
    split
    · decide
    · split
      · decide
      · split <;> decide
  refine ⟨sim_rd h c, fun hk => ?_⟩
  unfold hr_cell r_cell
  rw [if_neg (fun z : ¬ k_cell a b d = 0 => z hk)]
  unfold k_cell at hk
  by_cases c0 : a = 0 ∧ f_below b 160 = true ∧ f_below d 24 = true
  · obtain ⟨w, hw, e1⟩ := below_n (N := 160) c0.2.1 (by decide)
    obtain ⟨i, hi, e2⟩ := below_n (N := 24) c0.2.2 (by decide)
    rw [if_pos c0.1, if_pos c0.1, e1, e2, nI_clamp (by omega), nI_clamp (by omega)]
    exact bit_alike _ (by omega) ((h.1.1 w hw).1 i hi)
  · rw [if_neg c0] at hk
    by_cases c1 : a = 1 ∧ f_below b 160 = true ∧ f_below d 8 = true
    · obtain ⟨w, hw, e1⟩ := below_n (N := 160) c1.2.1 (by decide)
      obtain ⟨i, hi, e2⟩ := below_n (N := 8) c1.2.2 (by decide)
      have n0 : ¬ a = 0 := fun z => absurd (c1.1.symm.trans z) (by decide)
      rw [if_neg n0, if_neg n0, if_pos c1.1, if_pos c1.1, e1, e2, nI_clamp (by omega), nI_clamp (by omega)]
      exact bit_alike _ (by omega) ((h.1.2.1 w hw).1 i hi)
    · rw [if_neg c1] at hk
      by_cases c2 : a = 2 ∧ f_below b 360 = true ∧ f_below d 32 = true
      · obtain ⟨w, hw, e1⟩ := below_n (N := 360) c2.2.1 (by decide)
        obtain ⟨i, hi, e2⟩ := below_n (N := 32) c2.2.2 (by decide)
        have n0 : ¬ a = 0 := fun z => absurd (c2.1.symm.trans z) (by decide)
        have n1 : ¬ a = 1 := fun z => absurd (c2.1.symm.trans z) (by decide)
        rw [if_neg n0, if_neg n0, if_neg n1, if_neg n1, e1, e2, nI_clamp (by omega), nI_clamp (by omega)]
        exact bit_alike _ (by omega) (h.1.2.2.1 w hw i hi)
      · rw [if_neg c2] at hk
        exact absurd hk (by decide)
theorem sim_words {σ : OS} {μ : NS} (h : Rel σ μ) (key : Int32) : simC Rel σ (k_words key) σ (h_th μ (hk_words key)) ∧ (k_words key = 0 → hr_words μ key = f_cnt (fun w => decide (oT σ w = key + 128)) 160 0 0) := by
  have c : hk_words key = nI (k_words key) ∧ k_words key ≤ 2 := by
    unfold hk_words k_words
    cases f_below key 64 <;> decide
  refine ⟨sim_rd h c, fun hk => ?_⟩
  unfold hr_words
  rw [if_pos (k_z c.1 hk)]
  exact cnt_alike _ _ 160 0 0 (fun k _ h2 => by
    show decide (oT σ k = key + 128) = decide (g_tag (nTc μ) k = key + 128)
    rw [rc_tag h.1 k (by omega)])
theorem hisL {σ : OS} {μ : NS} (h : RC σ μ) (key j : Int32) : ∀ n w b l, w + n ≤ 160 → b + l = j → g_hisL μ key n w l = (if f_num (oT σ) key j n w b = -1 then (0, 2) else (f_mw (oW σ (f_num (oT σ) key j n w b).toNatClampNeg), 0))
  | 0, w, b, l, _, _ => by
    rw [g_hisL, f_num, if_pos rfl]
  | n + 1, w, b, l, hw, e => by
    rw [g_hisL, f_num, rc_tag h w (by omega)]
    by_cases z : oT σ w = key + 128
    · rw [if_pos z, if_pos z]
      by_cases y : l = 0
      · have eb : b = j := by rw [← e, y, Int32.add_zero]
        rw [if_pos y, if_pos eb, if_neg (takes_ne (by omega)), nI_clamp (by omega), rc_val h w (by omega)]
      · have eb : ¬ b = j := fun x => y (Int32.add_eq_left.mp (e.trans x.symm))
        rw [if_neg y, if_neg eb]
        refine hisL h key j n (w + 1) (b + 1) (l + (-1)) (by omega) ?_
        rw [← e, Int32.add_assoc, ← Int32.add_assoc 1 l, Int32.add_comm 1 l, Int32.add_assoc l 1, show (1 : Int32) + (-1) = 0 by decide, Int32.add_zero]
    · rw [if_neg z, if_neg z]
      exact hisL h key j n (w + 1) b l (by omega) e
theorem num_neg (t : Nat → Int32) (key : Int32) {j : Int32} (hj : j < 0) : ∀ n w b, b + n < 2 ^ 31 → f_num t key j n w (nI b) = -1
  | 0, _, _, _ => rfl
  | n + 1, w, b, hb => by
    have e : ¬ nI b = j := fun z => nI_pos (show b < 2 ^ 31 by omega) (by rw [z]; exact hj)
    rw [f_num, if_neg e, nI_1, num_neg t key hj n (w + 1) (b + 1) (by omega), num_neg t key hj n (w + 1) b (by omega), ite_self]
theorem sim_hist {σ : OS} {μ : NS} (h : Rel σ μ) (key j : Int32) : simC Rel σ (k_hist σ key j) σ (h_th μ (g_his μ key j).2) ∧ (k_hist σ key j = 0 → (g_his μ key j).1 = r_hist σ key j) := by
  have main : (g_his μ key j).2 = nI (k_hist σ key j) ∧ k_hist σ key j ≤ 2 ∧ (k_hist σ key j = 0 → (g_his μ key j).1 = r_hist σ key j) := by
    unfold g_his k_hist r_hist
    cases hb : f_below key 64
    · rw [if_neg Bool.noConfusion, if_pos rfl]
      exact ⟨rfl, by decide, fun z => absurd z (by decide)⟩
    · rw [if_pos rfl, if_neg (show ¬ true = false from Bool.noConfusion)]
      by_cases hj : j < 0
      · have nn := num_neg (oT σ) key hj 160 0 0 (by decide)
        rw [nI_0] at nn
        rw [if_pos hj, if_pos nn]
        exact ⟨rfl, by decide, fun z => absurd z (by decide)⟩
      · rw [if_neg hj, hisL h.1 key j 160 0 0 j (by omega) (Int32.zero_add j)]
        by_cases z : f_num (oT σ) key j 160 0 0 = -1
        · rw [if_pos z, if_pos z]
          exact ⟨rfl, by decide, fun z => absurd z (by decide)⟩
        · rw [if_neg z, if_neg z]
          exact ⟨rfl, by decide, fun _ => rfl⟩
  exact ⟨sim_rd h ⟨main.1, main.2.1⟩, main.2.2⟩
/-! the calls that change no cell -/
theorem sim_begin {σ : OS} {μ : NS} (h : Rel σ μ) : simC Rel σ (k_begin σ) (s_begin σ) (hs_begin μ) := by
  have c : hk_begin μ = nI (k_begin σ) ∧ k_begin σ ≤ 2 := by
    unfold hk_begin k_begin
    exact code1 (or_congr (rc_on h.1) (not_congr (ko_op h)))
  by_cases hk : k_begin σ = 0
  · have z := hk
    unfold k_begin at z
    have ob : oBo σ = 0 := Classical.not_not.mp (fun y => code1_0 z (Or.inr y))
    have e : hs_begin μ = mkN 0 (nWc μ) (nTc μ) (nLc μ) (nWr μ) (nOf μ) (nUn μ) 1 0 (nKs μ) (nVs μ) (nTs μ) := by
      unfold hs_begin
      rw [if_pos (k_z c.1 hk)]
    rw [e]
    refine sim_yes hk rfl ⟨h.1.same rfl rfl rfl rfl rfl rfl rfl rfl rfl h.1.2.2.2.2.2.1 h.1.2.2.2.2.2.2.1, Or.inr ⟨rfl, rfl, 0, by omega, ?_, rfl, fun _ => 0, fun _ => 0, fun j hj => by omega, fun j j' _ hj => by omega⟩, h.2.2.same rfl rfl rfl rfl⟩
    rcases h.2.1 with ⟨_, _, e, _⟩ | ⟨a, _⟩
    · exact e
    · exact absurd (a.symm.trans ob) (by decide)
  · exact sim_no h c hk (by unfold hs_begin; rw [if_neg (k_nz c hk)])
theorem code_open {σ : OS} {μ : NS} (h : Rel σ μ) : hk_open μ = nI (k_open σ) ∧ k_open σ ≤ 2 := by
  unfold hk_open k_open
  exact code1 (or_congr (rc_on h.1) (ko_op h))
theorem open_0 {σ : OS} (hk : k_open σ = 0) : ¬ oOn σ = 0 ∧ ¬ oBo σ = 0 := by
  unfold k_open at hk
  exact ⟨fun z => code1_0 hk (Or.inl z), fun z => code1_0 hk (Or.inr z)⟩
theorem sim_ab {σ : OS} {μ : NS} (h : Rel σ μ) : simC Rel σ (k_open σ) (f_close σ) (hs_ab μ) ∧ (k_open σ = 0 → hr_ab μ = oBs σ) := by
  have c := code_open h
  by_cases hk : k_open σ = 0
  · obtain ⟨-, ho⟩ := open_0 hk
    have e : hs_ab μ = mkN 0 (nWc μ) (nTc μ) (nLc μ) (nWr μ) (nOf μ) (nUn μ) 0 (nSt μ) (nKs μ) (nVs μ) (nTs μ) := by
      unfold hs_ab
      rw [if_pos (k_z c.1 hk)]
    rw [e]
    rcases h.2.1 with ⟨a, _⟩ | ⟨_, _, nb, hnb, b1, b2, _⟩
    · exact absurd a ho
    · refine ⟨sim_yes hk rfl ⟨h.1.same rfl rfl rfl rfl rfl rfl rfl rfl rfl h.1.2.2.2.2.2.1 h.1.2.2.2.2.2.2.1, Or.inl ⟨rfl, rfl, rfl, nb, hnb, b2⟩, h.2.2.same rfl rfl rfl rfl⟩, fun _ => ?_⟩
      unfold hr_ab
      rw [if_pos (k_z c.1 hk), b1, b2]
  · exact ⟨sim_no h c hk (by unfold hs_ab; rw [if_neg (k_nz c hk)]), fun z => absurd z hk⟩
theorem sim_fail {σ : OS} {μ : NS} (h : Rel σ μ) (z : Int32) : simC Rel σ (k_fail σ z) (s_fail σ z) (hs_fail μ z) := by
  have hz : (¬ z = -1 ∧ (z < 0 ∨ ¬ z ≤ 1000)) ↔ (z < -1 ∨ ¬ z ≤ 1000) := by
    rw [← Int32.toInt_inj, Int32.lt_iff_toInt_lt, Int32.lt_iff_toInt_lt, Int32.le_iff_toInt_le, show (-1 : Int32).toInt = -1 by decide, show (0 : Int32).toInt = 0 by decide, show (1000 : Int32).toInt = 1000 by decide]
    omega
  have c : hk_fail μ z = nI (k_fail σ z) ∧ k_fail σ z ≤ 2 := by
    unfold hk_fail k_fail
    exact code2 hz (rc_on h.1)
  by_cases hk : k_fail σ z = 0
  · have e : hs_fail μ z = mkN 0 (nWc μ) (nTc μ) (nLc μ) (nWr μ) (nOf μ) z (nOp μ) (nSt μ) (nKs μ) (nVs μ) (nTs μ) := by
      unfold hs_fail
      rw [if_pos (k_z c.1 hk)]
    rw [e]
    exact sim_yes hk rfl ⟨h.1.same rfl rfl rfl rfl rfl rfl rfl rfl rfl rfl h.1.2.2.2.2.2.2.1, h.2.1.same rfl rfl rfl rfl rfl rfl rfl rfl, h.2.2.same rfl rfl rfl rfl⟩
  · exact sim_no h c hk (by unfold hs_fail; rw [if_neg (k_nz c hk)])
