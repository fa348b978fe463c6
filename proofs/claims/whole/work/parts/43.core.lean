/-! the two sides alike: the cells, the counters, the power -/
def tgOK (x : Int32) : Prop := x = 0 ∨ ∃ k, k < 64 ∧ x = nI (k + 128)
def lineN (v k w : Nat) : Nat := v + 65536 * k + 4194304 * w + 1073741824
def lnOK (x : Int32) : Prop := x = 0 ∨ ∃ v k w, v < 65536 ∧ k < 64 ∧ w < 160 ∧ x = nI (lineN v k w)
def stOK (x : Int32) : Prop := x = 0 ∨ x = 1 ∨ x = 3
def sR (f : Nat → Int32) (n : Nat) : Nat := sm (fun w => pc (uI (f w))) n
theorem sR_upd {f : Nat → Int32} {w : Nat} {x : Int32} (n : Nat) (h : w < n) : sR (upd f w x) n + pc (uI (f w)) = sR f n + pc (uI x) := sm_upd (q := fun x => pc (uI x)) n h
def setN (σ : OS) : Nat := sR (oW σ) 160 + sR (oT σ) 160 + sR (oL σ) 360
def RC (σ : OS) (μ : NS) : Prop :=
  (∀ w, w < 160 → wdN (nWc μ) w (uI (oW σ w)) ∧ uI (oW σ w) < 2 ^ 24) ∧
  (∀ w, w < 160 → tgN (nTc μ) w (uI (oT σ w)) ∧ tgOK (oT σ w)) ∧
  (∀ n, n < 360 → lnN (nLc μ) n (uI (oL σ n))) ∧
  (∀ b, b < 40 → stOK (oL σ (b * 9 + 8)) ∧ ∀ i, i < 8 → lnOK (oL σ (b * 9 + i))) ∧
  nWr μ = oWr σ ∧ nUn μ = oUn σ ∧ oOn σ = bI (decide (nOf μ = 0)) ∧ oSet σ = nI (setN σ)
theorem below_n {x : Int32} {N : Nat} (h : f_below x (nI N) = true) (hN : N < 2 ^ 31) : ∃ n, n < N ∧ x = nI n := by
  obtain ⟨h1, h2⟩ := of_decide_eq_true h
  obtain ⟨j, hj, e, -⟩ := pk_mu h1 h2 hN
  exact ⟨j, hj, e⟩
theorem below_y {n N : Nat} (h : n < N) (hN : N < 2 ^ 31) : f_below (nI n) (nI N) = true := decide_eq_true ⟨nI_pos (by omega), nI_ge h hN⟩
theorem u_0 {x : Int32} : uI x = 0 ↔ x = 0 := ⟨fun h => by rw [← nI_u x, h]; exact nI_0, fun h => by rw [h]; decide⟩
theorem tgOK_lt {x : Int32} (h : tgOK x) : uI x < 2 ^ 8 := by
  rcases h with h | ⟨k, hk, h⟩
  · rw [h]; decide
  · rw [h, u_nI (by omega)]; omega
theorem rc_tag {σ : OS} {μ : NS} (h : RC σ μ) (w : Nat) (hw : w < 160) : g_tag (nTc μ) w = oT σ w := by
  rw [g_tag_n (h.2.1 w hw).1 (tgOK_lt (h.2.1 w hw).2), nI_u]
theorem rc_val {σ : OS} {μ : NS} (h : RC σ μ) (w : Nat) (hw : w < 160) : g_val (nWc μ) w = f_mw (oW σ w) := by rw [g_val_n (h.1 w hw).1, f_mw_n]
theorem rc_com {σ : OS} {μ : NS} (h : RC σ μ) (w : Nat) (hw : w < 160) {v : Nat} (hv : v < 2 ^ 31) : g_com (nWc μ) w (nI v) = true ↔ ¬ f_pw (oW σ w) (nI v) = -1 := by
  rw [g_com_n (h.1 w hw).1 hv, f_pw_iff, u_nI (by omega), Classical.not_not]
theorem rc_fr {σ : OS} {μ : NS} (h : RC σ μ) (w : Nat) (hw : w < 160) : g_fr (nWc μ) (nTc μ) w = f_fresh (oW σ) (oT σ) w := by
  rw [Bool.eq_iff_iff, g_fr_n (h.1 w hw).1 (h.1 w hw).2, rc_tag h w hw, u_0]
  unfold f_fresh
  rw [decide_eq_true_eq]
  exact And.comm
theorem rc_presL {σ : OS} {μ : NS} (h : RC σ μ) (key : Int32) : ∀ n, n ≤ 160 → g_pres (nTc μ) key n = f_pres (oT σ) key n
  | 0, _ => rfl
  | n + 1, hn => by rw [g_pres, f_pres, rc_tag h n (by omega), rc_presL h key n (by omega)]
theorem rc_pres {σ : OS} {μ : NS} (h : RC σ μ) (key : Int32) : g_pres (nTc μ) key 160 = f_pres (oT σ) key 160 := rc_presL h key 160 (Nat.le_refl _)
theorem pres_lt {t : Nat → Int32} {key : Int32} : f_pres t key 160 < 0 ↔ f_pres t key 160 = -1 := by
  rcases f_pres_in t key 160 (Nat.le_refl _) with e | ⟨k, hk, e, -⟩
  · rw [e]; decide
  · rw [e]
    refine ⟨fun z => absurd z (nI_pos (by omega)), fun z => ?_⟩
    have := nI_pos (show k < 2 ^ 31 by omega)
    rw [z] at this
    exact absurd (by decide) this
theorem rc_stay {σ : OS} {μ : NS} (h : RC σ μ) (key : Int32) {v : Nat} (hv : v < 2 ^ 31) : (¬ g_pres (nTc μ) key 160 < 0 ∧ g_com (nWc μ) (g_pres (nTc μ) key 160).toNatClampNeg (nI v) = true) ↔ f_stay (oW σ) (f_pres (oT σ) key 160) (nI v) = true := by
  rw [rc_pres h, pres_lt]
  unfold f_stay
  rw [decide_eq_true_eq]
  refine and_congr_right (fun hne => ?_)
  obtain ⟨k, hk, e, -⟩ := (f_pres_in (oT σ) key 160 (Nat.le_refl _)).resolve_left hne
  rw [e, nI_clamp (by omega)]
  exact rc_com h k hk hv
theorem rc_take {σ : OS} {μ : NS} (h : RC σ μ) (key : Int32) {v : Nat} (hv : v < 2 ^ 31) (fr : Nat) (hfr : fr ≤ 160) : g_take (nWc μ) (nTc μ) key (nI v) fr = f_takes (oW σ) (oT σ) key (nI v) fr := by
  unfold g_take f_takes
  by_cases z : f_stay (oW σ) (f_pres (oT σ) key 160) (nI v) = true
  · rw [if_pos ((rc_stay h key hv).mpr z), if_pos z, rc_pres h]
  · rw [if_neg (fun y => z ((rc_stay h key hv).mp y)), if_neg z]
    exact first_alike _ _ _ _ (fun k h1 h2 => (rc_fr h k (by omega)).symm)
theorem rc_mov {σ : OS} {μ : NS} (h : RC σ μ) (key : Int32) {v : Nat} (hv : v < 2 ^ 31) : g_mov (nWc μ) (nTc μ) key (nI v) = !f_stay (oW σ) (f_pres (oT σ) key 160) (nI v) := by
  have hs := rc_stay h key hv
  unfold g_mov
  cases e : f_stay (oW σ) (f_pres (oT σ) key 160) (nI v)
  · refine decide_eq_true ?_
    by_cases z : g_pres (nTc μ) key 160 < 0
    · exact Or.inl z
    · refine Or.inr ?_
      cases e2 : g_com (nWc μ) (g_pres (nTc μ) key 160).toNatClampNeg (nI v)
      · rfl
      · have := hs.mp ⟨z, e2⟩
        rw [e] at this
        exact Bool.noConfusion this
  · obtain ⟨h1, h2⟩ := hs.mpr e
    refine decide_eq_false (fun z => ?_)
    rcases z with z | z
    · exact h1 z
    · rw [z] at h2
      exact Bool.noConfusion h2
theorem rc_line {σ : OS} {μ : NS} (h : RC σ μ) (n : Nat) (hn : n < 360) : g_line (nLc μ) n = lN (uI (oL σ n)) := g_line_n (h.2.2.1 n hn) (uI_lt _)
theorem rc_line0 {σ : OS} {μ : NS} (h : RC σ μ) (n : Nat) (hn : n < 360) : g_line (nLc μ) n = 0 ↔ oL σ n = 0 := by
  have := uI_lt (oL σ n)
  rw [rc_line h n hn, show (0 : Int64) = lN 0 from rfl, pk_lEQ (by omega) (by decide), u_0]
theorem rc_emL {σ : OS} {μ : NS} (h : RC σ μ) (b : Nat) (hb : b < 40) : ∀ n i, i + n ≤ 9 → g_emL (nLc μ) b n i = f_emptyL (oL σ) b n i
  | 0, _, _ => rfl
  | n + 1, i, hi => by
    rw [g_emL, f_emptyL, rc_emL h b hb n (i + 1) (by omega)]
    have := rc_line0 h (9 * b + i) (by omega)
    rw [Nat.mul_comm b 9]
    by_cases z : oL σ (9 * b + i) = 0
    · rw [if_pos z, if_pos (this.mpr z)]
    · rw [if_neg z, if_neg (fun y => z (this.mp y))]
theorem rc_em {σ : OS} {μ : NS} (h : RC σ μ) (b : Nat) (hb : b < 40) : g_em (nLc μ) b = f_empty (oL σ) b := rc_emL h b hb 9 0 (by omega)
theorem rc_nt {σ : OS} {μ : NS} (h : RC σ μ) : f_first (g_em (nLc μ)) 40 0 = f_first (f_empty (oL σ)) 40 0 := first_alike _ _ _ _ (fun k _ h2 => (rc_em h k (by omega)).symm)
theorem rc_on {σ : OS} {μ : NS} (h : RC σ μ) : oOn σ = 0 ↔ ¬ nOf μ = 0 := by
  rw [h.2.2.2.2.2.2.1, bI_0, decide_eq_false_iff_not]
/-- the cells that are set in all -/
theorem rc_cells {σ : OS} {μ : NS} (h : RC σ μ) : (g_cnt (nWc μ) 3840 0 0 + g_cnt (nTc μ) 1280 0 0) + g_cnt (nLc μ) 11520 0 0 = oSet σ := by
  have row : ∀ (f r : Nat → Int32) (b n : Nat), b ≤ 32 → (∀ w, w < n → (∀ k, k < b → f (b * w + k) = bI ((uI (r w)).testBit k)) ∧ uI (r w) < 2 ^ b) → g_cnt f (b * n) 0 0 = nI (sR r n) := by
    intro f r b n hb hf
    unfold sR
    rw [show (0 : Int32) = nI 0 from rfl, g_cnt_n f (b * n) 0 0, Nat.zero_add]
    congr 1
    rw [sm_row]
    refine sm_ext n (fun w hw => ?_)
    show _ = pc (uI (r w))
    rw [← pcn_cut (hf w hw).2 hb]
    refine sm_ext b (fun k hk => ?_)
    show (if f (0 + (b * w + k)) = 0 then 0 else 1) = ((uI (r w)).testBit k).toNat
    rw [Nat.zero_add, (hf w hw).1 k hk]
    cases (uI (r w)).testBit k <;> rfl
  have e1 := row (nWc μ) (oW σ) 24 160 (by decide) h.1
  have e2 := row (nTc μ) (oT σ) 8 160 (by decide) (fun w hw => ⟨(h.2.1 w hw).1, tgOK_lt (h.2.1 w hw).2⟩)
  have e3 := row (nLc μ) (oL σ) 32 360 (by decide) (fun w hw => ⟨h.2.2.1 w hw, uI_lt _⟩)
  rw [e1, e2, e3, nI_add, nI_add, h.2.2.2.2.2.2.2]
  rfl
