/-! one write on both sides -/
theorem nW_all (p : Int32) (b : Nat) : ∀ n k μ, ∃ f, g_nW p b n k μ = wWc μ f ∧ (∀ j, (j < b + k ∨ b + (k + n) ≤ j) → f j = nWc μ j) ∧ (∀ i, k ≤ i → i < k + n → f (b + i) = g_b1 p i)
  | 0, k, μ => ⟨nWc μ, rfl, fun _ _ => rfl, fun i h1 h2 => by omega⟩
  | n + 1, k, μ => by
    obtain ⟨f, e, h1, h2⟩ := nW_all p b n (k + 1) (wWc μ (upd (nWc μ) (b + k) (g_b1 p k)))
    refine ⟨f, by rw [g_nW, e], fun j hj => ?_, fun i hi hi2 => ?_⟩
    · rw [h1 j (by omega)]
      exact pk_un (by omega)
    · by_cases ei : i = k
      · subst ei
        rw [h1 (b + i) (by omega)]
        exact pk_us
      · exact h2 i (by omega) (by omega)
theorem nWW_all {w c v : Nat} (hv : v < 2 ^ 31) (hc : comN c v) : ∀ n g μ, g + n ≤ 8 → (∀ k, 3 * g ≤ k → k < 24 → nWc μ (24 * w + k) = bI (c.testBit k)) → ∃ f, g_nWW w (nI v) n g μ = wWc μ f ∧ (∀ j, (j < 24 * w + 3 * g ∨ 24 * w + 3 * (g + n) ≤ j) → f j = nWc μ j) ∧ (∀ k, 3 * g ≤ k → k < 3 * (g + n) → f (24 * w + k) = bI ((patN c v).testBit k))
  | 0, g, μ, _, _ => ⟨nWc μ, rfl, fun _ _ => rfl, fun i h1 h2 => by omega⟩
  | n + 1, g, μ, hg, hk => by
    have ep : g_pat (nWc μ) w g = nI (dg 3 c g) := g_pat_n (fun k hk2 => by rw [show 24 * w + 3 * g + k = 24 * w + (3 * g + k) by omega]; exact hk (3 * g + k) (by omega) (by omega))
    have eb : g_bet (g_pat (nWc μ) w g) (g_two (nI v) g) = pI (gP c v g) := by rw [ep, g_two_n hv g (by omega), bet_n _ (dg_lt 3 c g) _ (dg_lt 2 v g)]; rfl
    obtain ⟨f, e, h1, h2⟩ := nW_all (pI (gP c v g)) (24 * w + 3 * g) 3 0 μ
    obtain ⟨f2, e2, k1, k2⟩ := nWW_all hv hc n (g + 1) (wWc μ f) (by omega) (fun k hk1 hk2 => by
      rw [show nWc (wWc μ f) = f from rfl, h1 _ (by omega)]
      exact hk k (by omega) hk2)
    refine ⟨f2, by rw [g_nWW, eb, e, e2], fun j hj => ?_, fun k hk1 hk2 => ?_⟩
    · rw [k1 j (by omega)]
      exact h1 j (by omega)
    · by_cases z : 3 * (g + 1) ≤ k
      · exact k2 k z (by omega)
      · rw [k1 _ (by omega)]
        show f (24 * w + k) = _
        obtain ⟨i, hi, rfl⟩ : ∃ i, i < 3 ∧ k = 3 * g + i := ⟨k - 3 * g, by omega, by omega⟩
        rw [← Nat.add_assoc, h2 i (by omega) (by omega), pI_b _ (gP_lt hc g (by omega)) i hi, ← patN_dg hc g (by omega), dg_bit hi]
theorem nT_all (x : Int32) (w : Nat) : ∀ n k μ, ∃ f, g_nT x w n k μ = wTc μ f ∧ (∀ j, (j < 8 * w + k ∨ 8 * w + (k + n) ≤ j) → f j = nTc μ j) ∧ (∀ i, k ≤ i → i < k + n → f (8 * w + i) = g_b1 x i)
  | 0, k, μ => ⟨nTc μ, rfl, fun _ _ => rfl, fun i h1 h2 => by omega⟩
  | n + 1, k, μ => by
    obtain ⟨f, e, h1, h2⟩ := nT_all x w n (k + 1) (wTc μ (upd (nTc μ) (8 * w + k) (g_b1 x k)))
    refine ⟨f, by rw [g_nT, e], fun j hj => ?_, fun i hi hi2 => ?_⟩
    · rw [h1 j (by omega)]
      exact pk_un (by omega)
    · by_cases ei : i = k
      · subst ei
        rw [h1 (8 * w + i) (by omega)]
        exact pk_us
      · exact h2 i (by omega) (by omega)
theorem nL_all (x : Int64) (w : Nat) : ∀ n k μ, ∃ f, g_nL x w n k μ = wLc μ f ∧ (∀ j, (j < 32 * w + k ∨ 32 * w + (k + n) ≤ j) → f j = nLc μ j) ∧ (∀ i, k ≤ i → i < k + n → f (32 * w + i) = g_lb1 x i)
  | 0, k, μ => ⟨nLc μ, rfl, fun _ _ => rfl, fun i h1 h2 => by omega⟩
  | n + 1, k, μ => by
    obtain ⟨f, e, h1, h2⟩ := nL_all x w n (k + 1) (wLc μ (upd (nLc μ) (32 * w + k) (g_lb1 x k)))
    refine ⟨f, by rw [g_nL, e], fun j hj => ?_, fun i hi hi2 => ?_⟩
    · rw [h1 j (by omega)]
      exact pk_un (by omega)
    · by_cases ei : i = k
      · subst ei
        rw [h1 (32 * w + i) (by omega)]
        exact pk_us
      · exact h2 i (by omega) (by omega)
theorem b1_n : ∀ q, q < 256 → ∀ k, k < 8 → g_b1 (nI q) k = bI (q.testBit k) := by decide +kernel
theorem wb_s : ∀ k, k < 32 → (((nI k).toInt64 &&& 63).toBitVec.smod 64).toNat = k := by decide +kernel
theorem lb1_n {u : Nat} (hu : u < 2 ^ 32) (k : Nat) (hk : k < 32) : g_lb1 (lN u) k = bI (u.testBit k) := by
  unfold g_lb1
  have hd : u / 2 ^ k ≤ u := Nat.div_le_self _ _
  rw [pf_shr (wb_s k hk) (by omega), wb_a1 (by omega), Nat.testBit_eq_decide_div_mod_eq]
  have h2 : u / 2 ^ k % 2 = 0 ∨ u / 2 ^ k % 2 = 1 := by omega
  rcases h2 with h2 | h2 <;> rw [h2] <;> decide
theorem may_no {μ : NS} (h0 : nOf μ = 0) (h : nUn μ = 0) : g_may μ = (false, mkN (nTh μ) (nWc μ) (nTc μ) (nLc μ) (nWr μ) 1 (nUn μ) (nOp μ) (nSt μ) (nKs μ) (nVs μ) (nTs μ)) := by
  unfold g_may
  rw [if_pos h0, if_pos h]
theorem may_yes {μ : NS} (h0 : nOf μ = 0) (h : ¬ nUn μ = 0) : g_may μ = (true, mkN (nTh μ) (nWc μ) (nTc μ) (nLc μ) (nWr μ + 1) (nOf μ) (f_dec (nUn μ)) (nOp μ) (nSt μ) (nKs μ) (nVs μ) (nTs μ)) := by
  unfold g_may
  rw [if_pos h0, if_neg h]
/-- what a step of writes leaves, on the class's side, and that the two sides are alike behind it -/
def stp (σ σ' : OS) (μ' : NS) (ok : Bool) : Prop := RC σ' μ' ∧ (ok = true ↔ nOf μ' = 0) ∧ (oUn σ = -1 → ok = true ∧ oUn σ' = -1) ∧ oK σ' = oK σ ∧ oV σ' = oV σ ∧ oP σ' = oP σ ∧ oBo σ' = oBo σ ∧ oBs σ' = oBs σ
theorem stp.rc {σ σ' : OS} {μ' : NS} {ok : Bool} (h : stp σ σ' μ' ok) : RC σ' μ' := h.1
theorem stp.refl {σ : OS} {μ : NS} (h : RC σ μ) (h0 : nOf μ = 0) : stp σ σ μ true := ⟨h, ⟨fun _ => h0, fun _ => rfl⟩, fun z => ⟨rfl, z⟩, rfl, rfl, rfl, rfl, rfl⟩
theorem stp.next {σ σ' σ'' : OS} {μ' μ'' : NS} {ok : Bool} (h : stp σ σ' μ' true) (k : stp σ' σ'' μ'' ok) : stp σ σ'' μ'' ok := by
  obtain ⟨h1, h2, h3, h4, h5, h6, h7, h8⟩ := h
  obtain ⟨k1, k2, k3, k4, k5, k6, k7, k8⟩ := k
  exact ⟨k1, k2, fun z => k3 (h3 z).2, k4.trans h4, k5.trans h5, k6.trans h6, k7.trans h7, k8.trans h8⟩
theorem stp.fail {σ : OS} {μ : NS} {μ' : NS} (h : RC σ μ) (h0 : nOf μ = 0) (hu : oUn σ = 0) (e : μ' = (g_may μ).2) : stp σ (mkO (oW σ) (oT σ) (oL σ) (oSet σ) (oWr σ) 0 (oUn σ) (oK σ) (oV σ) (oP σ) (oBo σ) (oBs σ)) μ' false := by
  rw [e, may_no h0 (h.2.2.2.2.2.1.trans hu)]
  refine ⟨⟨h.1, h.2.1, h.2.2.1, h.2.2.2.1, h.2.2.2.2.1, h.2.2.2.2.2.1, ?_, h.2.2.2.2.2.2.2⟩, ⟨fun z => Bool.noConfusion z, fun z => absurd (show (1 : Int32) = 0 from z) (by decide)⟩, fun z => ?_, rfl, rfl, rfl, rfl, rfl⟩
  · show (0 : Int32) = bI (decide ((1 : Int32) = 0))
    decide
  · rw [hu] at z
    exact absurd z (by decide)
theorem dec_m1 {u : Int32} (h : u = -1) : f_dec u = -1 := by rw [h]; decide
theorem wt_or {c n : Nat} (hc : comN c n) (hcl : c < 2 ^ 24) : nI c ||| nI (patN c n) = nI (patN c n) := by rw [nx_or, patN_sup hc hcl]
theorem wt_eq {c n : Nat} (hc : comN c n) (hcl : c < 2 ^ 24) (hn : n < 65536) : nI (patN c n) = nI c ↔ nI (valN c) = nI n := by
  have h1 := patN_lt hc
  have h2 := valN_lt c
  have h3 := patN_val hc hcl hn
  generalize patN c n = P at *
  generalize valN c = V at *
  constructor
  · intro z
    rw [h3.mp (nI_inj (by omega) (by omega) z)]
  · intro z
    rw [h3.mpr (nI_inj (by omega) (by omega) z)]
theorem wt_nWW {w c n : Nat} (hc : comN c n) (hn : n < 65536) (μ : NS) (hk : ∀ k, k < 24 → nWc μ (24 * w + k) = bI (c.testBit k)) : ∃ f, g_nWW w (nI n) 8 0 μ = wWc μ f ∧ (∀ j, (j < 24 * w ∨ 24 * w + 24 ≤ j) → f j = nWc μ j) ∧ (∀ k, k < 24 → f (24 * w + k) = bI ((patN c n).testBit k)) := by
  obtain ⟨f, e1, e2, e3⟩ := nWW_all (w := w) (v := n) (by omega) hc 8 0 μ (by omega) (fun k _ h => hk k h)
  exact ⟨f, e1, fun j hj => e2 j (by omega), fun k h => e3 k (by omega) (by omega)⟩
/-- what the word comes to -/
theorem word_to {σ : OS} {μ : NS} (h : RC σ μ) {w n : Nat} (hw : w < 160) (hn : n < 65536) (hc : comN (uI (oW σ w)) n) :
    ∃ P, f_pw (oW σ w) (nI n) = nI P ∧ P < 2 ^ 24 ∧ oW σ w ||| nI P = nI P ∧ (f_add (oW σ w) (nI P) = 0 ↔ g_val (nWc μ) w = nI n) ∧ comN P n ∧
    (∀ μ1 : NS, (∀ k, k < 24 → nWc μ1 (24 * w + k) = bI ((uI (oW σ w)).testBit k)) → ∃ f, g_nWW w (nI n) 8 0 μ1 = wWc μ1 f ∧ (∀ j, (j < 24 * w ∨ 24 * w + 24 ≤ j) → f j = nWc μ1 j) ∧ (∀ k, k < 24 → f (24 * w + k) = bI (P.testBit k))) := by
  have en : uI (nI n) = n := u_nI (by omega)
  have hcl := (h.1 w hw).2
  have o1 := wt_or hc hcl
  rw [nI_u] at o1
  have o2 := wt_eq hc hcl hn
  rw [nI_u] at o2
  refine ⟨patN (uI (oW σ w)) n, ?_, patN_lt hc, o1, ?_, com_idem hc, fun μ1 hk => wt_nWW hc hn μ1 hk⟩
  · have := f_pw_y (c := oW σ w) (v := nI n) (by rw [en]; exact hc)
    rw [en] at this
    exact this
  · rw [add_0, o1, g_val_n (h.1 w hw).1]
    exact o2
/-- the word's write -/
theorem st_word {σ : OS} {μ : NS} (h : RC σ μ) (h0 : nOf μ = 0) {w n : Nat} (hw : w < 160) (hn : n < 65536) (hc : comN (uI (oW σ w)) n) :
    stp σ (f_wr1 σ w (f_pw (oW σ w) (nI n))) (g_wrW μ w (nI n)) (f_ok σ (f_add (oW σ w) (f_pw (oW σ w) (nI n)))) ∧
    oT (f_wr1 σ w (f_pw (oW σ w) (nI n))) = oT σ ∧ oL (f_wr1 σ w (f_pw (oW σ w) (nI n))) = oL σ ∧
    (∀ q, q ≠ w → oW (f_wr1 σ w (f_pw (oW σ w) (nI n))) q = oW σ q) ∧ comN (uI (oW (f_wr1 σ w (f_pw (oW σ w) (nI n))) w)) n := by
  obtain ⟨P, eP, hpl, eor, e0, hcP, hall⟩ := word_to h hw hn hc
  rw [eP]
  unfold f_wr1 g_wrW f_ok
  rw [if_neg (fun z : ¬ nOf μ = 0 => z h0)]
  by_cases ez : f_add (oW σ w) (nI P) = 0
  · rw [if_pos ez, if_pos (e0.mp ez), decide_eq_true (Or.inl ez)]
    exact ⟨stp.refl h h0, rfl, rfl, fun _ _ => rfl, hc⟩
  · rw [if_neg ez, if_neg (fun z => ez (e0.mpr z))]
    by_cases hu : oUn σ = 0
    · rw [if_pos hu, decide_eq_false (fun z => z.elim ez (fun y => y hu))]
      rw [if_neg (by rw [may_no h0 (h.2.2.2.2.2.1.trans hu)]; exact Bool.noConfusion)]
      exact ⟨stp.fail h h0 hu rfl, rfl, rfl, fun _ _ => rfl, hc⟩
    · have hu2 : ¬ nUn μ = 0 := fun z => hu (h.2.2.2.2.2.1.symm.trans z)
      rw [if_neg hu, decide_eq_true (Or.inr hu), may_yes h0 hu2, if_pos rfl, add_or, eor]
      obtain ⟨f, ef, f1, f2⟩ := hall (mkN (nTh μ) (nWc μ) (nTc μ) (nLc μ) (nWr μ + 1) (nOf μ) (f_dec (nUn μ)) (nOp μ) (nSt μ) (nKs μ) (nVs μ) (nTs μ)) (fun k hk => (h.1 w hw).1 k hk)
      rw [ef]
      refine ⟨⟨⟨fun q hq => ?_, h.2.1, h.2.2.1, h.2.2.2.1, ?_, ?_, h.2.2.2.2.2.2.1, ?_⟩, ⟨fun _ => h0, fun _ => rfl⟩, fun z => ⟨rfl, dec_m1 z⟩, rfl, rfl, rfl, rfl, rfl⟩, rfl, rfl, fun q hq => pk_un hq, ?_⟩
      · show wdN f q (uI (upd (oW σ) w (nI P) q)) ∧ uI (upd (oW σ) w (nI P) q) < 2 ^ 24
        by_cases eq : q = w
        · subst eq
          rw [pk_us, u_nI (by omega)]
          exact ⟨fun k hk => f2 k hk, hpl⟩
        · rw [pk_un eq]
          exact ⟨fun k hk => (f1 _ (by omega)).trans ((h.1 q hq).1 k hk), (h.1 q hq).2⟩
      · show nWr μ + 1 = oWr σ + 1
        rw [h.2.2.2.2.1]
      · show f_dec (nUn μ) = f_dec (oUn σ)
        rw [h.2.2.2.2.2.1]
      · show oSet σ + f_bc (f_add (oW σ w) (nI P)) = nI (sR (upd (oW σ) w (nI P)) 160 + sR (oT σ) 160 + sR (oL σ) 360)
        have s1 := sR_upd (f := oW σ) (w := w) (x := nI P) 160 hw
        have s2 := add_pc (oW σ w) (nI P)
        rw [eor] at s2
        rw [h.2.2.2.2.2.2.2, f_bc_n, nI_add]
        refine congrArg nI ?_
        unfold setN
        omega
      · show comN (uI (upd (oW σ) w (nI P) w)) n
        rw [pk_us, u_nI (by omega)]
        exact hcP
/-- the tag's write -/
theorem st_tag {σ : OS} {μ : NS} (h : RC σ μ) (h0 : nOf μ = 0) {w k : Nat} (hw : w < 160) (hk : k < 64) (ht : oT σ w = 0 ∨ oT σ w = nI (k + 128)) :
    stp σ (f_wr2 σ w (nI (k + 128))) (g_wrT μ w (nI k)) (f_ok σ (f_add (oT σ w) (nI (k + 128)))) ∧
    oW (f_wr2 σ w (nI (k + 128))) = oW σ ∧ oL (f_wr2 σ w (nI (k + 128))) = oL σ ∧
    (∀ q, q ≠ w → oT (f_wr2 σ w (nI (k + 128))) q = oT σ q) ∧ (oT (f_wr2 σ w (nI (k + 128))) w = 0 ∨ oT (f_wr2 σ w (nI (k + 128))) w = nI (k + 128)) := by
  have ek : nI k + 128 = nI (k + 128) := nI_add k 128
  have hne : ¬ nI (k + 128) = 0 := nI_ne0 (by omega) (by omega)
  have eor : oT σ w ||| nI (k + 128) = nI (k + 128) := by
    rcases ht with z | z
    · rw [z]
      exact b_ext (fun i _ => by rw [b_or, b_0, Bool.false_or])
    · rw [z]
      exact b_ext (fun i _ => by rw [b_or, Bool.or_self])
  have e0 : f_add (oT σ w) (nI (k + 128)) = 0 ↔ g_tag (nTc μ) w = nI k + 128 := by
    rw [add_0, eor, rc_tag h w hw, ek]
    exact eq_comm
  unfold f_wr2 g_wrT f_ok
  rw [if_neg (fun z : ¬ nOf μ = 0 => z h0)]
  by_cases ez : f_add (oT σ w) (nI (k + 128)) = 0
  · rw [if_pos ez, if_pos (e0.mp ez), decide_eq_true (Or.inl ez)]
    exact ⟨stp.refl h h0, rfl, rfl, fun _ _ => rfl, ht⟩
  · rw [if_neg ez, if_neg (fun z => ez (e0.mpr z))]
    by_cases hu : oUn σ = 0
    · rw [if_pos hu, decide_eq_false (fun z => z.elim ez (fun y => y hu))]
      rw [if_neg (by rw [may_no h0 (h.2.2.2.2.2.1.trans hu)]; exact Bool.noConfusion)]
      exact ⟨stp.fail h h0 hu rfl, rfl, rfl, fun _ _ => rfl, ht⟩
    · have hu2 : ¬ nUn μ = 0 := fun z => hu (h.2.2.2.2.2.1.symm.trans z)
      rw [if_neg hu, decide_eq_true (Or.inr hu), may_yes h0 hu2, if_pos rfl, add_or, eor, ek]
      obtain ⟨f, ef, f1, f2⟩ := nT_all (nI (k + 128)) w 8 0 (mkN (nTh μ) (nWc μ) (nTc μ) (nLc μ) (nWr μ + 1) (nOf μ) (f_dec (nUn μ)) (nOp μ) (nSt μ) (nKs μ) (nVs μ) (nTs μ))
      rw [ef]
      refine ⟨⟨⟨h.1, fun q hq => ?_, h.2.2.1, h.2.2.2.1, ?_, ?_, h.2.2.2.2.2.2.1, ?_⟩, ⟨fun _ => h0, fun _ => rfl⟩, fun z => ⟨rfl, dec_m1 z⟩, rfl, rfl, rfl, rfl, rfl⟩, rfl, rfl, fun q hq => pk_un hq, Or.inr pk_us⟩
      · show tgN f q (uI (upd (oT σ) w (nI (k + 128)) q)) ∧ tgOK (upd (oT σ) w (nI (k + 128)) q)
        by_cases eq : q = w
        · subst eq
          rw [pk_us, u_nI (by omega)]
          exact ⟨fun i hi => (f2 i (by omega) (by omega)).trans (b1_n _ (by omega) i hi), Or.inr ⟨k, hk, rfl⟩⟩
        · rw [pk_un eq]
          exact ⟨fun k hk => (f1 _ (by omega)).trans ((h.2.1 q hq).1 k hk), (h.2.1 q hq).2⟩
      · show nWr μ + 1 = oWr σ + 1
        rw [h.2.2.2.2.1]
      · show f_dec (nUn μ) = f_dec (oUn σ)
        rw [h.2.2.2.2.2.1]
      · show oSet σ + f_bc (f_add (oT σ w) (nI (k + 128))) = nI (sR (oW σ) 160 + sR (upd (oT σ) w (nI (k + 128))) 160 + sR (oL σ) 360)
        have s1 := sR_upd (f := oT σ) (w := w) (x := nI (k + 128)) 160 hw
        have s2 := add_pc (oT σ w) (nI (k + 128))
        rw [eor] at s2
        rw [h.2.2.2.2.2.2.2, f_bc_n, nI_add]
        refine congrArg nI ?_
        unfold setN
        omega
/-- a line's write: it sets something, and the line may be so -/
theorem st_line {σ : OS} {μ : NS} (h : RC σ μ) (h0 : nOf μ = 0) {n u : Nat} (hn : n < 360) (hu32 : u < 2 ^ 32) (eor : oL σ n ||| nI u = nI u) (hne : ¬ oL σ n = nI u) (hok : ∀ b, b < 40 → (b * 9 + 8 = n → stOK (nI u)) ∧ ∀ i, i < 8 → b * 9 + i = n → lnOK (nI u)) :
    stp σ (f_wr3 σ n (nI u)) (g_wrL μ n (lN u)) (f_ok σ (f_add (oL σ n) (nI u))) ∧
    oW (f_wr3 σ n (nI u)) = oW σ ∧ oT (f_wr3 σ n (nI u)) = oT σ ∧
    (∀ q, q ≠ n → oL (f_wr3 σ n (nI u)) q = oL σ q) ∧ (oL (f_wr3 σ n (nI u)) n = if f_ok σ (f_add (oL σ n) (nI u)) = true then nI u else oL σ n) := by
  have ez : ¬ f_add (oL σ n) (nI u) = 0 := by
    rw [add_0, eor]
    exact fun z => hne z.symm
  unfold f_wr3 g_wrL f_ok
  rw [if_neg (fun z : ¬ nOf μ = 0 => z h0)]
  rw [if_neg ez]
  by_cases hu : oUn σ = 0
  · rw [if_pos hu, decide_eq_false (fun z => z.elim ez (fun y => y hu))]
    rw [if_neg (by rw [may_no h0 (h.2.2.2.2.2.1.trans hu)]; exact Bool.noConfusion)]
    exact ⟨stp.fail h h0 hu rfl, rfl, rfl, fun _ _ => rfl, rfl⟩
  · have hu2 : ¬ nUn μ = 0 := fun z => hu (h.2.2.2.2.2.1.symm.trans z)
    rw [if_neg hu, decide_eq_true (Or.inr hu), may_yes h0 hu2, if_pos rfl, add_or, eor]
    obtain ⟨f, ef, f1, f2⟩ := nL_all (lN u) n 32 0 (mkN (nTh μ) (nWc μ) (nTc μ) (nLc μ) (nWr μ + 1) (nOf μ) (f_dec (nUn μ)) (nOp μ) (nSt μ) (nKs μ) (nVs μ) (nTs μ))
    rw [ef]
    refine ⟨⟨⟨h.1, h.2.1, fun q hq => ?_, fun b hb => ⟨?_, fun i hi => ?_⟩, ?_, ?_, h.2.2.2.2.2.2.1, ?_⟩, ⟨fun _ => h0, fun _ => rfl⟩, fun z => ⟨rfl, dec_m1 z⟩, rfl, rfl, rfl, rfl, rfl⟩, rfl, rfl, fun q hq => pk_un hq, pk_us⟩
    · show lnN f q (uI (upd (oL σ) n (nI u) q))
      by_cases eq : q = n
      · subst eq
        rw [pk_us, u_nI hu32]
        exact fun i hi => (f2 i (by omega) (by omega)).trans (lb1_n hu32 i hi)
      · rw [pk_un eq]
        exact fun k hk => (f1 _ (by omega)).trans (h.2.2.1 q hq k hk)
    · show stOK (upd (oL σ) n (nI u) (b * 9 + 8))
      by_cases eq : b * 9 + 8 = n
      · rw [eq, pk_us]
        exact (hok b hb).1 eq
      · rw [pk_un eq]
        exact (h.2.2.2.1 b hb).1
    · show lnOK (upd (oL σ) n (nI u) (b * 9 + i))
      by_cases eq : b * 9 + i = n
      · rw [eq, pk_us]
        exact (hok b hb).2 i hi eq
      · rw [pk_un eq]
        exact (h.2.2.2.1 b hb).2 i hi
    · show nWr μ + 1 = oWr σ + 1
      rw [h.2.2.2.2.1]
    · show f_dec (nUn μ) = f_dec (oUn σ)
      rw [h.2.2.2.2.2.1]
    · show oSet σ + f_bc (f_add (oL σ n) (nI u)) = nI (sR (oW σ) 160 + sR (oT σ) 160 + sR (upd (oL σ) n (nI u)) 360)
      have s1 := sR_upd (f := oL σ) (w := n) (x := nI u) 360 hn
      have s2 := add_pc (oL σ n) (nI u)
      rw [eor] at s2
      rw [h.2.2.2.2.2.2.2, f_bc_n, nI_add]
      refine congrArg nI ?_
      unfold setN
      omega
theorem wrW_off {μ : NS} (h : ¬ nOf μ = 0) (w : Nat) (v : Int32) : g_wrW μ w v = μ := by unfold g_wrW; rw [if_pos h]
theorem wrT_off {μ : NS} (h : ¬ nOf μ = 0) (w : Nat) (v : Int32) : g_wrT μ w v = μ := by unfold g_wrT; rw [if_pos h]
theorem wrL_off {μ : NS} (h : ¬ nOf μ = 0) (w : Nat) (v : Int64) : g_wrL μ w v = μ := by unfold g_wrL; rw [if_pos h]
theorem perf_off {μ : NS} (h : ¬ nOf μ = 0) (w : Nat) (key v : Int32) : g_perf μ w key v = μ := by unfold g_perf; rw [wrW_off h, wrT_off h]
/-- a put's writes -/
theorem st_put {σ : OS} {μ : NS} (h : RC σ μ) (h0 : nOf μ = 0) {w n k : Nat} (hw : w < 160) (hn : n < 65536) (hk : k < 64) (hc : comN (uI (oW σ w)) n) (ht : oT σ w = 0 ∨ oT σ w = nI (k + 128)) :
    stp σ (f_put σ w (nI k) (nI n)).2 (g_perf μ w (nI k) (nI n)) (f_put σ w (nI k) (nI n)).1 ∧ oL (f_put σ w (nI k) (nI n)).2 = oL σ ∧
    (∀ q, q ≠ w → oW (f_put σ w (nI k) (nI n)).2 q = oW σ q ∧ oT (f_put σ w (nI k) (nI n)).2 q = oT σ q) ∧ comN (uI (oW (f_put σ w (nI k) (nI n)).2 w)) n ∧ (oT (f_put σ w (nI k) (nI n)).2 w = 0 ∨ oT (f_put σ w (nI k) (nI n)).2 w = nI (k + 128)) := by
  obtain ⟨a1, a2, a3, a4, a5⟩ := st_word h h0 hw hn hc
  have ek : nI k + 128 = nI (k + 128) := nI_add k 128
  unfold f_put g_perf
  rw [ek]
  generalize f_wr1 σ w (f_pw (oW σ w) (nI n)) = σ1 at *
  generalize g_wrW μ w (nI n) = μ1 at *
  cases hb : f_ok σ (f_add (oW σ w) (f_pw (oW σ w) (nI n)))
  · rw [hb] at a1
    rw [if_neg Bool.noConfusion, wrT_off (fun z => Bool.noConfusion (a1.2.1.mpr z))]
    exact ⟨a1, a3, fun q hq => ⟨a4 q hq, by rw [a2]⟩, a5, by rw [a2]; exact ht⟩
  · rw [hb] at a1
    rw [if_pos rfl]
    obtain ⟨b1, b2, b3, b4, b5⟩ := st_tag a1.1 (a1.2.1.mp rfl) hw hk (by rw [a2]; exact ht)
    exact ⟨a1.next b1, b3.trans a3, fun q hq => ⟨(congrFun b2 q).trans (a4 q hq), (b4 q hq).trans (congrFun a2 q)⟩, by rw [b2]; exact a5, b5⟩
