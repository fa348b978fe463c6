/-! the reference's commit and mount -/
theorem g_may_ks (μ : NS) : nKs (g_may μ).2 = nKs μ ∧ nVs (g_may μ).2 = nVs μ ∧ nTs (g_may μ).2 = nTs μ ∧ nSt (g_may μ).2 = nSt μ ∧ nOp (g_may μ).2 = nOp μ ∧ nTh (g_may μ).2 = nTh μ ∧ nWc (g_may μ).2 = nWc μ ∧ nTc (g_may μ).2 = nTc μ ∧ nLc (g_may μ).2 = nLc μ := by
  unfold g_may
  split
  · split <;> exact ⟨rfl, rfl, rfl, rfl, rfl, rfl, rfl, rfl, rfl⟩
  · exact ⟨rfl, rfl, rfl, rfl, rfl, rfl, rfl, rfl, rfl⟩
/-- what a write of cells leaves -/
def g_same (μ τ : NS) : Prop := nKs τ = nKs μ ∧ nVs τ = nVs μ ∧ nTs τ = nTs μ ∧ nSt τ = nSt μ ∧ nOp τ = nOp μ ∧ nTh τ = nTh μ
theorem g_same.refl (μ : NS) : g_same μ μ := ⟨rfl, rfl, rfl, rfl, rfl, rfl⟩
theorem g_same.trans {a b c : NS} (h : g_same a b) (k : g_same b c) : g_same a c := ⟨k.1.trans h.1, k.2.1.trans h.2.1, k.2.2.1.trans h.2.2.1, k.2.2.2.1.trans h.2.2.2.1, k.2.2.2.2.1.trans h.2.2.2.2.1, k.2.2.2.2.2.trans h.2.2.2.2.2⟩
theorem g_may_same (μ : NS) : g_same μ (g_may μ).2 := ⟨(g_may_ks μ).1, (g_may_ks μ).2.1, (g_may_ks μ).2.2.1, (g_may_ks μ).2.2.2.1, (g_may_ks μ).2.2.2.2.1, (g_may_ks μ).2.2.2.2.2.1⟩
theorem g_nW_same (p : Int32) (b : Nat) : ∀ n k μ, g_same μ (g_nW p b n k μ) ∧ nTc (g_nW p b n k μ) = nTc μ ∧ nLc (g_nW p b n k μ) = nLc μ
  | 0, _, _ => ⟨g_same.refl _, rfl, rfl⟩
  | n + 1, k, μ => by
    have h := g_nW_same p b n (k + 1) (wWc μ (upd (nWc μ) (b + k) (g_b1 p k)))
    exact ⟨g_same.trans ⟨rfl, rfl, rfl, rfl, rfl, rfl⟩ h.1, h.2⟩
theorem g_nWW_same (w : Nat) (v : Int32) : ∀ n g μ, g_same μ (g_nWW w v n g μ) ∧ nTc (g_nWW w v n g μ) = nTc μ ∧ nLc (g_nWW w v n g μ) = nLc μ
  | 0, _, _ => ⟨g_same.refl _, rfl, rfl⟩
  | n + 1, g, μ => by
    have h := g_nWW_same w v n (g + 1) (g_nW (g_bet (g_pat (nWc μ) w g) (g_two v g)) (24 * w + 3 * g) 3 0 μ)
    have k := g_nW_same (g_bet (g_pat (nWc μ) w g) (g_two v g)) (24 * w + 3 * g) 3 0 μ
    exact ⟨k.1.trans h.1, h.2.1.trans k.2.1, h.2.2.trans k.2.2⟩
theorem g_nT_same (x : Int32) (w : Nat) : ∀ n k μ, g_same μ (g_nT x w n k μ) ∧ nWc (g_nT x w n k μ) = nWc μ ∧ nLc (g_nT x w n k μ) = nLc μ
  | 0, _, _ => ⟨g_same.refl _, rfl, rfl⟩
  | n + 1, k, μ => by
    have h := g_nT_same x w n (k + 1) (wTc μ (upd (nTc μ) (8 * w + k) (g_b1 x k)))
    exact ⟨g_same.trans ⟨rfl, rfl, rfl, rfl, rfl, rfl⟩ h.1, h.2⟩
theorem g_nL_same (x : Int64) (b : Nat) : ∀ n k μ, g_same μ (g_nL x b n k μ) ∧ nWc (g_nL x b n k μ) = nWc μ ∧ nTc (g_nL x b n k μ) = nTc μ
  | 0, _, _ => ⟨g_same.refl _, rfl, rfl⟩
  | n + 1, k, μ => by
    have h := g_nL_same x b n (k + 1) (wLc μ (upd (nLc μ) (32 * b + k) (g_lb1 x k)))
    exact ⟨g_same.trans ⟨rfl, rfl, rfl, rfl, rfl, rfl⟩ h.1, h.2⟩
theorem g_wrW_same (μ : NS) (w : Nat) (v : Int32) : g_same μ (g_wrW μ w v) ∧ nTc (g_wrW μ w v) = nTc μ ∧ nLc (g_wrW μ w v) = nLc μ := by
  unfold g_wrW
  have m := g_may_ks μ
  split
  · exact ⟨g_same.refl _, rfl, rfl⟩
  · split
    · exact ⟨g_same.refl _, rfl, rfl⟩
    · split
      · have h := g_nWW_same w v 8 0 (g_may μ).2
        exact ⟨(g_may_same μ).trans h.1, h.2.1.trans m.2.2.2.2.2.2.2.1, h.2.2.trans m.2.2.2.2.2.2.2.2⟩
      · exact ⟨g_may_same μ, m.2.2.2.2.2.2.2.1, m.2.2.2.2.2.2.2.2⟩
theorem g_wrT_same (μ : NS) (w : Nat) (key : Int32) : g_same μ (g_wrT μ w key) ∧ nWc (g_wrT μ w key) = nWc μ ∧ nLc (g_wrT μ w key) = nLc μ := by
  unfold g_wrT
  have m := g_may_ks μ
  split
  · exact ⟨g_same.refl _, rfl, rfl⟩
  · split
    · exact ⟨g_same.refl _, rfl, rfl⟩
    · split
      · have h := g_nT_same (key + 128) w 8 0 (g_may μ).2
        exact ⟨(g_may_same μ).trans h.1, h.2.1.trans m.2.2.2.2.2.2.1, h.2.2.trans m.2.2.2.2.2.2.2.2⟩
      · exact ⟨g_may_same μ, m.2.2.2.2.2.2.1, m.2.2.2.2.2.2.2.2⟩
theorem g_wrL_same (μ : NS) (b : Nat) (v : Int64) : g_same μ (g_wrL μ b v) ∧ nWc (g_wrL μ b v) = nWc μ ∧ nTc (g_wrL μ b v) = nTc μ := by
  unfold g_wrL
  have m := g_may_ks μ
  split
  · exact ⟨g_same.refl _, rfl, rfl⟩
  · split
    · have h := g_nL_same v b 32 0 (g_may μ).2
      exact ⟨(g_may_same μ).trans h.1, h.2.1.trans m.2.2.2.2.2.2.1, h.2.2.trans m.2.2.2.2.2.2.2.1⟩
    · exact ⟨g_may_same μ, m.2.2.2.2.2.2.1, m.2.2.2.2.2.2.2.1⟩
theorem g_perf_same (μ : NS) (w : Nat) (key v : Int32) : g_same μ (g_perf μ w key v) ∧ nLc (g_perf μ w key v) = nLc μ :=
  ⟨(g_wrW_same μ w v).1.trans (g_wrT_same _ w key).1, (g_wrT_same (g_wrW μ w v) w key).2.2.trans (g_wrW_same μ w v).2.2⟩
/-- a line that isn't written stays -/
theorem g_nL_out (x : Int64) (b : Nat) : ∀ n k μ j, (j < 32 * b ∨ 32 * b + (k + n) ≤ j) → nLc (g_nL x b n k μ) j = nLc μ j
  | 0, _, _, _, _ => rfl
  | n + 1, k, μ, j, h => by
    rw [g_nL, g_nL_out x b n (k + 1) _ j (by omega)]
    show upd (nLc μ) (32 * b + k) (g_lb1 x k) j = nLc μ j
    exact pk_un (by omega)
theorem g_lineL_ext (f g : Nat → Int32) (b : Nat) (h : ∀ k, k < 32 → f (32 * b + k) = g (32 * b + k)) : ∀ n i a, i + n ≤ 32 → g_lineL f b n i a = g_lineL g b n i a
  | 0, _, _, _ => rfl
  | n + 1, i, a, hi => by rw [g_lineL, g_lineL, h i (by omega)]; exact g_lineL_ext f g b h n (i + 1) _ (by omega)
theorem g_wrL_line (μ : NS) (b j : Nat) (v : Int64) (h : j ≠ b) : g_line (nLc (g_wrL μ b v)) j = g_line (nLc μ) j := by
  have m := (g_may_ks μ).2.2.2.2.2.2.2.2
  refine g_lineL_ext _ _ j (fun k hk => ?_) 32 0 0 (by omega)
  unfold g_wrL
  split
  · rfl
  · split
    · rw [g_nL_out v b 32 0 (g_may μ).2 (32 * j + k) (by omega), m]
    · rw [m]
def g_lv (v k t : Int32) : Int64 := ((v.toInt64 + 65536 * k.toInt64) + 4194304 * t.toInt64) + 1073741824
def g_lwd (v : Int64) : Int32 := ((v / 4194304) - (v / 4194304) / 256 * 256).toInt32
def g_lkd (v : Int64) : Int32 := ((v / 65536) - (v / 65536) / 64 * 64).toInt32
def g_lvd (v : Int64) : Int32 := (v - v / 65536 * 65536).toInt32
abbrev g_op0 (μ : NS) : NS := mkN (nTh μ) (nWc μ) (nTc μ) (nLc μ) (nWr μ) (nOf μ) (nUn μ) 0 (nSt μ) (nKs μ) (nVs μ) (nTs μ)
def g_cl1 (b : Nat) : Nat → Nat → NS → NS
  | 0, _, μ => μ
  | n + 1, k, μ => g_cl1 b n (k + 1) (g_wrL μ (9 * b + k) (g_lv (nVs μ k) (nKs μ k) (nTs μ k)))
def g_cl2 : Nat → Nat → NS → NS
  | 0, _, μ => μ
  | n + 1, k, μ => g_cl2 n (k + 1) (g_perf μ (nTs μ k).toNatClampNeg (nKs μ k) (nVs μ k))
theorem g_cl1_same (b : Nat) : ∀ n k μ, g_same μ (g_cl1 b n k μ)
  | 0, _, _ => g_same.refl _
  | n + 1, k, μ => (g_wrL_same μ (9 * b + k) _).1.trans (g_cl1_same b n (k + 1) _)
def g_nt (μ : NS) : Nat := (f_first (g_em (nLc μ)) 40 0).toNatClampNeg
def g_c0 (μ : NS) (nb : Nat) : NS := g_op0 (g_sh (h_th μ 0) nb).2
def g_c1 (μ : NS) (nb : Nat) : NS := g_wrL (g_cl1 (g_nt μ) nb 0 (g_c0 μ nb)) (9 * g_nt μ + 8) 1
def g_c2 (μ : NS) (nb : Nat) : NS := g_wrL (g_cl2 nb 0 (g_c1 μ nb)) (9 * g_nt μ + 8) 3
def hs_commit (μ : NS) (nb : Nat) : NS := if ¬ hk_open μ = 0 then h_th μ (hk_open μ) else if nb = 0 then g_op0 (h_th μ 0) else if f_first (g_em (nLc μ)) 40 0 < 0 then h_th μ 0 else if (g_sh (h_th μ 0) nb).1 = false then (g_sh (h_th μ 0) nb).2 else g_c2 μ nb
def hr_commit (μ : NS) (nb : Nat) : Int32 := if ¬ hk_open μ = 0 then 0 else if nb = 0 then 0 else if f_first (g_em (nLc μ)) 40 0 < 0 then -1 else if (g_sh (h_th μ 0) nb).1 = false then -1 else if nOf (g_c2 μ nb) = 0 then nWr (g_c2 μ nb) - nWr (g_c0 μ nb) else -2
theorem g_shL_same : ∀ n i fr μ, nKs (g_shL n i fr μ).2 = nKs μ ∧ nVs (g_shL n i fr μ).2 = nVs μ ∧ nSt (g_shL n i fr μ).2 = nSt μ ∧ ∀ k, k < i → nTs (g_shL n i fr μ).2 k = nTs μ k
  | 0, _, _, _ => ⟨rfl, rfl, rfl, fun _ _ => rfl⟩
  | n + 1, i, fr, μ => by
    rw [g_shL]
    split
    · have h := g_shL_same n (i + 1) (if g_mov (nWc μ) (nTc μ) (nKs μ i) (nVs μ i) = true then (g_tk μ i fr).toNatClampNeg + 1 else fr) (wTs μ (upd (nTs μ) i (g_tk μ i fr)))
      exact ⟨h.1, h.2.1, h.2.2.1, fun k hk => (h.2.2.2 k (by omega)).trans (pk_un (by omega))⟩
    · exact ⟨rfl, rfl, rfl, fun k hk => pk_un (by omega)⟩
/-- a share that went well names words -/
theorem g_shL_ts : ∀ n i fr μ, fr ≤ 160 → (g_shL n i fr μ).1 = true → ∀ k, i ≤ k → k < i + n → ∃ t, t < 160 ∧ nTs (g_shL n i fr μ).2 k = nI t
  | 0, _, _, _, _, _, _, _, _ => by omega
  | n + 1, i, fr, μ, hfr, h, k, h1, h2 => by
    rw [g_shL] at h ⊢
    by_cases hg : 0 ≤ g_tk μ i fr
    · rw [if_pos hg] at h ⊢
      obtain ⟨t, ht, et⟩ : ∃ t, t < 160 ∧ g_tk μ i fr = nI t := (g_take_in _ _ _ _ _ hfr).resolve_left (fun z => absurd hg (by rw [show g_tk μ i fr = -1 from z]; decide))
      have hc : (g_tk μ i fr).toNatClampNeg = t := by rw [et]; exact nI_clamp (by omega)
      by_cases hk : k = i
      · subst hk
        refine ⟨t, ht, ?_⟩
        rw [(g_shL_same n (k + 1) _ _).2.2.2 k (by omega)]
        show upd (nTs μ) k (g_tk μ k fr) k = nI t
        rw [pk_us, et]
      · exact g_shL_ts n (i + 1) _ _ (by split <;> omega) h k (by omega) (by omega)
    · rw [if_neg hg] at h
      cases h
def g_finL (b : Nat) : Nat → Nat → NS → NS
  | 0, _, μ => g_wrL μ (9 * b + 8) 3
  | n + 1, i, μ => g_finL b n (i + 1) (if g_line (nLc μ) (9 * b + i) = 0 then μ else g_perf μ (g_lwd (g_line (nLc μ) (9 * b + i))).toNatClampNeg (g_lkd (g_line (nLc μ) (9 * b + i))) (g_lvd (g_line (nLc μ) (9 * b + i))))
def g_fin (μ : NS) (b : Nat) : NS := g_finL b 8 0 μ
theorem g_finL_line (b j : Nat) (hj : j ≠ 9 * b + 8) : ∀ n i μ, g_line (nLc (g_finL b n i μ)) j = g_line (nLc μ) j
  | 0, _, μ => g_wrL_line μ _ j 3 hj
  | n + 1, i, μ => by
    rw [g_finL, g_finL_line b j hj n (i + 1) _]
    split
    · rfl
    · rw [(g_perf_same μ _ _ _).2]
theorem g_fin_line (μ : NS) (b j : Nat) (hj : j ≠ 9 * b + 8) : g_line (nLc (g_fin μ b)) j = g_line (nLc μ) j := by
  unfold g_fin
  exact g_finL_line b j hj 8 0 μ
def g_mnL : Nat → Nat → NS → NS
  | 0, _, μ => μ
  | n + 1, i, μ => g_mnL n (i + 1) (if g_line (nLc μ) (9 * i + 8) = 1 then g_fin μ i else μ)
def g_mn0 (μ : NS) : NS := mkN 0 (nWc μ) (nTc μ) (nLc μ) (nWr μ) 0 (-1) 0 (nSt μ) (nKs μ) (nVs μ) (nTs μ)
def hk_mount (μ : NS) : Int32 := if nOf μ = 0 then 1 else 0
def hs_mount (μ : NS) : NS := if nOf μ = 0 then h_th μ 1 else g_mnL 40 0 (g_mn0 μ)
def hr_mount (μ : NS) : Int32 := if nOf μ = 0 then 0 else g_cntB (fun k => decide (¬ g_pres (nTc (hs_mount μ)) (nI k) 160 < 0)) 64 0 0
/-- the lines of the notes name words -/
def g_named (lc : Nat → Int32) (b : Nat) : Prop := ∀ i, i < 8 → g_line lc (9 * b + i) = 0 ∨ ∃ w, w < 160 ∧ g_lwd (g_line lc (9 * b + i)) = nI w
theorem g_fin_named (μ : NS) (b : Nat) (h : ∀ j, j < 40 → g_named (nLc μ) j) : ∀ j, j < 40 → g_named (nLc (g_fin μ b)) j := by
  intro j hj q hq
  rw [g_fin_line μ b (9 * j + q) (by omega)]
  exact h j hj q hq
theorem g_mnL_fin (n i : Nat) (μ : NS) (h : g_line (nLc μ) (9 * i + 8) = 1) : g_mnL (n + 1) i μ = g_mnL n (i + 1) (g_fin μ i) := by rw [g_mnL, if_pos h]

