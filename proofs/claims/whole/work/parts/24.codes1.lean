/-! what the reference's calls answer and do -/
abbrev h_th (μ : NS) (x : Int32) : NS := mkN x (nWc μ) (nTc μ) (nLc μ) (nWr μ) (nOf μ) (nUn μ) (nOp μ) (nSt μ) (nKs μ) (nVs μ) (nTs μ)
theorem g_take_in (wc tc : Nat → Int32) (key v : Int32) (fr : Nat) (hfr : fr ≤ 160) : g_take wc tc key v fr = -1 ∨ ∃ k, k < 160 ∧ g_take wc tc key v fr = nI k := by
  unfold g_take
  split
  · rcases g_pres_in tc key 160 (Nat.le_refl _) with h | ⟨k, h1, h2, -⟩
    · exact Or.inl h
    · exact Or.inr ⟨k, h1, h2⟩
  · rcases f_first_in (g_fr wc tc) (160 - fr) fr with h | ⟨k, h1, h2, h3, -⟩
    · exact Or.inl h
    · exact Or.inr ⟨k, by omega, h3⟩
def hk_put (μ : NS) (key v : Int32) : Int32 := if k_args key v = false then 1 else if ¬ nOf μ = 0 ∨ ¬ nOp μ = 0 then 2 else 0
def hs_put (μ : NS) (key v : Int32) : NS := if ¬ hk_put μ key v = 0 then h_th μ (hk_put μ key v) else if 0 ≤ g_take (nWc μ) (nTc μ) key v 0 then g_perf (h_th μ (hk_put μ key v)) (g_take (nWc μ) (nTc μ) key v 0).toNatClampNeg key v else h_th μ (hk_put μ key v)
def hr_put (μ : NS) (key v : Int32) : Int32 := if ¬ hk_put μ key v = 0 then 0 else if 0 ≤ g_take (nWc μ) (nTc μ) key v 0 then (if nOf (hs_put μ key v) = 0 then nWr (hs_put μ key v) - nWr μ else -2) else -1
def hk_get (μ : NS) (key : Int32) : Int32 := if f_below key 64 = false then 1 else if ¬ nOf μ = 0 then 2 else 0
def hr_get (μ : NS) (key : Int32) : Int32 := if ¬ hk_get μ key = 0 then 0 else if 0 ≤ g_pres (nTc μ) key 160 then g_val (nWc μ) (g_pres (nTc μ) key 160).toNatClampNeg else -1
def hk_wm (μ : NS) (key v : Int32) : Int32 := if k_args key v = false then 1 else if ¬ nOf μ = 0 then 2 else 0
def hr_wm (μ : NS) (key v : Int32) : Bool := decide (hk_wm μ key v = 0) && g_mov (nWc μ) (nTc μ) key v
def hk_begin (μ : NS) : Int32 := if ¬ nOf μ = 0 ∨ ¬ nOp μ = 0 then 1 else 0
def hs_begin (μ : NS) : NS := if hk_begin μ = 0 then mkN 0 (nWc μ) (nTc μ) (nLc μ) (nWr μ) (nOf μ) (nUn μ) 1 0 (nKs μ) (nVs μ) (nTs μ) else h_th μ (hk_begin μ)
def g_sta (μ : NS) (key : Int32) (nb : Nat) : Bool := if nOp μ = 0 then false else g_isSt (nKs μ) key nb 0 false
def hk_stage (μ : NS) (nb : Nat) (key v : Int32) : Int32 := if k_args key v = false ∨ g_sta μ key nb = true then 1 else if ¬ nOf μ = 0 ∨ nOp μ = 0 ∨ nb = 8 then 2 else 0
def hs_stage (μ : NS) (nb : Nat) (key v : Int32) : NS := if hk_stage μ nb key v = 0 then mkN 0 (nWc μ) (nTc μ) (nLc μ) (nWr μ) (nOf μ) (nUn μ) (nOp μ) (nI (nb + 1)) (upd (nKs μ) nb key) (upd (nVs μ) nb v) (nTs μ) else h_th μ (hk_stage μ nb key v)
def hr_stage (μ : NS) (nb : Nat) (key v : Int32) : Int32 := if hk_stage μ nb key v = 0 then nI (nb + 1) else 0
def hk_open (μ : NS) : Int32 := if ¬ nOf μ = 0 ∨ nOp μ = 0 then 1 else 0
def hs_ab (μ : NS) : NS := if hk_open μ = 0 then mkN 0 (nWc μ) (nTc μ) (nLc μ) (nWr μ) (nOf μ) (nUn μ) 0 (nSt μ) (nKs μ) (nVs μ) (nTs μ) else h_th μ (hk_open μ)
def hr_ab (μ : NS) : Int32 := if hk_open μ = 0 then nSt μ else 0
def g_tk (μ : NS) (i fr : Nat) : Int32 := g_take (nWc μ) (nTc μ) (nKs μ i) (nVs μ i) fr
def g_shL : Nat → Nat → Nat → NS → Bool × NS
  | 0, _, _, μ => (true, μ)
  | n + 1, i, fr, μ => if 0 ≤ g_tk μ i fr then g_shL n (i + 1) (if g_mov (nWc μ) (nTc μ) (nKs μ i) (nVs μ i) = true then (g_tk μ i fr).toNatClampNeg + 1 else fr) (wTs μ (upd (nTs μ) i (g_tk μ i fr))) else (false, wTs μ (upd (nTs μ) i (g_tk μ i fr)))
def g_sh (μ : NS) (nb : Nat) : Bool × NS := g_shL nb 0 0 μ
def hk_fail (μ : NS) (x : Int32) : Int32 := if x < -1 ∨ ¬ x ≤ 1000 then 1 else if ¬ nOf μ = 0 then 2 else 0
def hs_fail (μ : NS) (x : Int32) : NS := if hk_fail μ x = 0 then mkN 0 (nWc μ) (nTc μ) (nLc μ) (nWr μ) (nOf μ) x (nOp μ) (nSt μ) (nKs μ) (nVs μ) (nTs μ) else h_th μ (hk_fail μ x)
def hk_words (key : Int32) : Int32 := if f_below key 64 = true then 0 else 1
def hr_words (μ : NS) (key : Int32) : Int32 := if hk_words key = 0 then g_cntB (fun w => decide (g_tag (nTc μ) w = key + 128)) 160 0 0 else 0
def g_hisL (μ : NS) (key : Int32) : Nat → Nat → Int32 → Int32 × Int32
  | 0, _, _ => (0, 2)
  | n + 1, w, l => if g_tag (nTc μ) w = key + 128 then (if l = 0 then (g_val (nWc μ) w, 0) else g_hisL μ key n (w + 1) (l + (-1))) else g_hisL μ key n (w + 1) l
def g_his (μ : NS) (key j : Int32) : Int32 × Int32 := if f_below key 64 = true then (if j < 0 then (0, 2) else g_hisL μ key 160 0 j) else (0, 1)
def hk_left (x : Int32) : Int32 := if x.toInt < 0 ∨ 3 < x.toInt then 1 else 0
def hr_left (μ : NS) (x : Int32) : Int32 := if x = 0 then g_cntB (g_fr (nWc μ) (nTc μ)) 160 0 0 else if x = 1 then g_cntB (g_em (nLc μ)) 40 0 0 else if x = 2 then (g_cnt (nWc μ) 3840 0 0 + g_cnt (nTc μ) 1280 0 0) + g_cnt (nLc μ) 11520 0 0 else if x = 3 then nWr μ else 0

