/-! what the reference's writers do to its state -/
abbrev wWc (μ : NS) (f : Nat → Int32) : NS := mkN (nTh μ) f (nTc μ) (nLc μ) (nWr μ) (nOf μ) (nUn μ) (nOp μ) (nSt μ) (nKs μ) (nVs μ) (nTs μ)
abbrev wTc (μ : NS) (f : Nat → Int32) : NS := mkN (nTh μ) (nWc μ) f (nLc μ) (nWr μ) (nOf μ) (nUn μ) (nOp μ) (nSt μ) (nKs μ) (nVs μ) (nTs μ)
abbrev wLc (μ : NS) (f : Nat → Int32) : NS := mkN (nTh μ) (nWc μ) (nTc μ) f (nWr μ) (nOf μ) (nUn μ) (nOp μ) (nSt μ) (nKs μ) (nVs μ) (nTs μ)
abbrev wTs (μ : NS) (f : Nat → Int32) : NS := mkN (nTh μ) (nWc μ) (nTc μ) (nLc μ) (nWr μ) (nOf μ) (nUn μ) (nOp μ) (nSt μ) (nKs μ) (nVs μ) f
def g_may (μ : NS) : Bool × NS :=
  if nOf μ = 0 then
    (if nUn μ = 0 then (false, mkN (nTh μ) (nWc μ) (nTc μ) (nLc μ) (nWr μ) 1 (nUn μ) (nOp μ) (nSt μ) (nKs μ) (nVs μ) (nTs μ))
     else (true, mkN (nTh μ) (nWc μ) (nTc μ) (nLc μ) (nWr μ + 1) (nOf μ) (f_dec (nUn μ)) (nOp μ) (nSt μ) (nKs μ) (nVs μ) (nTs μ)))
  else (false, μ)
def g_b1 (p : Int32) (k : Nat) : Int32 := if ((p >>> (nI k &&& 31)) &&& 1) = 1 then 1 else 0
def g_lb1 (v : Int64) (k : Nat) : Int32 := if ((v >>> ((nI k).toInt64 &&& 63)) &&& 1) = 1 then 1 else 0
def g_nW (p : Int32) (b : Nat) : Nat → Nat → NS → NS
  | 0, _, μ => μ
  | n + 1, k, μ => g_nW p b n (k + 1) (wWc μ (upd (nWc μ) (b + k) (g_b1 p k)))
def g_nWW (w : Nat) (v : Int32) : Nat → Nat → NS → NS
  | 0, _, μ => μ
  | n + 1, g, μ => g_nWW w v n (g + 1) (g_nW (g_bet (g_pat (nWc μ) w g) (g_two v g)) (24 * w + 3 * g) 3 0 μ)
def g_wrW (μ : NS) (w : Nat) (v : Int32) : NS := if ¬ nOf μ = 0 then μ else if g_val (nWc μ) w = v then μ else if (g_may μ).1 = true then g_nWW w v 8 0 (g_may μ).2 else (g_may μ).2
def g_nT (x : Int32) (w : Nat) : Nat → Nat → NS → NS
  | 0, _, μ => μ
  | n + 1, k, μ => g_nT x w n (k + 1) (wTc μ (upd (nTc μ) (8 * w + k) (g_b1 x k)))
def g_wrT (μ : NS) (w : Nat) (key : Int32) : NS := if ¬ nOf μ = 0 then μ else if g_tag (nTc μ) w = key + 128 then μ else if (g_may μ).1 = true then g_nT (key + 128) w 8 0 (g_may μ).2 else (g_may μ).2
def g_nL (x : Int64) (b : Nat) : Nat → Nat → NS → NS
  | 0, _, μ => μ
  | n + 1, k, μ => g_nL x b n (k + 1) (wLc μ (upd (nLc μ) (32 * b + k) (g_lb1 x k)))
def g_wrL (μ : NS) (b : Nat) (v : Int64) : NS := if ¬ nOf μ = 0 then μ else if (g_may μ).1 = true then g_nL v b 32 0 (g_may μ).2 else (g_may μ).2
def g_perf (μ : NS) (w : Nat) (key v : Int32) : NS := g_wrT (g_wrW μ w v) w key

