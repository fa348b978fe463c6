/-! the two sides' words as numbers: digits, bits -/
abbrev uI (x : Int32) : Nat := x.toBitVec.toNat
theorem uI_lt (x : Int32) : uI x < 2 ^ 32 := x.toBitVec.isLt
theorem nI_u (x : Int32) : nI (uI x) = x := Int32.toBitVec_inj.mp (by show BitVec.ofNat 32 _ = _; simp)
theorem u_nI {n : Nat} (h : n < 2 ^ 32) : uI (nI n) = n := pk_tn h
theorem nI_inj {a b : Nat} (ha : a < 2 ^ 32) (hb : b < 2 ^ 32) (h : nI a = nI b) : a = b := by rw [← u_nI ha, ← u_nI hb, h]
theorem bt_u (x : Int32) (k : Nat) : bt x k = (uI x).testBit k := rfl
theorem nx_or (a b : Nat) : nI a ||| nI b = nI (a ||| b) := by
  apply Int32.toBitVec_inj.1
  show BitVec.ofNat 32 a ||| BitVec.ofNat 32 b = BitVec.ofNat 32 (a ||| b)
  apply BitVec.eq_of_getLsbD_eq
  intro i hi
  simp [hi]
theorem nx_orp {a m s : Nat} (h : a < 2 ^ s) : nI a ||| nI (m * 2 ^ s) = nI (a + m * 2 ^ s) := by
  rw [nx_or, Nat.or_comm, ← Nat.shiftLeft_eq, ← Nat.shiftLeft_add_eq_or_of_lt h, Nat.add_comm]
theorem uS_u (x : Int32) {s : Nat} (hs : s < 32) : uI (uS x (nI s)) = uI x / 2 ^ s := pk_ushr x (nI s) s (s_u s hs)
theorem uS_n {n s : Nat} (hn : n < 2 ^ 32) (hs : s < 32) : uS (nI n) (nI s) = nI (n / 2 ^ s) := pk_ushrN hn (nI s) s (s_u s hs)
theorem n_mod_succ (x i : Nat) : x % 2 ^ (i + 1) = x % 2 ^ i + 2 ^ i * (x.testBit i).toNat := by rw [Nat.pow_succ, Nat.mod_mul, Nat.toNat_testBit]
theorem g_bit_b : ∀ k, k < 31 → ∀ b : Bool, g_bit (bI b) k = nI (2 ^ k * b.toNat) := by decide +kernel
theorem g_lbit_b : ∀ k, k < 32 → ∀ b : Bool, g_lbit (bI b) k = lN (2 ^ k * b.toNat) := by decide +kernel
/-- a digit of b bits -/
def dg (b u g : Nat) : Nat := u / 2 ^ (b * g) % 2 ^ b
theorem dg_lt (b u g : Nat) : dg b u g < 2 ^ b := Nat.mod_lt _ (Nat.two_pow_pos b)
theorem dg_bit {b u g k : Nat} (h : k < b) : (dg b u g).testBit k = u.testBit (b * g + k) := by
  unfold dg
  rw [Nat.testBit_mod_two_pow, ← Nat.shiftRight_eq_div_pow, Nat.testBit_shiftRight]
  simp [h]
def cat (b : Nat) (f : Nat → Nat) : Nat → Nat
  | 0 => 0
  | n + 1 => cat b f n + f n * 2 ^ (b * n)
theorem cat_lt {b : Nat} {f : Nat → Nat} : ∀ n, (∀ g, g < n → f g < 2 ^ b) → cat b f n < 2 ^ (b * n)
  | 0, _ => by show 0 < 2 ^ (b * 0); exact Nat.two_pow_pos _
  | n + 1, h => by
    have h1 := cat_lt n (fun g hg => h g (by omega))
    have h2 := h n (by omega)
    have e : 2 ^ (b * (n + 1)) = 2 ^ b * 2 ^ (b * n) := by rw [Nat.mul_add, Nat.mul_one, Nat.pow_add, Nat.mul_comm]
    have h3 : (f n + 1) * 2 ^ (b * n) ≤ 2 ^ b * 2 ^ (b * n) := Nat.mul_le_mul_right _ h2
    rw [Nat.add_mul, Nat.one_mul] at h3
    show cat b f n + f n * 2 ^ (b * n) < _
    omega
theorem cat_dg {b : Nat} {f : Nat → Nat} : ∀ n, (∀ g, g < n → f g < 2 ^ b) → ∀ g, g < n → dg b (cat b f n) g = f g
  | 0, _, g, hg => by omega
  | n + 1, h, g, hg => by
    have h1 := cat_lt n (fun g hg => h g (by omega))
    have h2 := h n (by omega)
    unfold dg
    show (cat b f n + f n * 2 ^ (b * n)) / 2 ^ (b * g) % 2 ^ b = f g
    by_cases e : g = n
    · subst e
      rw [Nat.add_mul_div_right _ _ (Nat.two_pow_pos _), Nat.div_eq_of_lt h1, Nat.zero_add, Nat.mod_eq_of_lt h2]
    · have e2 : 2 ^ (b * n) = 2 ^ b * 2 ^ (b * (n - g - 1)) * 2 ^ (b * g) := by
        rw [← Nat.pow_add, ← Nat.pow_add]
        congr 1
        have hd : n - g - 1 + 1 + g = n := by omega
        have e3 : b * (n - g - 1 + 1 + g) = b + b * (n - g - 1) + b * g := by rw [Nat.mul_add, Nat.mul_add, Nat.mul_one]; omega
        rw [hd] at e3
        exact e3
      have := cat_dg n (fun g hg => h g (by omega)) g (by omega)
      unfold dg at this
      rw [e2, show f n * (2 ^ b * 2 ^ (b * (n - g - 1)) * 2 ^ (b * g)) = (2 ^ b * (f n * 2 ^ (b * (n - g - 1)))) * 2 ^ (b * g) by rw [Nat.mul_assoc, Nat.mul_left_comm, Nat.mul_assoc, Nat.mul_assoc], Nat.add_mul_div_right _ _ (Nat.two_pow_pos _), Nat.add_mul_mod_self_left, this]
theorem cat_of (b u : Nat) : ∀ n, cat b (dg b u) n = u % 2 ^ (b * n)
  | 0 => by show 0 = u % 2 ^ (b * 0); rw [Nat.mul_zero, Nat.pow_zero, Nat.mod_one]
  | n + 1 => by
    show cat b (dg b u) n + dg b u n * 2 ^ (b * n) = _
    rw [cat_of b u n, Nat.mul_add, Nat.mul_one, Nat.pow_add, Nat.mod_mul, dg, Nat.mul_comm (2 ^ (b * n))]
theorem cat_ext {b : Nat} {f f' : Nat → Nat} : ∀ n, (∀ g, g < n → f g = f' g) → cat b f n = cat b f' n
  | 0, _ => rfl
  | n + 1, h => by
    show cat b f n + f n * _ = cat b f' n + f' n * _
    rw [cat_ext n (fun g hg => h g (by omega)), h n (by omega)]
/-- numbers of n digits are alike where their digits are -/
theorem dg_ext {b n u w : Nat} (hu : u < 2 ^ (b * n)) (hw : w < 2 ^ (b * n)) (h : ∀ g, g < n → dg b u g = dg b w g) : u = w := by
  have e := cat_ext (b := b) n h
  rwa [cat_of, cat_of, Nat.mod_eq_of_lt hu, Nat.mod_eq_of_lt hw] at e
/-! groups -/
def mN (j : Nat) : Nat := if j = 1 ∨ j = 6 then 1 else if j = 2 ∨ j = 5 then 2 else if j = 4 ∨ j = 3 then 3 else 0
def sN (t : Nat) : Nat := if t = 0 then 0 else 2 ^ (t - 1)
def pN (j t : Nat) : Nat := if j &&& sN t = j then sN t else if j &&& (7 - sN t) = j then 7 - sN t else 8
def pI (p : Nat) : Int32 := if p = 8 then -1 else nI p
theorem mg_n : ∀ j, j < 8 → f_mg (nI j) = nI (mN j) := by decide +kernel
theorem mean_n : ∀ j, j < 8 → g_mean (nI j) = nI (mN j) := by decide +kernel
theorem mN_lt : ∀ j, j < 8 → mN j < 4 := by decide +kernel
theorem pg_n : ∀ j, j < 8 → ∀ t, t < 4 → f_pg (nI j) (nI t) = pI (pN j t) := by decide +kernel
theorem bet_n : ∀ j, j < 8 → ∀ t, t < 4 → g_bet (nI j) (nI t) = pI (pN j t) := by decide +kernel
theorem pN_le : ∀ j, j < 8 → ∀ t, t < 4 → pN j t ≤ 8 := by decide +kernel
theorem pN_m : ∀ j, j < 8 → ∀ t, t < 4 → pN j t ≠ 8 → (pN j t = j ↔ mN j = t) := by decide +kernel
theorem pN_sup : ∀ j, j < 8 → ∀ t, t < 4 → pN j t ≠ 8 → ∀ k, k < 3 → j.testBit k = true → (pN j t).testBit k = true := by decide +kernel
theorem pN_idem : ∀ j, j < 8 → ∀ t, t < 4 → pN j t ≠ 8 → pN (pN j t) t = pN j t := by decide +kernel
theorem pN_0 : ∀ t, t < 4 → pN 0 t ≠ 8 := by decide +kernel
theorem pI_0 : ∀ p, p ≤ 8 → (0 ≤ pI p ↔ p ≠ 8) := by decide +kernel
theorem pI_1 : ∀ p, p ≤ 8 → (pI p = -1 ↔ p = 8) := by decide +kernel
theorem pI_b : ∀ p, p < 8 → ∀ k, k < 3 → g_b1 (pI p) k = bI (p.testBit k) := by decide +kernel
/-- the pattern that a word takes for a value, group by group -/
def gP (c v g : Nat) : Nat := pN (dg 3 c g) (dg 2 v g)
def comN (c v : Nat) : Prop := ∀ g, g < 8 → gP c v g ≠ 8
def patN (c v : Nat) : Nat := cat 3 (gP c v) 8
def valN (c : Nat) : Nat := cat 2 (fun g => mN (dg 3 c g)) 8
theorem gP_le (c v g : Nat) : gP c v g ≤ 8 := pN_le _ (dg_lt 3 c g) _ (dg_lt 2 v g)
theorem gP_lt {c v : Nat} (h : comN c v) (g : Nat) (hg : g < 8) : gP c v g < 2 ^ 3 := by
  have := gP_le c v g
  have := h g hg
  show _ < 8
  omega
theorem patN_lt {c v : Nat} (h : comN c v) : patN c v < 2 ^ 24 := cat_lt 8 (gP_lt h)
theorem patN_dg {c v : Nat} (h : comN c v) (g : Nat) (hg : g < 8) : dg 3 (patN c v) g = gP c v g := cat_dg 8 (gP_lt h) g hg
theorem valN_lt (c : Nat) : valN c < 2 ^ 16 := cat_lt 8 (fun g _ => mN_lt _ (dg_lt 3 c g))
theorem valN_dg (c g : Nat) (hg : g < 8) : dg 2 (valN c) g = mN (dg 3 c g) := cat_dg (b := 2) (f := fun g => mN (dg 3 c g)) 8 (fun g _ => mN_lt _ (dg_lt 3 c g)) g hg
theorem com_idem {c v : Nat} (h : comN c v) : comN (patN c v) v := fun g hg => by
  unfold gP
  rw [patN_dg h g hg]
  show pN (pN _ _) _ ≠ 8
  rw [pN_idem _ (dg_lt 3 c g) _ (dg_lt 2 v g) (h g hg)]
  exact h g hg
theorem com_0 (v : Nat) : comN 0 v := fun g _ => by
  unfold gP
  rw [show dg 3 0 g = 0 by unfold dg; rw [Nat.zero_div]]
  exact pN_0 _ (dg_lt 2 v g)
/-- nothing is set just where the word stands for the value -/
theorem patN_val {c v : Nat} (h : comN c v) (hc : c < 2 ^ 24) (hv : v < 2 ^ 16) : patN c v = c ↔ valN c = v := by
  constructor
  · intro e
    refine dg_ext (b := 2) (n := 8) (valN_lt c) hv (fun g hg => ?_)
    rw [valN_dg c g hg]
    refine (pN_m _ (dg_lt 3 c g) _ (dg_lt 2 v g) (h g hg)).mp ?_
    have := patN_dg h g hg
    rw [e] at this
    exact this.symm
  · intro e
    refine dg_ext (b := 3) (n := 8) (patN_lt h) hc (fun g hg => ?_)
    rw [patN_dg h g hg]
    refine (pN_m _ (dg_lt 3 c g) _ (dg_lt 2 v g) (h g hg)).mpr ?_
    rw [← valN_dg c g hg, e]
theorem patN_sup {c v : Nat} (h : comN c v) (hc : c < 2 ^ 24) : c ||| patN c v = patN c v := by
  apply Nat.eq_of_testBit_eq
  intro i
  rw [Nat.testBit_or]
  rcases Nat.lt_or_ge i 24 with hi | hi
  · cases hb : c.testBit i
    · exact Bool.false_or _
    · have e : i = 3 * (i / 3) + i % 3 := by omega
      have h1 : (dg 3 c (i / 3)).testBit (i % 3) = true := by rw [dg_bit (by omega), ← e, hb]
      have h2 := pN_sup _ (dg_lt 3 c (i / 3)) _ (dg_lt 2 v (i / 3)) (h (i / 3) (by omega)) (i % 3) (by omega) h1
      have h3 := patN_dg h (i / 3) (by omega)
      have h4 : (dg 3 (patN c v) (i / 3)).testBit (i % 3) = (patN c v).testBit i := by rw [dg_bit (by omega), ← e]
      rw [← h4, h3]
      exact h2.symm
  · rw [Nat.testBit_lt_two_pow (Nat.lt_of_lt_of_le hc (Nat.pow_le_pow_right (by decide) hi))]
    exact Bool.false_or _
/-! the class's words over these numbers -/
theorem pk_andU (x : Int32) {m : Int32} (k : Nat) (hm : m.toBitVec.toNat = 2 ^ k - 1) : x &&& m = nI (uI x % 2 ^ k) := pk_and x k hm
theorem f_grp_n (c : Int32) : ∀ i, i < 8 → f_grp c i = nI (dg 3 (uI c) i) := by
  intro i hi
  unfold f_grp dg
  rw [show (3 : Int32) * nI i = nI (3 * i) from pk_mul 3 i, pk_andU _ 3 (by decide), uS_u c (by omega)]
theorem f_two_n (v : Int32) : ∀ i, i < 8 → f_two v i = nI (dg 2 (uI v) i) := by
  intro i hi
  unfold f_two dg
  rw [show (2 : Int32) * nI i = nI (2 * i) from pk_mul 2 i, pk_andU _ 2 (by decide), uS_u v (by omega)]
theorem g_two_n {n : Nat} (hn : n < 2 ^ 31) : ∀ i, i < 8 → g_two (nI n) i = nI (dg 2 n i) := by
  intro i hi
  unfold g_two dg
  have hl : n / 2 ^ (2 * i) ≤ n := Nat.div_le_self _ _
  rw [show (2 : Int32) * nI i = nI (2 * i) from pk_mul 2 i, pk_shrN hn _ (2 * i) (s_l _ (by omega)), pk_andN (by omega) 2 (by decide)]
theorem shl_n {m k : Nat} (hk : k < 32) (h : m * 2 ^ k < 2 ^ 32) : nI m <<< (nI k &&& 31) = nI (m * 2 ^ k) := pk_shlN _ k (s_l k hk) h
theorem mul_lt_pow {m b i : Nat} (h : m < 2 ^ b) (hb : b * (i + 1) ≤ 32) : m * 2 ^ (b * i) < 2 ^ 32 := by
  have h1 : (m + 1) * 2 ^ (b * i) ≤ 2 ^ b * 2 ^ (b * i) := Nat.mul_le_mul_right _ h
  rw [← Nat.pow_add, Nat.add_mul] at h1
  have h2 : 2 ^ (b + b * i) ≤ 2 ^ 32 := Nat.pow_le_pow_right (by decide) (by rw [Nat.mul_add] at hb; omega)
  have h3 := Nat.two_pow_pos (b * i)
  omega
theorem f_mw_L (c : Int32) : ∀ n i, i + n ≤ 8 → f_mwL c n i (nI (cat 2 (fun g => mN (dg 3 (uI c) g)) i)) = nI (cat 2 (fun g => mN (dg 3 (uI c) g)) (i + n))
  | 0, _, _ => rfl
  | n + 1, i, h => by
    rw [f_mwL, f_grp_n c i (by omega), mg_n _ (dg_lt 3 _ i), show (2 : Int32) * nI i = nI (2 * i) from pk_mul 2 i,
      shl_n (by omega) (mul_lt_pow (b := 2) (mN_lt _ (dg_lt 3 _ i)) (by omega)), nx_orp (cat_lt i (fun g _ => mN_lt _ (dg_lt 3 _ g)))]
    have := f_mw_L c n (i + 1) (by omega)
    rw [show i + (n + 1) = i + 1 + n by omega]
    exact this
theorem f_mw_n (c : Int32) : f_mw c = nI (valN (uI c)) := f_mw_L c 8 0 (by omega)
theorem f_pw_L {c v : Int32} : ∀ n i, i + n ≤ 8 → (∀ g, g < i → gP (uI c) (uI v) g < 2 ^ 3) → f_pwL c v n i (nI (cat 3 (gP (uI c) (uI v)) i)) = (if ∀ g, g < i + n → i ≤ g → gP (uI c) (uI v) g ≠ 8 then nI (cat 3 (gP (uI c) (uI v)) (i + n)) else -1)
  | 0, i, _, _ => by rw [if_pos (fun g h1 h2 => by omega)]; rfl
  | n + 1, i, h, hl => by
    rw [f_pwL, f_grp_n c i (by omega), f_two_n v i (by omega), pg_n _ (dg_lt 3 _ i) _ (dg_lt 2 _ i)]
    show (if pI (gP (uI c) (uI v) i) = -1 then -1 else f_pwL c v n (i + 1) (nI (cat 3 (gP (uI c) (uI v)) i) ||| (pI (gP (uI c) (uI v) i) <<< ((3 * nI i) &&& 31)))) = _
    by_cases e : gP (uI c) (uI v) i = 8
    · rw [if_pos ((pI_1 _ (gP_le _ _ _)).mpr e), if_neg (fun z => z i (by omega) (by omega) e)]
    · have hlt : gP (uI c) (uI v) i < 2 ^ 3 := by
        have := gP_le (uI c) (uI v) i
        show _ < 8
        omega
      rw [if_neg (fun z => e ((pI_1 _ (gP_le _ _ _)).mp z)), show pI (gP (uI c) (uI v) i) = nI (gP (uI c) (uI v) i) from if_neg e, show (3 : Int32) * nI i = nI (3 * i) from pk_mul 3 i,
        shl_n (by omega) (mul_lt_pow (b := 3) hlt (by omega)), nx_orp (cat_lt i hl)]
      have := f_pw_L (c := c) (v := v) n (i + 1) (by omega) (fun g hg => by
        by_cases e2 : g = i
        · rw [e2]; exact hlt
        · exact hl g (by omega))
      rw [show i + (n + 1) = i + 1 + n by omega]
      refine Eq.trans this ?_
      by_cases z : ∀ g, g < i + 1 + n → i + 1 ≤ g → gP (uI c) (uI v) g ≠ 8
      · rw [if_pos z, if_pos (fun g h1 h2 => by
          by_cases e2 : g = i
          · rw [e2]; exact e
          · exact z g h1 (by omega))]
      · rw [if_neg z, if_neg (fun y => z (fun g h1 h2 => y g h1 (by omega)))]
theorem f_pw_y {c v : Int32} (h : comN (uI c) (uI v)) : f_pw c v = nI (patN (uI c) (uI v)) := by
  have := f_pw_L (c := c) (v := v) 8 0 (by omega) (fun g hg => by omega)
  rw [if_pos (fun g h1 _ => h g (by omega))] at this
  exact this
theorem f_pw_no {c v : Int32} (h : ¬ comN (uI c) (uI v)) : f_pw c v = -1 := by
  have := f_pw_L (c := c) (v := v) 8 0 (by omega) (fun g hg => by omega)
  rw [if_neg (fun z => h (fun g hg => z g (by omega) (by omega)))] at this
  exact this
theorem f_pw_iff {c v : Int32} : f_pw c v = -1 ↔ ¬ comN (uI c) (uI v) := by
  by_cases h : comN (uI c) (uI v)
  · rw [f_pw_y h]
    refine ⟨fun z => ?_, fun z => absurd h z⟩
    have h1 := patN_lt h
    have h2 : uI (nI (patN (uI c) (uI v))) = patN (uI c) (uI v) := u_nI (by omega)
    rw [z] at h2
    have h3 : uI (-1) = 4294967295 := by decide
    omega
  · exact ⟨fun _ => h, fun _ => f_pw_no h⟩
/-! the reference's words over these numbers -/
theorem g_pat_L {wc : Nat → Int32} {w g u : Nat} : ∀ n i, i + n ≤ 3 → (∀ k, k < 3 → wc (24 * w + 3 * g + k) = bI (u.testBit (3 * g + k))) → g_patL wc w g n i (nI ((u / 2 ^ (3 * g)) % 2 ^ i)) = nI ((u / 2 ^ (3 * g)) % 2 ^ (i + n))
  | 0, _, _, _ => rfl
  | n + 1, i, h, hk => by
    have e : u.testBit (3 * g + i) = (u / 2 ^ (3 * g)).testBit i := by rw [← Nat.shiftRight_eq_div_pow, Nat.testBit_shiftRight]
    rw [g_patL, hk i (by omega), e, g_bit_b i (by omega), nI_add, ← n_mod_succ]
    have := g_pat_L (wc := wc) (w := w) (g := g) (u := u) n (i + 1) (by omega) hk
    rw [show i + (n + 1) = i + 1 + n by omega]
    exact this
theorem g_pat_n {wc : Nat → Int32} {w g u : Nat} (hk : ∀ k, k < 3 → wc (24 * w + 3 * g + k) = bI (u.testBit (3 * g + k))) : g_pat wc w g = nI (dg 3 u g) := by
  have := g_pat_L (wc := wc) (w := w) (g := g) (u := u) 3 0 (by omega) hk
  rw [Nat.pow_zero, Nat.mod_one] at this
  exact this
/-- the word w of the reference is the number u -/
abbrev wdN (wc : Nat → Int32) (w u : Nat) : Prop := ∀ k, k < 24 → wc (24 * w + k) = bI (u.testBit k)
theorem wd_pat {wc : Nat → Int32} {w u : Nat} (h : wdN wc w u) (g : Nat) (hg : g < 8) : g_pat wc w g = nI (dg 3 u g) :=
  g_pat_n (fun k hk => by rw [show 24 * w + 3 * g + k = 24 * w + (3 * g + k) by omega]; exact h (3 * g + k) (by omega))
theorem g_val_L {wc : Nat → Int32} {w u : Nat} (h : wdN wc w u) : ∀ n i, i + n ≤ 8 → g_valL wc w n i (nI (cat 2 (fun g => mN (dg 3 u g)) i)) = nI (cat 2 (fun g => mN (dg 3 u g)) (i + n))
  | 0, _, _ => rfl
  | n + 1, i, hi => by
    rw [g_valL, wd_pat h i (by omega), mean_n _ (dg_lt 3 _ i), show (2 : Int32) * nI i = nI (2 * i) from pk_mul 2 i,
      shl_n (by omega) (mul_lt_pow (b := 2) (mN_lt _ (dg_lt 3 _ i)) (by omega)), nI_add]
    have := g_val_L h n (i + 1) (by omega)
    rw [show i + (n + 1) = i + 1 + n by omega]
    exact this
theorem g_val_n {wc : Nat → Int32} {w u : Nat} (h : wdN wc w u) : g_val wc w = nI (valN u) := g_val_L h 8 0 (by omega)
theorem g_com_L {wc : Nat → Int32} {w u v : Nat} (h : wdN wc w u) (hv : v < 2 ^ 31) : ∀ n i, i + n ≤ 8 → (g_comL wc w (nI v) n i = true ↔ ∀ g, i ≤ g → g < i + n → gP u v g ≠ 8)
  | 0, i, _ => ⟨fun _ g h1 h2 => by omega, fun _ => rfl⟩
  | n + 1, i, hi => by
    rw [g_comL, wd_pat h i (by omega), g_two_n hv i (by omega), bet_n _ (dg_lt 3 _ i) _ (dg_lt 2 _ i)]
    show (if 0 ≤ pI (gP u v i) then g_comL wc w (nI v) n (i + 1) else false) = true ↔ _
    by_cases e : gP u v i = 8
    · rw [if_neg (fun z => (pI_0 _ (gP_le _ _ _)).mp z e)]
      exact ⟨fun z => (Bool.noConfusion z), fun z => absurd e (z i (by omega) (by omega))⟩
    · rw [if_pos ((pI_0 _ (gP_le _ _ _)).mpr e), g_com_L h hv n (i + 1) (by omega)]
      refine ⟨fun z g h1 h2 => ?_, fun z g h1 h2 => z g (by omega) (by omega)⟩
      by_cases e2 : g = i
      · rw [e2]; exact e
      · exact z g (by omega) (by omega)
theorem g_com_n {wc : Nat → Int32} {w u v : Nat} (h : wdN wc w u) (hv : v < 2 ^ 31) : g_com wc w (nI v) = true ↔ comN u v :=
  (g_com_L h hv 8 0 (by omega)).trans ⟨fun z g hg => z g (by omega) (by omega), fun z g _ hg => z g (by omega)⟩
theorem g_fr_L {wc : Nat → Int32} {w u : Nat} (h : wdN wc w u) : ∀ n i b, i + n ≤ 8 → (g_frL wc w n i b = true ↔ b = true ∧ ∀ g, i ≤ g → g < i + n → dg 3 u g = 0)
  | 0, i, b, _ => ⟨fun z => ⟨z, fun g h1 h2 => by omega⟩, fun z => z.1⟩
  | n + 1, i, b, hi => by
    rw [g_frL, wd_pat h i (by omega), g_fr_L h n (i + 1) _ (by omega), Bool.and_eq_true, decide_eq_true_eq]
    have hd := dg_lt 3 u i
    have e0 : nI (dg 3 u i) = 0 ↔ dg 3 u i = 0 := by
      rw [← nI_0]
      exact nI_eq (by omega) (by decide)
    rw [e0]
    refine ⟨fun z => ⟨z.1.1, fun g h1 h2 => ?_⟩, fun z => ⟨⟨z.1, z.2 i (by omega) (by omega)⟩, fun g h1 h2 => z.2 g (by omega) (by omega)⟩⟩
    by_cases e2 : g = i
    · rw [e2]; exact z.1.2
    · exact z.2 g (by omega) (by omega)
theorem g_fr_n {wc tc : Nat → Int32} {w u : Nat} (h : wdN wc w u) (hu : u < 2 ^ 24) : g_fr wc tc w = true ↔ g_tag tc w = 0 ∧ u = 0 := by
  unfold g_fr
  rw [g_fr_L h 8 0 _ (by omega), decide_eq_true_eq]
  refine ⟨fun z => ⟨z.1, ?_⟩, fun z => ⟨z.1, fun g _ _ => ?_⟩⟩
  · refine dg_ext (b := 3) (n := 8) hu (by decide) (fun g hg => ?_)
    rw [z.2 g (by omega) (by omega)]
    unfold dg
    rw [Nat.zero_div, Nat.zero_mod]
  · rw [z.2]
    unfold dg
    rw [Nat.zero_div, Nat.zero_mod]
abbrev tgN (tc : Nat → Int32) (w u : Nat) : Prop := ∀ k, k < 8 → tc (8 * w + k) = bI (u.testBit k)
theorem g_tag_L {tc : Nat → Int32} {w u : Nat} (h : tgN tc w u) : ∀ n i, i + n ≤ 8 → g_tagL tc w n i (nI (u % 2 ^ i)) = nI (u % 2 ^ (i + n))
  | 0, _, _ => rfl
  | n + 1, i, hi => by
    rw [g_tagL, h i (by omega), g_bit_b i (by omega), nI_add, ← n_mod_succ]
    have := g_tag_L h n (i + 1) (by omega)
    rw [show i + (n + 1) = i + 1 + n by omega]
    exact this
theorem g_tag_n {tc : Nat → Int32} {w u : Nat} (h : tgN tc w u) (hu : u < 2 ^ 8) : g_tag tc w = nI u := by
  have := g_tag_L h 8 0 (by omega)
  rw [Nat.pow_zero, Nat.mod_one, Nat.mod_eq_of_lt hu] at this
  exact this
abbrev lnN (lc : Nat → Int32) (w u : Nat) : Prop := ∀ k, k < 32 → lc (32 * w + k) = bI (u.testBit k)
theorem g_line_L {lc : Nat → Int32} {w u : Nat} (h : lnN lc w u) : ∀ n i, i + n ≤ 32 → g_lineL lc w n i (lN (u % 2 ^ i)) = lN (u % 2 ^ (i + n))
  | 0, _, _ => rfl
  | n + 1, i, hi => by
    rw [g_lineL, h i (by omega), g_lbit_b i (by omega), lN_add, ← n_mod_succ]
    have := g_line_L h n (i + 1) (by omega)
    rw [show i + (n + 1) = i + 1 + n by omega]
    exact this
theorem g_line_n {lc : Nat → Int32} {w u : Nat} (h : lnN lc w u) (hu : u < 2 ^ 32) : g_line lc w = lN u := by
  have := g_line_L h 32 0 (by omega)
  rw [Nat.pow_zero, Nat.mod_one, Nat.mod_eq_of_lt hu] at this
  exact this
