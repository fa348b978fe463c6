/-! the reference's state and what its readers answer -/
abbrev NS : Type := (Nat → Int32) × (Nat → Int32) × (Nat → Int32) × (Int32 × Int32 × Int32 × Int32 × Int32 × Int32) × ((Nat → Int32) × (Nat → Int32) × (Nat → Int32))
abbrev nWc (μ : NS) : Nat → Int32 := μ.1
abbrev nTc (μ : NS) : Nat → Int32 := μ.2.1
abbrev nLc (μ : NS) : Nat → Int32 := μ.2.2.1
abbrev nTh (μ : NS) : Int32 := μ.2.2.2.1.1
abbrev nWr (μ : NS) : Int32 := μ.2.2.2.1.2.1
abbrev nOf (μ : NS) : Int32 := μ.2.2.2.1.2.2.1
abbrev nUn (μ : NS) : Int32 := μ.2.2.2.1.2.2.2.1
abbrev nOp (μ : NS) : Int32 := μ.2.2.2.1.2.2.2.2.1
abbrev nSt (μ : NS) : Int32 := μ.2.2.2.1.2.2.2.2.2
abbrev nKs (μ : NS) : Nat → Int32 := μ.2.2.2.2.1
abbrev nVs (μ : NS) : Nat → Int32 := μ.2.2.2.2.2.1
abbrev nTs (μ : NS) : Nat → Int32 := μ.2.2.2.2.2.2
abbrev mkN (th : Int32) (wc tc lc : Nat → Int32) (wr o un op st : Int32) (ks vs ts : Nat → Int32) : NS := (wc, tc, lc, (th, wr, o, un, op, st), (ks, vs, ts))
/-- the seven cells of the reference: B 0 the object, B 1 .. B 6 its rows -/
abbrev wN (B : Nat → Nat) (cI cZ : ClassId) (μ : NS) : va_W := [(B 0, .inr (1, [.int (nTh μ), .ref (B 1), .ref (B 2), .ref (B 3), .int (nWr μ), .int (nOf μ), .int (nUn μ), .int (nOp μ), .int (nSt μ), .ref (B 4), .ref (B 5), .ref (B 6)])), (B 1, .inl (cZ, 3840, .inl (nWc μ))), (B 2, .inl (cZ, 1280, .inl (nTc μ))), (B 3, .inl (cZ, 11520, .inl (nLc μ))), (B 4, .inl (cI, 8, .inl (nKs μ))), (B 5, .inl (cI, 8, .inl (nVs μ))), (B 6, .inl (cI, 8, .inl (nTs μ)))]
abbrev nX (B : Nat → Nat) (cI cZ : ClassId) (μ : NS) (sz : Nat) : Nat → Prop := va_A (wN B cI cZ μ) sz
abbrev nPre (D : va_G) (B : Nat → Nat) (cI cZ : ClassId) (μ : NS) (sz : Nat) : State → Prop := fun U => U.heap.size = sz ∧ va_P D vwCl (wN B cI cZ μ) U.heap ∧ va_K D vwCl [(cI, .int), (cZ, .boolean)] U ∧ va_D (fun _ => True) (wN B cI cZ μ)
abbrev nB (D : va_G) (B : Nat → Nat) (cI cZ : ClassId) (X : Nat → Prop) (u : NS) (t : State) : Prop := va_P D vwCl (wN B cI cZ u) t.heap ∧ va_K D vwCl [(cI, .int), (cZ, .boolean)] t ∧ va_D X (wN B cI cZ u)
def QcReadL (r : Int64) : Array Value → State → Outcome → State → Prop := fun _ st o t => o = .returned (some (.long r)) ∧ t.heap = st.heap
theorem callRL {p : Program} {l : Launch} {e : Env} {R : Room} {s : State} {m : MethodId} {args a : Array Value} {below : List Frame} {meth : Method} {c : Code} {H : Heap} {locs : List Loc} {cells slots : Nat} {Q : State → Prop} {g : JFrame} {rest : List Value} {r : Int64} (hr : CallRun p l e R s m args below meth c H locs cells slots 0 0 g rest (QcReadL r a) (fun _ => False)) (kk : W p l e R s m args below meth c H locs cells slots Q { g with pc := g.pc + 3, stack := .long r :: rest }) : W p l e R s m args below meth c H locs cells slots Q g := by
  intro T hT X
  obtain ⟨v, st₀, t, T', L, h0, X', hL, e1, ⟨hv, hh⟩, st⟩ := hr T hT X
  cases hv
  obtain ⟨t2, a1, b1⟩ := kk T' (by rw [e1, hh, h0]) (Stand.forget X' (fun q h => (hL q h).elim))
  exact ⟨t2, st t2 a1, b1⟩
def g_size (p : Int32) : Int32 := ((p &&& 1) + ((p >>> ((1 : Int32) &&& 31)) &&& 1)) + ((p >>> ((2 : Int32) &&& 31)) &&& 1)
def g_single (p : Int32) : Int32 := if p = 0 then 0 else if p = 1 then 1 else if p = 2 then 2 else 3
def g_mean (p : Int32) : Int32 := if 2 ≤ g_size p then g_single (7 - p) else g_single p
def g_bit (x : Int32) (k : Nat) : Int32 := if x = 0 then 0 else 1 <<< (nI k &&& 31)
def g_patL (wc : Nat → Int32) (w g : Nat) : Nat → Nat → Int32 → Int32
  | 0, _, a => a
  | n + 1, i, a => g_patL wc w g n (i + 1) (a + g_bit (wc (24 * w + 3 * g + i)) i)
def g_pat (wc : Nat → Int32) (w g : Nat) : Int32 := g_patL wc w g 3 0 0
def g_fit (now wanted : Int32) (i : Nat) : Bool := decide ((nI i &&& now) = now ∧ g_mean (nI i) = wanted)
def g_betL (now wanted : Int32) : Nat → Nat → Int32 → Int32
  | 0, _, b => b
  | n + 1, i, b => g_betL now wanted n (i + 1) (if g_fit now wanted i = true ∧ (b < 0 ∨ ¬ g_size b ≤ g_size (nI i)) then nI i else b)
def g_bet (now wanted : Int32) : Int32 := g_betL now wanted 8 0 (-1)
def g_two (v : Int32) (i : Nat) : Int32 := (v >>> ((2 * nI i) &&& 31)) &&& 3
def g_comL (wc : Nat → Int32) (w : Nat) (v : Int32) : Nat → Nat → Bool
  | 0, _ => true
  | n + 1, i => if 0 ≤ g_bet (g_pat wc w i) (g_two v i) then g_comL wc w v n (i + 1) else false
def g_com (wc : Nat → Int32) (w : Nat) (v : Int32) : Bool := g_comL wc w v 8 0
def g_valL (wc : Nat → Int32) (w : Nat) : Nat → Nat → Int32 → Int32
  | 0, _, a => a
  | n + 1, i, a => g_valL wc w n (i + 1) (a + (g_mean (g_pat wc w i) <<< ((2 * nI i) &&& 31)))
def g_val (wc : Nat → Int32) (w : Nat) : Int32 := g_valL wc w 8 0 0
def g_tagL (tc : Nat → Int32) (w : Nat) : Nat → Nat → Int32 → Int32
  | 0, _, a => a
  | n + 1, i, a => g_tagL tc w n (i + 1) (a + g_bit (tc (8 * w + i)) i)
def g_tag (tc : Nat → Int32) (w : Nat) : Int32 := g_tagL tc w 8 0 0
def g_frL (wc : Nat → Int32) (w : Nat) : Nat → Nat → Bool → Bool
  | 0, _, b => b
  | n + 1, i, b => g_frL wc w n (i + 1) (b && decide (g_pat wc w i = 0))
def g_fr (wc tc : Nat → Int32) (w : Nat) : Bool := g_frL wc w 8 0 (decide (g_tag tc w = 0))
def g_pres (tc : Nat → Int32) (key : Int32) : Nat → Int32
  | 0 => -1
  | k + 1 => if g_tag tc k = key + 128 then nI k else g_pres tc key k
def g_lbit (x : Int32) (k : Nat) : Int64 := if x = 0 then 0 else 1 <<< ((nI k).toInt64 &&& 63)
def g_lineL (lc : Nat → Int32) (b : Nat) : Nat → Nat → Int64 → Int64
  | 0, _, a => a
  | n + 1, i, a => g_lineL lc b n (i + 1) (a + g_lbit (lc (32 * b + i)) i)
def g_line (lc : Nat → Int32) (b : Nat) : Int64 := g_lineL lc b 32 0 0
def g_emL (lc : Nat → Int32) (b : Nat) : Nat → Nat → Bool
  | 0, _ => true
  | n + 1, i => if g_line lc (9 * b + i) = 0 then g_emL lc b n (i + 1) else false
def g_em (lc : Nat → Int32) (b : Nat) : Bool := g_emL lc b 9 0
def g_isSt (k : Nat → Int32) (key : Int32) : Nat → Nat → Bool → Bool
  | 0, _, b => b
  | n + 1, i, b => g_isSt k key n (i + 1) (b || decide (k i = key))
def g_take (wc tc : Nat → Int32) (key v : Int32) (fr : Nat) : Int32 := if ¬ g_pres tc key 160 < 0 ∧ g_com wc (g_pres tc key 160).toNatClampNeg v = true then g_pres tc key 160 else f_first (g_fr wc tc) (160 - fr) fr
def g_mov (wc tc : Nat → Int32) (key v : Int32) : Bool := decide (g_pres tc key 160 < 0 ∨ g_com wc (g_pres tc key 160).toNatClampNeg v = false)
def g_cnt (f : Nat → Int32) : Nat → Nat → Int32 → Int32
  | 0, _, a => a
  | n + 1, i, a => g_cnt f n (i + 1) (a + (if f i = 0 then 0 else 1))
def g_cntB (P : Nat → Bool) : Nat → Nat → Int32 → Int32
  | 0, _, a => a
  | n + 1, i, a => g_cntB P n (i + 1) (a + bI (P i))
theorem g_pres_in (tc : Nat → Int32) (key : Int32) : ∀ n, n ≤ 160 → g_pres tc key n = -1 ∨ ∃ k, k < n ∧ g_pres tc key n = nI k ∧ g_tag tc k = key + 128
  | 0, _ => Or.inl rfl
  | n + 1, h => by
    by_cases hk : g_tag tc n = key + 128
    · exact Or.inr ⟨n, by omega, by rw [g_pres, if_pos hk], hk⟩
    · rcases g_pres_in tc key n (by omega) with h1 | ⟨k, h1, h2, h3⟩
      · exact Or.inl (by rw [g_pres, if_neg hk]; exact h1)
      · exact Or.inr ⟨k, by omega, by rw [g_pres, if_neg hk]; exact h2, h3⟩

