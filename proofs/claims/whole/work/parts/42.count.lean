/-! counting: sums, bits of a number, the class's own bit count -/
def sm (h : Nat → Nat) : Nat → Nat
  | 0 => 0
  | n + 1 => sm h n + h n
theorem sm_ext {h h' : Nat → Nat} : ∀ n, (∀ i, i < n → h i = h' i) → sm h n = sm h' n
  | 0, _ => rfl
  | n + 1, e => by
    show sm h n + h n = sm h' n + h' n
    rw [sm_ext n (fun i hi => e i (by omega)), e n (by omega)]
theorem sm_app (h : Nat → Nat) (a : Nat) : ∀ n, sm h (a + n) = sm h a + sm (fun i => h (a + i)) n
  | 0 => rfl
  | n + 1 => by
    show sm h (a + n) + h (a + n) = _ + (_ + _)
    rw [sm_app h a n, Nat.add_assoc]
theorem sm_row (h : Nat → Nat) (b : Nat) : ∀ n, sm h (b * n) = sm (fun w => sm (fun k => h (b * w + k)) b) n
  | 0 => rfl
  | n + 1 => by
    rw [Nat.mul_add, Nat.mul_one, sm_app, sm_row h b n]
    rfl
theorem sm_upd {f : Nat → Int32} {q : Int32 → Nat} {w : Nat} {x : Int32} : ∀ n, w < n → sm (fun i => q (upd f w x i)) n + q (f w) = sm (fun i => q (f i)) n + q x
  | 0, h => by omega
  | n + 1, h => by
    show sm (fun i => q (upd f w x i)) n + q (upd f w x n) + q (f w) = sm (fun i => q (f i)) n + q (f n) + q x
    by_cases e : w = n
    · subst e
      rw [pk_us, sm_ext (h := fun i => q (upd f w x i)) (h' := fun i => q (f i)) w (fun i hi => by show q (upd f w x i) = q (f i); rw [pk_un (by omega)])]
      omega
    · have := sm_upd (f := f) (q := q) (x := x) n (show w < n by omega)
      rw [pk_un (f := f) (x := x) (show n ≠ w by omega)]
      omega
/-- how many bits of a number are set, of its first n -/
def pcn (u n : Nat) : Nat := sm (fun k => (u.testBit k).toNat) n
abbrev pc (u : Nat) : Nat := pcn u 32
theorem pcn_cut {u n : Nat} (h : u < 2 ^ n) (hn : n ≤ 32) : pcn u n = pc u := by
  obtain ⟨d, hd⟩ : ∃ d, 32 = n + d := ⟨32 - n, by omega⟩
  show pcn u n = pcn u 32
  rw [hd]
  unfold pcn
  rw [sm_app]
  have : sm (fun i => (u.testBit (n + i)).toNat) d = sm (fun _ => 0) d := sm_ext d (fun i _ => by
    show (u.testBit (n + i)).toNat = 0
    rw [Nat.testBit_lt_two_pow (Nat.lt_of_lt_of_le h (Nat.pow_le_pow_right (by decide) (by omega)))]
    rfl)
  have z : ∀ d, sm (fun _ => 0) d = 0 := fun d => by
    induction d with
    | zero => rfl
    | succ d ih => exact ih
  rw [this, z]
  rfl
theorem pcn_le (u : Nat) : ∀ n, pcn u n ≤ n
  | 0 => Nat.le_refl _
  | n + 1 => by
    show pcn u n + (u.testBit n).toNat ≤ _
    have := pcn_le u n
    have := Bool.toNat_le (u.testBit n)
    omega
theorem pcn_or {a b c : Nat} (h : ∀ k, k < 32 → c.testBit k = (b.testBit k && !a.testBit k)) : ∀ n, n ≤ 32 → pcn (a ||| b) n = pcn a n + pcn c n
  | 0, _ => rfl
  | n + 1, hn => by
    show pcn (a ||| b) n + ((a ||| b).testBit n).toNat = pcn a n + (a.testBit n).toNat + (pcn c n + (c.testBit n).toNat)
    rw [pcn_or h n (by omega), h n (by omega), Nat.testBit_or]
    cases a.testBit n <;> cases b.testBit n <;> simp <;> omega
theorem and_cut {q r m s : Nat} (hr : r < 256) (hs : s < 256) : (256 * q + r) &&& (256 * m + s) = 256 * (q &&& m) + (r &&& s) := by
  apply Nat.eq_of_testBit_eq
  intro i
  have h : r &&& s < 2 ^ 8 := Nat.and_lt_two_pow _ hs
  rw [Nat.testBit_and, show (256 : Nat) = 2 ^ 8 from rfl, Nat.testBit_two_pow_mul_add _ hr, Nat.testBit_two_pow_mul_add _ hs, Nat.testBit_two_pow_mul_add _ h]
  split
  · rw [Nat.testBit_and]
  · rw [Nat.testBit_and]
theorem and_4 {a0 a1 a2 a3 s : Nat} (h0 : a0 < 256) (h1 : a1 < 256) (h2 : a2 < 256) (hs : s < 256) : (a0 + 256 * a1 + 65536 * a2 + 16777216 * a3) &&& (16843009 * s) = (a0 &&& s) + 256 * (a1 &&& s) + 65536 * (a2 &&& s) + 16777216 * (a3 &&& s) := by
  have e1 : a0 + 256 * a1 + 65536 * a2 + 16777216 * a3 = 256 * (256 * (256 * a3 + a2) + a1) + a0 := by omega
  have e2 : 16843009 * s = 256 * (256 * (256 * s + s) + s) + s := by omega
  rw [e1, e2, and_cut h0 hs, and_cut h1 hs, and_cut h2 hs]
  omega
def pA (b : Nat) : Nat := b - (b / 2 &&& 85)
def pB (a : Nat) : Nat := (a &&& 51) + (a / 4 &&& 51)
theorem p_b1 : ∀ b, b < 256 → (b / 2 &&& 85) ≤ b ∧ pA b < 256 ∧ pB (pA b) % 16 ≤ 4 ∧ pB (pA b) / 16 ≤ 4 ∧ pB (pA b) % 16 + pB (pA b) / 16 = pcn b 8 := by decide +kernel
theorem p_m1 : ∀ b, b < 128 → ∀ e, e < 2 → (b + 128 * e &&& 85) = (b &&& 85) := by decide +kernel
theorem p_m2 : ∀ b, b < 64 → ∀ e, e < 4 → (b + 64 * e &&& 51) = (b &&& 51) := by decide +kernel
theorem p_m3 : ∀ b, b < 256 → (b &&& 15) = b % 16 := fun b _ => Nat.and_two_pow_sub_one_eq_mod b 4
theorem p_m4 {b e : Nat} (h1 : b % 16 ≤ 4) (h2 : b / 16 ≤ 4) : (b + b / 16 + 16 * e) % 16 = b % 16 + b / 16 := by omega
theorem p_m5 {b : Nat} (h1 : b % 16 ≤ 4) (h2 : b / 16 ≤ 4) : (b + b / 16) % 16 = b % 16 + b / 16 := by omega
def bcN (u : Nat) : Nat :=
  let a := u - ((u / 2) &&& 1431655765)
  let b := (a &&& 858993459) + ((a / 4) &&& 858993459)
  let d := (b + b / 16) &&& 252645135
  let g := d + d / 256
  let h := g + g / 65536
  h % 64
theorem pc_bytes {u b0 b1 b2 b3 : Nat} (h0 : b0 < 256) (h1 : b1 < 256) (h2 : b2 < 256) (h3 : b3 < 256) (e : u = b0 + 256 * b1 + 65536 * b2 + 16777216 * b3) : pc u = pcn b0 8 + pcn b1 8 + pcn b2 8 + pcn b3 8 := by
  have hd : ∀ i x, u / 2 ^ (8 * i) % 2 ^ 8 = x → sm (fun k => (u.testBit (8 * i + k)).toNat) 8 = pcn x 8 := fun i x hx => sm_ext 8 (fun k hk => by
    show (u.testBit (8 * i + k)).toNat = (x.testBit k).toNat
    rw [← hx]
    exact congrArg Bool.toNat (dg_bit (b := 8) (u := u) (g := i) hk).symm)
  have e4 : pc u = sm (fun k => (u.testBit k).toNat) (8 * 4) := rfl
  rw [e4, sm_row]
  show 0 + sm (fun k => (u.testBit (8 * 0 + k)).toNat) 8 + sm (fun k => (u.testBit (8 * 1 + k)).toNat) 8 + sm (fun k => (u.testBit (8 * 2 + k)).toNat) 8 + sm (fun k => (u.testBit (8 * 3 + k)).toNat) 8 = _
  rw [hd 0 b0 (by omega), hd 1 b1 (by omega), hd 2 b2 (by omega), hd 3 b3 (by omega), Nat.zero_add]
theorem bcN_pc {u : Nat} (hu : u < 2 ^ 32) : bcN u = pc u ∧ ((u / 2) &&& 1431655765) ≤ u := by
  obtain ⟨b0, b1, b2, b3, h0, h1, h2, h3, e⟩ : ∃ b0 b1 b2 b3, b0 < 256 ∧ b1 < 256 ∧ b2 < 256 ∧ b3 < 256 ∧ u = b0 + 256 * b1 + 65536 * b2 + 16777216 * b3 := ⟨u % 256, u / 256 % 256, u / 65536 % 256, u / 16777216, by omega, by omega, by omega, by omega, by omega⟩
  rw [pc_bytes h0 h1 h2 h3 e]
  obtain ⟨l0, a0, m0, n0, p0⟩ := p_b1 b0 h0
  obtain ⟨l1, a1, m1, n1, p1⟩ := p_b1 b1 h1
  obtain ⟨l2, a2, m2, n2, p2⟩ := p_b1 b2 h2
  obtain ⟨l3, a3, m3, n3, p3⟩ := p_b1 b3 h3
  have t1 : (u / 2) &&& 1431655765 = (b0 / 2 &&& 85) + 256 * (b1 / 2 &&& 85) + 65536 * (b2 / 2 &&& 85) + 16777216 * (b3 / 2 &&& 85) := by
    have e1 : u / 2 = (b0 / 2 + 128 * (b1 % 2)) + 256 * (b1 / 2 + 128 * (b2 % 2)) + 65536 * (b2 / 2 + 128 * (b3 % 2)) + 16777216 * (b3 / 2) := by omega
    rw [e1, show 1431655765 = 16843009 * 85 from rfl, and_4 (by omega) (by omega) (by omega) (by omega), p_m1 _ (by omega) _ (by omega), p_m1 _ (by omega) _ (by omega), p_m1 _ (by omega) _ (by omega)]
  have t2 : u - ((u / 2) &&& 1431655765) = pA b0 + 256 * pA b1 + 65536 * pA b2 + 16777216 * pA b3 := by
    rw [t1]
    unfold pA
    omega
  refine ⟨?_, by rw [t1]; omega⟩
  unfold bcN
  simp only []
  rw [t2]
  generalize pA b0 = A0 at *
  generalize pA b1 = A1 at *
  generalize pA b2 = A2 at *
  generalize pA b3 = A3 at *
  have t3 : ((A0 + 256 * A1 + 65536 * A2 + 16777216 * A3) &&& 858993459) + ((A0 + 256 * A1 + 65536 * A2 + 16777216 * A3) / 4 &&& 858993459) = pB A0 + 256 * pB A1 + 65536 * pB A2 + 16777216 * pB A3 := by
    have e1 : (A0 + 256 * A1 + 65536 * A2 + 16777216 * A3) / 4 = (A0 / 4 + 64 * (A1 % 4)) + 256 * (A1 / 4 + 64 * (A2 % 4)) + 65536 * (A2 / 4 + 64 * (A3 % 4)) + 16777216 * (A3 / 4) := by omega
    rw [e1, show 858993459 = 16843009 * 51 from rfl, and_4 (by omega) (by omega) (by omega) (by omega), and_4 (by omega) (by omega) (by omega) (by omega), p_m2 _ (by omega) _ (by omega), p_m2 _ (by omega) _ (by omega), p_m2 _ (by omega) _ (by omega)]
    unfold pB
    omega
  rw [t3]
  generalize pB A0 = B0 at *
  generalize pB A1 = B1 at *
  generalize pB A2 = B2 at *
  generalize pB A3 = B3 at *
  have t4 : (B0 + 256 * B1 + 65536 * B2 + 16777216 * B3 + (B0 + 256 * B1 + 65536 * B2 + 16777216 * B3) / 16 &&& 252645135) = (B0 % 16 + B0 / 16) + 256 * (B1 % 16 + B1 / 16) + 65536 * (B2 % 16 + B2 / 16) + 16777216 * (B3 % 16 + B3 / 16) := by
    have e1 : B0 + 256 * B1 + 65536 * B2 + 16777216 * B3 + (B0 + 256 * B1 + 65536 * B2 + 16777216 * B3) / 16 = (B0 + B0 / 16 + 16 * (B1 % 16)) + 256 * (B1 + B1 / 16 + 16 * (B2 % 16)) + 65536 * (B2 + B2 / 16 + 16 * (B3 % 16)) + 16777216 * (B3 + B3 / 16) := by omega
    rw [e1, show 252645135 = 16843009 * 15 from rfl, and_4 (by omega) (by omega) (by omega) (by omega), p_m3 _ (by omega), p_m3 _ (by omega), p_m3 _ (by omega), p_m3 _ (by omega), p_m4 m0 n0, p_m4 m1 n1, p_m4 m2 n2, p_m5 m3 n3]
  rw [t4, p0, p1, p2, p3]
  have q0 := pcn_le b0 8
  have q1 := pcn_le b1 8
  have q2 := pcn_le b2 8
  have q3 := pcn_le b3 8
  generalize pcn b0 8 = D0 at *
  generalize pcn b1 8 = D1 at *
  generalize pcn b2 8 = D2 at *
  generalize pcn b3 8 = D3 at *
  clear t1 t2 t3 t4 e
  have g1 : (D0 + 256 * D1 + 65536 * D2 + 16777216 * D3) / 256 = D1 + 256 * D2 + 65536 * D3 := by omega
  rw [g1]
  have g2 : (D0 + 256 * D1 + 65536 * D2 + 16777216 * D3 + (D1 + 256 * D2 + 65536 * D3)) / 65536 = D2 + D3 + 256 * D3 := by omega
  rw [g2]
  omega
theorem f_bc_n (x : Int32) : f_bc x = nI (pc (uI x)) := by
  have hu := uI_lt x
  obtain ⟨hb, hle⟩ := bcN_pc hu
  rw [← hb]
  generalize hn : uI x = u at *
  have ex : x = nI u := by rw [← hn, nI_u]
  rw [ex]
  unfold f_bc bcN
  simp only []
  have c1 : uS (nI u) 1 &&& 1431655765 = nI (u / 2 &&& 1431655765) := by
    rw [show uS (nI u) 1 = nI (u / 2) from uS_n (s := 1) hu (by decide)]
    exact nx_and _ 1431655765
  rw [c1, pk_sub hle]
  generalize he : u - (u / 2 &&& 1431655765) = a
  have ha : a < 2 ^ 32 := by omega
  have c2 : nI a &&& 858993459 = nI (a &&& 858993459) := nx_and _ 858993459
  have c3 : uS (nI a) 2 &&& 858993459 = nI (a / 4 &&& 858993459) := by
    rw [show uS (nI a) 2 = nI (a / 4) from uS_n (s := 2) ha (by decide)]
    exact nx_and _ 858993459
  rw [c2, c3, nI_add]
  have l1 : a &&& 858993459 ≤ 858993459 := Nat.and_le_right
  have l2 : a / 4 &&& 858993459 ≤ 858993459 := Nat.and_le_right
  generalize he2 : (a &&& 858993459) + (a / 4 &&& 858993459) = b
  have hb2 : b < 2 ^ 31 := by omega
  rw [show uS (nI b) 4 = nI (b / 16) from uS_n (s := 4) (by omega) (by decide), nI_add, show nI (b + b / 16) &&& 252645135 = nI (b + b / 16 &&& 252645135) from nx_and _ 252645135]
  have l3 : b + b / 16 &&& 252645135 ≤ 252645135 := Nat.and_le_right
  generalize b + b / 16 &&& 252645135 = d at *
  rw [show uS (nI d) 8 = nI (d / 256) from uS_n (s := 8) (by omega) (by decide), nI_add]
  rw [show uS (nI (d + d / 256)) 16 = nI ((d + d / 256) / 65536) from uS_n (s := 16) (by omega) (by decide), nI_add]
  exact pk_andN (by omega) 6 (by decide)
/-! what a write adds -/
theorem add_bt (r x : Int32) {i : Nat} (hi : i < 32) : bt (f_add r x) i = (bt x i && !bt r i) := by
  unfold f_add
  rw [b_and, b_xor, b_m1 i hi]
  cases bt r i <;> rfl
theorem add_or (r x : Int32) : r ||| f_add r x = r ||| x := b_ext (fun i hi => by
  rw [b_or, b_or, add_bt r x hi]
  cases bt r i <;> cases bt x i <;> rfl)
theorem add_0 (r x : Int32) : f_add r x = 0 ↔ r ||| x = r := by
  constructor
  · intro h
    rw [← add_or, h]
    exact b_ext (fun i hi => by rw [b_or, b_0, Bool.or_false])
  · intro h
    refine b_ext (fun i hi => ?_)
    have := congrArg (fun z => bt z i) h
    simp only [b_or] at this
    rw [add_bt r x hi, b_0]
    revert this
    cases bt r i <;> cases bt x i <;> simp
theorem u_or (x y : Int32) : uI (x ||| y) = uI x ||| uI y := by
  show (x ||| y).toBitVec.toNat = _
  rw [Int32.toBitVec_or, BitVec.toNat_or]
theorem add_pc (r x : Int32) : pc (uI (r ||| x)) = pc (uI r) + pc (uI (f_add r x)) := by
  rw [u_or]
  exact pcn_or (fun k hk => add_bt r x hk) 32 (Nat.le_refl _)
/-! the counters of the two sides -/
theorem g_cnt_n (f : Nat → Int32) : ∀ n i a, g_cnt f n i (nI a) = nI (a + sm (fun k => if f (i + k) = 0 then 0 else 1) n)
  | 0, _, _ => rfl
  | n + 1, i, a => by
    have e : (if f i = 0 then (0 : Int32) else 1) = nI (if f i = 0 then 0 else 1) := by split <;> rfl
    rw [g_cnt, e, nI_add, g_cnt_n f n (i + 1)]
    congr 1
    have h1 := sm_app (fun k => if f (i + k) = 0 then 0 else 1) 1 n
    rw [Nat.add_comm 1 n] at h1
    rw [h1, Nat.add_assoc]
    congr 1
    show _ = 0 + (if f (i + 0) = 0 then 0 else 1) + _
    rw [Nat.zero_add]
    congr 1
    exact sm_ext n (fun k _ => by show (if f (i + 1 + k) = 0 then 0 else 1) = _; rw [Nat.add_assoc])
theorem cnt_alike (P Q : Nat → Bool) : ∀ n i a, (∀ k, i ≤ k → k < i + n → P k = Q k) → g_cntB Q n i a = f_cnt P n i a
  | 0, _, _, _ => rfl
  | n + 1, i, a, h => by
    rw [g_cntB, f_cnt, h i (by omega) (by omega), cnt_alike P Q n (i + 1) _ (fun k h1 h2 => h k (by omega) (by omega))]
    cases Q i
    · show f_cnt P n (i + 1) (a + 0) = f_cnt P n (i + 1) a
      rw [show a + 0 = a from Int32.add_zero a]
    · rfl
theorem first_alike (P Q : Nat → Bool) : ∀ n i, (∀ k, i ≤ k → k < i + n → P k = Q k) → f_first Q n i = f_first P n i
  | 0, _, _ => rfl
  | n + 1, i, h => by
    rw [f_first, f_first, h i (by omega) (by omega), first_alike P Q n (i + 1) (fun k h1 h2 => h k (by omega) (by omega))]
