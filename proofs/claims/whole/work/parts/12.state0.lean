/-! the class's state and its readers' answers -/
abbrev OS : Type := (Nat → Int32) × (Nat → Int32) × (Nat → Int32) × (Int32 × Int32 × Int32 × Int32) × ((Nat → Int32) × (Nat → Int32) × (Nat → Int32)) × (Int32 × Int32)
abbrev oW (σ : OS) : Nat → Int32 := σ.1
abbrev oT (σ : OS) : Nat → Int32 := σ.2.1
abbrev oL (σ : OS) : Nat → Int32 := σ.2.2.1
abbrev oSet (σ : OS) : Int32 := σ.2.2.2.1.1
abbrev oWr (σ : OS) : Int32 := σ.2.2.2.1.2.1
abbrev oOn (σ : OS) : Int32 := σ.2.2.2.1.2.2.1
abbrev oUn (σ : OS) : Int32 := σ.2.2.2.1.2.2.2
abbrev oK (σ : OS) : Nat → Int32 := σ.2.2.2.2.1.1
abbrev oV (σ : OS) : Nat → Int32 := σ.2.2.2.2.1.2.1
abbrev oP (σ : OS) : Nat → Int32 := σ.2.2.2.2.1.2.2
abbrev oBo (σ : OS) : Int32 := σ.2.2.2.2.2.1
abbrev oBs (σ : OS) : Int32 := σ.2.2.2.2.2.2
abbrev mkO (w t ln : Nat → Int32) (sc wr on un : Int32) (k v pl : Nat → Int32) (bo bs : Int32) : OS := (w, t, ln, (sc, wr, on, un), (k, v, pl), (bo, bs))
/-- the seven cells of an OnceStore: A 0 the object, A 1 .. A 6 its rows -/
abbrev wO (A : Nat → Nat) (cI : ClassId) (σ : OS) : va_W := [(A 0, .inr (0, [.ref (A 1), .ref (A 2), .ref (A 3), .int (oSet σ), .int (oWr σ), .int (oOn σ), .int (oUn σ), .ref (A 4), .ref (A 5), .ref (A 6), .int (oBo σ), .int (oBs σ)])), (A 1, .inl (cI, 160, .inl (oW σ))), (A 2, .inl (cI, 160, .inl (oT σ))), (A 3, .inl (cI, 360, .inl (oL σ))), (A 4, .inl (cI, 8, .inl (oK σ))), (A 5, .inl (cI, 8, .inl (oV σ))), (A 6, .inl (cI, 8, .inl (oP σ)))]
def f_pres (t : Nat → Int32) (key : Int32) : Nat → Int32
  | 0 => -1
  | k + 1 => if t k = key + 128 then nI k else f_pres t key k
def f_num (t : Nat → Int32) (key j : Int32) : Nat → Nat → Int32 → Int32
  | 0, _, _ => -1
  | n + 1, w, b => if t w = key + 128 then (if b = j then nI w else f_num t key j n (w + 1) (b + 1)) else f_num t key j n (w + 1) b
def f_cnt (P : Nat → Bool) : Nat → Nat → Int32 → Int32
  | 0, _, a => a
  | n + 1, i, a => f_cnt P n (i + 1) (if P i = true then a + 1 else a)
def f_first (P : Nat → Bool) : Nat → Nat → Int32
  | 0, _ => -1
  | n + 1, i => if P i = true then nI i else f_first P n (i + 1)
def f_fresh (w t : Nat → Int32) (i : Nat) : Bool := decide (w i = 0 ∧ t i = 0)
def f_emptyL (ln : Nat → Int32) (b : Nat) : Nat → Nat → Bool
  | 0, _ => true
  | n + 1, i => if ln (b * 9 + i) = 0 then f_emptyL ln b n (i + 1) else false
def f_empty (ln : Nat → Int32) (b : Nat) : Bool := f_emptyL ln b 9 0
def f_isSt (k : Nat → Int32) (key : Int32) : Nat → Nat → Bool
  | 0, _ => false
  | n + 1, i => if k i = key then true else f_isSt k key n (i + 1)
def f_stay (w : Nat → Int32) (pr v : Int32) : Bool := decide (¬ pr = -1 ∧ ¬ f_pw (w pr.toNatClampNeg) v = -1)
def f_takes (w t : Nat → Int32) (key v : Int32) (fr : Nat) : Int32 := if f_stay w (f_pres t key 160) v = true then f_pres t key 160 else f_first (f_fresh w t) (160 - fr) fr
theorem f_pres_in (t : Nat → Int32) (key : Int32) : ∀ n, n ≤ 160 → f_pres t key n = -1 ∨ ∃ k, k < n ∧ f_pres t key n = nI k ∧ t k = key + 128
  | 0, _ => Or.inl rfl
  | n + 1, h => by
    by_cases hk : t n = key + 128
    · exact Or.inr ⟨n, by omega, by rw [f_pres, if_pos hk], hk⟩
    · rcases f_pres_in t key n (by omega) with h1 | ⟨k, h1, h2, h3⟩
      · exact Or.inl (by rw [f_pres, if_neg hk]; exact h1)
      · exact Or.inr ⟨k, by omega, by rw [f_pres, if_neg hk]; exact h2, h3⟩
theorem f_pres_vp (t : Nat → Int32) (key : Int32) : f_pres t key 160 = -1 ∨ vp_in (f_pres t key 160) 160 := by
  rcases f_pres_in t key 160 (Nat.le_refl _) with h | ⟨k, h1, h2, -⟩
  · exact Or.inl h
  · exact Or.inr (by rw [h2]; exact vp_in_nI h1 (by decide))
theorem f_first_in (P : Nat → Bool) : ∀ n i, f_first P n i = -1 ∨ ∃ k, i ≤ k ∧ k < i + n ∧ f_first P n i = nI k ∧ P k = true
  | 0, _ => Or.inl rfl
  | n + 1, i => by
    by_cases hk : P i = true
    · exact Or.inr ⟨i, by omega, by omega, by rw [f_first, if_pos hk], hk⟩
    · rcases f_first_in P n (i + 1) with h1 | ⟨k, h1, h2, h3, h4⟩
      · exact Or.inl (by rw [f_first, if_neg hk]; exact h1)
      · exact Or.inr ⟨k, by omega, by omega, by rw [f_first, if_neg hk]; exact h3, h4⟩

