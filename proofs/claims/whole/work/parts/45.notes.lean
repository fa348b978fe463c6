/-! notes: lines, plans, carrying out -/
theorem lineN_lt {v k w : Nat} (hv : v < 65536) (hk : k < 64) (hw : w < 160) : lineN v k w < 2 ^ 31 := by unfold lineN; omega
theorem line_n {v k w : Nat} (hv : v < 65536) (hk : k < 64) (hw : w < 160) : f_line (nI k) (nI v) (nI w) = nI (lineN v k w) := by
  unfold f_line
  rw [show nI k <<< ((16 : Int32) &&& 31) = nI (k * 2 ^ 16) from shl_n (k := 16) (by decide) (by omega), show nI w <<< ((22 : Int32) &&& 31) = nI (w * 2 ^ 22) from shl_n (k := 22) (by decide) (by omega),
    nx_orp (show v < 2 ^ 16 from hv), nx_orp (by omega), show (1073741824 : Int32) = nI (1 * 2 ^ 30) from rfl, nx_orp (by omega)]
  refine congrArg nI ?_
  unfold lineN
  omega
theorem lw_n {v k w : Nat} (hv : v < 65536) (hk : k < 64) (hw : w < 160) : f_lw (nI (lineN v k w)) = nI w := by
  unfold f_lw
  rw [show uS (nI (lineN v k w)) 22 = nI (lineN v k w / 2 ^ 22) from uS_n (s := 22) (by unfold lineN; omega) (by decide), pk_andN (k := 8) (by unfold lineN; omega) (by decide)]
  refine congrArg nI ?_
  unfold lineN
  omega
theorem lwN_n {v k w : Nat} (hv : v < 65536) (hk : k < 64) (hw : w < 160) : f_lwN (nI (lineN v k w)) = w := by
  unfold f_lwN
  rw [lw_n hv hk hw, nI_clamp (by omega)]
theorem lk_n {v k w : Nat} (hv : v < 65536) (hk : k < 64) (hw : w < 160) : f_lk (nI (lineN v k w)) = nI k := by
  unfold f_lk
  rw [show uS (nI (lineN v k w)) 16 = nI (lineN v k w / 2 ^ 16) from uS_n (s := 16) (by unfold lineN; omega) (by decide), pk_andN (k := 6) (by unfold lineN; omega) (by decide)]
  refine congrArg nI ?_
  unfold lineN
  omega
theorem lv_n {v k w : Nat} (hv : v < 65536) (hk : k < 64) (hw : w < 160) : f_lv (nI (lineN v k w)) = nI v := by
  unfold f_lv
  rw [pk_andN (k := 16) (by unfold lineN; omega) (by decide)]
  refine congrArg nI ?_
  unfold lineN
  omega
theorem line_ne {v k w : Nat} (hv : v < 65536) (hk : k < 64) (hw : w < 160) : ¬ nI (lineN v k w) = 0 := nI_ne0 (by unfold lineN; omega) (lineN_lt hv hk hw)
theorem names_y {v k w : Nat} (hv : v < 65536) (hk : k < 64) (hw : w < 160) : f_names (nI (lineN v k w)) = true := by
  unfold f_names
  refine decide_eq_true ⟨fun z => ?_, ?_⟩
  · have z2 : bt (nI (lineN v k w) &&& 1073741824) 30 = false := by rw [z]; exact b_0 30
    rw [b_and, show bt 1073741824 30 = true by decide, Bool.and_true, bt_u, u_nI (by have := lineN_lt hv hk hw; omega), Nat.testBit_eq_decide_div_mod_eq, decide_eq_false_iff_not] at z2
    unfold lineN at z2
    omega
  · rw [lw_n hv hk hw]
    exact nI_ge (a := w) (b := 160) hw (by decide)
theorem names_0 : f_names 0 = false := by decide
theorem glv_n (v k w : Nat) (hv : v < 65536) (hk : k < 64) (hw : w < 160) : g_lv (nI v) (nI k) (nI w) = lN (lineN v k w) := by
  unfold g_lv
  rw [nI_l (by omega), nI_l (by omega), nI_l (by omega), show (65536 : Int64) * lN k = lN (65536 * k) from lN_mul 65536 k, show (4194304 : Int64) * lN w = lN (4194304 * w) from lN_mul 4194304 w, lN_add, lN_add]
  exact lN_add _ 1073741824
theorem glwd_n {v k w : Nat} (hv : v < 65536) (hk : k < 64) (hw : w < 160) : g_lwd (lN (lineN v k w)) = nI w := by
  have hl := lineN_lt hv hk hw
  unfold g_lwd
  rw [show lN (lineN v k w) / 4194304 = lN (lineN v k w / 4194304) from pk_lDiv (b := 4194304) (by omega) (by decide) (by decide)]
  rw [show lN (lineN v k w / 4194304) - lN (lineN v k w / 4194304) / 256 * 256 = lN (lineN v k w / 4194304 % 256) from pk_lRem (b := 256) (by omega) (by decide) (by decide), lN_i]
  refine congrArg nI ?_
  unfold lineN
  omega
theorem glkd_n {v k w : Nat} (hv : v < 65536) (hk : k < 64) (hw : w < 160) : g_lkd (lN (lineN v k w)) = nI k := by
  have hl := lineN_lt hv hk hw
  unfold g_lkd
  rw [show lN (lineN v k w) / 65536 = lN (lineN v k w / 65536) from pk_lDiv (b := 65536) (by omega) (by decide) (by decide)]
  rw [show lN (lineN v k w / 65536) - lN (lineN v k w / 65536) / 64 * 64 = lN (lineN v k w / 65536 % 64) from pk_lRem (b := 64) (by omega) (by decide) (by decide), lN_i]
  refine congrArg nI ?_
  unfold lineN
  omega
theorem glvd_n {v k w : Nat} (hv : v < 65536) (hk : k < 64) (hw : w < 160) : g_lvd (lN (lineN v k w)) = nI v := by
  have hl := lineN_lt hv hk hw
  unfold g_lvd
  rw [show lN (lineN v k w) - lN (lineN v k w) / 65536 * 65536 = lN (lineN v k w % 65536) from pk_lRem (b := 65536) (by omega) (by decide) (by decide), lN_i]
  refine congrArg nI ?_
  unfold lineN
  omega
/-- a line that may be carried out now -/
def JL (σ : OS) (x : Int32) : Prop := x = 0 ∨ ∃ v k w, v < 65536 ∧ k < 64 ∧ w < 160 ∧ x = nI (lineN v k w) ∧ comN (uI (oW σ w)) v ∧ (oT σ w = 0 ∨ oT σ w = nI (k + 128))
/-- a note that may be carried out now -/
def JN (σ : OS) (b : Nat) : Prop := (∀ i, i < 8 → JL σ (oL σ (b * 9 + i))) ∧ ∀ i j, i < 8 → j < 8 → i ≠ j → ¬ oL σ (b * 9 + i) = 0 → ¬ oL σ (b * 9 + j) = 0 → f_lwN (oL σ (b * 9 + i)) ≠ f_lwN (oL σ (b * 9 + j))
theorem JN.same {σ σ' : OS} {b : Nat} (h : JN σ b) (h1 : oW σ' = oW σ) (h2 : oT σ' = oT σ) (h3 : ∀ i, i < 8 → oL σ' (b * 9 + i) = oL σ (b * 9 + i)) : JN σ' b := by
  refine ⟨fun i hi => ?_, fun i j hi hj => ?_⟩
  · have := h.1 i hi
    unfold JL at this ⊢
    rw [h1, h2, h3 i hi]
    exact this
  · rw [h3 i hi, h3 j hj]
    exact h.2 i j hi hj
theorem finL_off {μ : NS} (h : ¬ nOf μ = 0) (b : Nat) : ∀ n i, g_finL b n i μ = μ
  | 0, i => by rw [g_finL, wrL_off h]
  | n + 1, i => by
    have e : (if g_line (nLc μ) (9 * b + i) = 0 then μ else g_perf μ (g_lwd (g_line (nLc μ) (9 * b + i))).toNatClampNeg (g_lkd (g_line (nLc μ) (9 * b + i))) (g_lvd (g_line (nLc μ) (9 * b + i)))) = μ := by
      split
      · rfl
      · exact perf_off h _ _ _
    rw [g_finL, e, finL_off h b n (i + 1)]
/-- a note is carried out -/
theorem st_car {b : Nat} (hb : b < 40) : ∀ n i σ μ, i + n = 8 → RC σ μ → nOf μ = 0 → JN σ b → oL σ (b * 9 + 8) = 1 →
    stp σ (f_carL b n i σ).2 (g_finL b n i μ) (f_carL b n i σ).1 ∧ JN (f_carL b n i σ).2 b ∧ (∀ q, q ≠ b * 9 + 8 → oL (f_carL b n i σ).2 q = oL σ q) ∧ oL (f_carL b n i σ).2 (b * 9 + 8) = (if (f_carL b n i σ).1 = true then 3 else 1)
  | 0, i, σ, μ, _, h, h0, hJ, hs => by
    obtain ⟨a1, a2, a3, a4, a5⟩ := st_line (n := b * 9 + 8) (u := 3) h h0 (by omega) (by decide) (by rw [hs]; decide) (by rw [hs]; decide) (fun b' _ => ⟨fun _ => Or.inr (Or.inr rfl), fun i hi e => by omega⟩)
    rw [f_carL, g_finL, Nat.mul_comm 9 b]
    refine ⟨a1, hJ.same a2 a3 (fun i hi => a4 _ (by omega)), a4, ?_⟩
    rw [hs] at a5
    exact a5.trans (by rw [hs]; rfl)
  | n + 1, i, σ, μ, hi, h, h0, hJ, hs => by
    rw [f_carL, g_finL, Nat.mul_comm 9 b]
    rcases hJ.1 i (by omega) with e | ⟨v, k, w, hv, hk, hw, e, hc, ht⟩
    · have e2 : g_line (nLc μ) (b * 9 + i) = 0 := (rc_line0 h _ (by omega)).mpr e
      rw [if_pos e2, e, names_0, if_neg Bool.noConfusion]
      exact st_car hb n (i + 1) σ μ (by omega) h h0 hJ hs
    · have hl := lineN_lt hv hk hw
      have e2 : g_line (nLc μ) (b * 9 + i) = lN (lineN v k w) := by rw [rc_line h _ (by omega), e, u_nI (by omega)]
      have e3 : ¬ g_line (nLc μ) (b * 9 + i) = 0 := fun z => line_ne hv hk hw (e ▸ (rc_line0 h _ (by omega)).mp z)
      rw [if_neg e3, e2, e, glwd_n hv hk hw, glkd_n hv hk hw, glvd_n hv hk hw, names_y hv hk hw, if_pos rfl, lwN_n hv hk hw, lk_n hv hk hw, lv_n hv hk hw, nI_clamp (by omega)]
      obtain ⟨p1, p2, p3, p4, p5⟩ := st_put h h0 hw hv hk hc ht
      generalize f_put σ w (nI k) (nI v) = r at *
      generalize g_perf μ w (nI k) (nI v) = μ1 at *
      obtain ⟨ok, σ1⟩ := r
      have hJ1 : JN σ1 b := by
        refine ⟨fun j hj => ?_, fun a c ha hc2 => ?_⟩
        · show JL σ1 (oL σ1 (b * 9 + j))
          have p2 : oL σ1 = oL σ := p2
          rw [p2]
          by_cases ej : j = i
          · subst ej
            exact Or.inr ⟨v, k, w, hv, hk, hw, e, p4, p5⟩
          · rcases hJ.1 j hj with z | ⟨v', k', w', hv', hk', hw', e', hc', ht'⟩
            · exact Or.inl z
            · have hd := hJ.2 j i hj (by omega) ej (by rw [e']; exact line_ne hv' hk' hw') (by rw [e]; exact line_ne hv hk hw)
              rw [e', e, lwN_n hv' hk' hw', lwN_n hv hk hw] at hd
              refine Or.inr ⟨v', k', w', hv', hk', hw', e', ?_, ?_⟩
              · rw [show oW σ1 w' = oW σ w' from (p3 w' hd).1]; exact hc'
              · rw [show oT σ1 w' = oT σ w' from (p3 w' hd).2]; exact ht'
        · have p2 : oL σ1 = oL σ := p2
          rw [p2]
          exact hJ.2 a c ha hc2
      have hs1 : oL σ1 (b * 9 + 8) = 1 := (congrFun p2 _).trans hs
      cases ok with
      | false =>
        rw [if_neg Bool.noConfusion, finL_off (fun z => Bool.noConfusion (p1.2.1.mpr z))]
        exact ⟨p1, hJ1, fun q _ => congrFun p2 q, hs1⟩
      | true =>
        rw [if_pos rfl]
        have c := st_car hb n (i + 1) σ1 μ1 (by omega) p1.1 (p1.2.1.mp rfl) hJ1 hs1
        exact ⟨p1.next c.1, c.2.1, fun q hq => (c.2.2.1 q hq).trans (congrFun p2 q), c.2.2.2⟩
theorem cl1_off {μ : NS} (h : ¬ nOf μ = 0) (b : Nat) : ∀ n i, g_cl1 b n i μ = μ
  | 0, _ => rfl
  | n + 1, i => by rw [g_cl1, wrL_off h, cl1_off h b n (i + 1)]
theorem cl2_off {μ : NS} (h : ¬ nOf μ = 0) : ∀ n i, g_cl2 n i μ = μ
  | 0, _ => rfl
  | n + 1, i => by rw [g_cl2, perf_off h, cl2_off h n (i + 1)]
theorem ln_to {v k w : Nat} (hv : v < 65536) (hk : k < 64) (hw : w < 160) {x a b c : Int32} (e1 : x = nI (lineN v k w)) (e2 : a = nI v) (e3 : b = nI k) (e4 : c = nI w) : ∃ u, u < 2 ^ 32 ∧ x = nI u ∧ g_lv a b c = lN u ∧ ¬ nI u = 0 ∧ lnOK (nI u) := by
  have hl := lineN_lt hv hk hw
  refine ⟨lineN v k w, by omega, e1, ?_, line_ne hv hk hw, Or.inr ⟨v, k, w, hv, hk, hw, rfl⟩⟩
  rw [e2, e3, e4]
  exact glv_n v k w hv hk hw
/-- a note is written -/
theorem st_note {b : Nat} (hb : b < 40) : ∀ n i σ μ, i + n ≤ 8 → RC σ μ → nOf μ = 0 → (∀ j, i ≤ j → j < 9 → oL σ (b * 9 + j) = 0) →
    (∀ j, i ≤ j → j < i + n → ∃ v k w, v < 65536 ∧ k < 64 ∧ w < 160 ∧ oP σ j = nI (lineN v k w) ∧ nVs μ j = nI v ∧ nKs μ j = nI k ∧ nTs μ j = nI w) →
    stp σ (f_noteL b n i σ).2 (g_wrL (g_cl1 b n i μ) (9 * b + 8) 1) (f_noteL b n i σ).1 ∧ oW (f_noteL b n i σ).2 = oW σ ∧ oT (f_noteL b n i σ).2 = oT σ ∧ (∀ q, (q < b * 9 + i ∨ b * 9 + 9 ≤ q) → oL (f_noteL b n i σ).2 q = oL σ q) ∧
    ((f_noteL b n i σ).1 = true → (∀ j, i ≤ j → j < i + n → oL (f_noteL b n i σ).2 (b * 9 + j) = oP σ j) ∧ (∀ j, i + n ≤ j → j < 8 → oL (f_noteL b n i σ).2 (b * 9 + j) = 0) ∧ oL (f_noteL b n i σ).2 (b * 9 + 8) = 1) ∧
    ((f_noteL b n i σ).1 = false → oL (f_noteL b n i σ).2 (b * 9 + 8) = 0)
  | 0, i, σ, μ, hi, h, h0, hz, _ => by
    have hs := hz 8 (by omega) (by omega)
    obtain ⟨a1, a2, a3, a4, a5⟩ := st_line (n := b * 9 + 8) (u := 1) h h0 (by omega) (by decide) (by rw [hs]; decide) (by rw [hs]; decide) (fun b' _ => ⟨fun _ => Or.inr (Or.inl rfl), fun i hi e => by omega⟩)
    rw [f_noteL, g_cl1, Nat.mul_comm 9 b]
    refine ⟨a1, a2, a3, fun q hq => a4 q (by omega), fun z => ⟨fun j h1 h2 => by omega, fun j h1 h2 => (a4 _ (by omega)).trans (hz j (by omega) (by omega)), ?_⟩, fun z => ?_⟩
    · exact a5.trans (if_pos z)
    · refine (a5.trans (if_neg ?_)).trans hs
      intro y
      exact Bool.noConfusion (z.symm.trans y)
  | n + 1, i, σ, μ, hi, h, h0, hz, hp => by
    obtain ⟨v, k, w, hv, hk, hw, e1, e2, e3, e4⟩ := hp i (by omega) (by omega)
    have hs := hz i (by omega) (by omega)
    obtain ⟨u, hu, eu, elv, hne, hok⟩ := ln_to hv hk hw e1 e2 e3 e4
    obtain ⟨a1, a2, a3, a4, a5⟩ := st_line (n := b * 9 + i) (u := u) h h0 (by omega) hu (by rw [hs]; exact b_ext (fun j _ => by rw [b_or, b_0, Bool.false_or])) (by rw [hs]; exact fun z => hne z.symm) (fun b' _ => ⟨fun _ => by omega, fun i hi e => hok⟩)
    rw [f_noteL, g_cl1, eu, elv]
    rw [Nat.mul_comm b 9] at a1 a2 a3 a4 a5 hs ⊢
    clear e1 e2 e3 e4 hv hk hw
    have hsame := (g_wrL_same μ (9 * b + i) (lN u)).1
    generalize g_wrL μ (9 * b + i) (lN u) = μ1 at *
    generalize f_wr3 σ (9 * b + i) (nI u) = σ1 at *
    cases hok2 : f_ok σ (f_add (oL σ (9 * b + i)) (nI u))
    · rw [hok2] at a1 a5
      have hoff : ¬ nOf μ1 = 0 := fun z => Bool.noConfusion (a1.2.1.mpr z)
      rw [if_neg Bool.noConfusion, cl1_off hoff, wrL_off hoff]
      refine ⟨a1, a2, a3, fun q hq => a4 q (by omega), fun z => Bool.noConfusion z, fun _ => ?_⟩
      have := hz 8 (by omega) (by omega)
      rw [Nat.mul_comm b 9] at this
      exact (a4 _ (by omega)).trans this
    · rw [hok2] at a1 a5
      rw [if_pos rfl]
      have hP : oP σ1 = oP σ := a1.2.2.2.2.2.1
      have c := st_note hb n (i + 1) σ1 μ1 (by omega) a1.1 (a1.2.1.mp rfl) (fun j h1 h2 => by
        rw [Nat.mul_comm b 9, a4 _ (by omega), Nat.mul_comm 9 b]
        exact hz j (by omega) h2) (fun j h1 h2 => by
        rw [hP, hsame.1, hsame.2.1, hsame.2.2.1]
        exact hp j (by omega) (by omega))
      rw [Nat.mul_comm b 9] at c
      refine ⟨a1.next c.1, c.2.1.trans a2, c.2.2.1.trans a3, fun q hq => (c.2.2.2.1 q (by omega)).trans (a4 q (by omega)), fun z => ?_, c.2.2.2.2.2⟩
      obtain ⟨c1, c2, c3⟩ := c.2.2.2.2.1 z
      refine ⟨fun j h1 h2 => ?_, fun j h1 h2 => c2 j (by omega) h2, c3⟩
      by_cases ej : j = i
      · subst ej
        rw [c.2.2.2.1 _ (by omega), a5, if_pos rfl, eu]
      · rw [c1 j (by omega) (by omega), hP]
/-- in a commit the reference carries out what the lines say -/
theorem cl2_fin {b : Nat} : ∀ n i m μ, i + m = 8 → n ≤ m →
    (∀ j, i ≤ j → j < i + n → ∃ v k w, v < 65536 ∧ k < 64 ∧ w < 160 ∧ g_line (nLc μ) (9 * b + j) = lN (lineN v k w) ∧ nVs μ j = nI v ∧ nKs μ j = nI k ∧ nTs μ j = nI w) → (∀ j, i + n ≤ j → j < 8 → g_line (nLc μ) (9 * b + j) = 0) →
    g_finL b m i μ = g_wrL (g_cl2 n i μ) (9 * b + 8) 3
  | 0, i, 0, μ, _, _, _, _ => rfl
  | 0, i, m + 1, μ, hm, _, hl, hz => by
    rw [g_finL, if_pos (hz i (by omega) (by omega))]
    exact cl2_fin 0 (i + 1) m μ (by omega) (by omega) (fun j h1 h2 => by omega) (fun j h1 h2 => hz j (by omega) h2)
  | n + 1, i, 0, μ, hm, hn, _, _ => by omega
  | n + 1, i, m + 1, μ, hm, hn, hl, hz => by
    obtain ⟨v, k, w, hv, hk, hw, e1, e2, e3, e4⟩ := hl i (by omega) (by omega)
    have hlt := lineN_lt hv hk hw
    have hne : ¬ lN (lineN v k w) = 0 := by
      rw [show (0 : Int64) = lN 0 from rfl, pk_lEQ (by omega) (by decide)]
      unfold lineN
      omega
    rw [g_finL, g_cl2, e1, if_neg hne, glwd_n hv hk hw, glkd_n hv hk hw, glvd_n hv hk hw, e2, e3, e4]
    have hs := g_perf_same μ w (nI k) (nI v)
    rw [nI_clamp (by omega)]
    refine cl2_fin n (i + 1) m _ (by omega) (by omega) (fun j h1 h2 => ?_) (fun j h1 h2 => ?_)
    · rw [hs.2, hs.1.1, hs.1.2.1, hs.1.2.2.1]
      exact hl j (by omega) (by omega)
    · rw [hs.2]
      exact hz j (by omega) h2
/-- what a key's put takes -/
theorem takes_spec {σ : OS} {k v fr t : Nat} (hv : v < 65536) (e : f_takes (oW σ) (oT σ) (nI k) (nI v) fr = nI t) (hfr : fr ≤ 160) (ht : t < 160) :
    (f_stay (oW σ) (f_pres (oT σ) (nI k) 160) (nI v) = true ∧ oT σ t = nI (k + 128) ∧ comN (uI (oW σ t)) v) ∨ (f_stay (oW σ) (f_pres (oT σ) (nI k) 160) (nI v) = false ∧ oW σ t = 0 ∧ oT σ t = 0 ∧ fr ≤ t) := by
  unfold f_takes at e
  cases hs : f_stay (oW σ) (f_pres (oT σ) (nI k) 160) (nI v)
  · rw [hs, if_neg Bool.noConfusion] at e
    refine Or.inr ⟨rfl, ?_⟩
    rcases f_first_in (f_fresh (oW σ) (oT σ)) (160 - fr) fr with z | ⟨j, h1, h2, h3, h4⟩
    · rw [z] at e
      have := nI_pos (show t < 2 ^ 31 by omega)
      rw [← e] at this
      exact absurd (by decide) this
    · rw [h3] at e
      have ej : j = t := (nI_eq (by omega) (by omega)).mp e
      subst ej
      have := of_decide_eq_true h4
      exact ⟨this.1, this.2, h1⟩
  · rw [hs, if_pos rfl] at e
    have hs2 := of_decide_eq_true hs
    obtain ⟨j, h1, h2, h3⟩ := (f_pres_in (oT σ) (nI k) 160 (Nat.le_refl _)).resolve_left hs2.1
    rw [h2] at e
    have ej : j = t := (nI_eq (by omega) (by omega)).mp e
    subst ej
    have h4 := hs2.2
    rw [h2, nI_clamp (by omega), f_pw_iff, Classical.not_not, u_nI (by omega)] at h4
    exact Or.inl ⟨rfl, h3.trans (nI_add k 128), h4⟩
theorem takes_ne {t : Nat} (h : t < 160) : ¬ nI t = -1 := fun z => by
  have := nI_pos (show t < 2 ^ 31 by omega)
  rw [z] at this
  exact absurd (by decide) this
abbrev oSP (σ : OS) (pl : Nat → Int32) : OS := mkO (oW σ) (oT σ) (oL σ) (oSet σ) (oWr σ) (oOn σ) (oUn σ) (oK σ) (oV σ) pl (oBo σ) (oBs σ)
/-- one planned line -/
def PL (σ : OS) (fr k v w : Nat) : Prop := k < 64 ∧ v < 65536 ∧ w < 160 ∧ comN (uI (oW σ w)) v ∧ (oT σ w = nI (k + 128) ∨ (oT σ w = 0 ∧ fr ≤ w))
theorem st_plan {σ : OS} {μ : NS} (h : RC σ μ) {K V : Nat → Nat} : ∀ n i fr pl ts, i + n ≤ 8 → fr ≤ 160 →
    (∀ j, i ≤ j → j < i + n → K j < 64 ∧ V j < 65536 ∧ oK σ j = nI (K j) ∧ oV σ j = nI (V j) ∧ nKs μ j = nI (K j) ∧ nVs μ j = nI (V j)) → (∀ j j', i ≤ j → j < j' → j' < i + n → K j ≠ K j') →
    (f_planL n i fr (oSP σ pl)).1 = (g_shL n i fr (wTs μ ts)).1 ∧ ∃ pl' ts', (f_planL n i fr (oSP σ pl)).2 = oSP σ pl' ∧ (g_shL n i fr (wTs μ ts)).2 = wTs μ ts' ∧ (∀ j, j < i → pl' j = pl j ∧ ts' j = ts j) ∧
      ((f_planL n i fr (oSP σ pl)).1 = true → ∃ T : Nat → Nat, ∀ j, i ≤ j → j < i + n → PL σ fr (K j) (V j) (T j) ∧ pl' j = nI (lineN (V j) (K j) (T j)) ∧ ts' j = nI (T j) ∧ ∀ j', j < j' → j' < i + n → T j ≠ T j')
  | 0, i, fr, pl, ts, _, _, _, _ => ⟨rfl, pl, ts, rfl, rfl, fun _ _ => ⟨rfl, rfl⟩, fun _ => ⟨fun _ => 0, fun j h1 h2 => by omega⟩⟩
  | n + 1, i, fr, pl, ts, hi, hfr, hK, hd => by
    obtain ⟨hk, hv, e1, e2, e3, e4⟩ := hK i (by omega) (by omega)
    have etk : f_tk (oSP σ pl) i fr = f_takes (oW σ) (oT σ) (nI (K i)) (nI (V i)) fr := by
      show f_takes (oW σ) (oT σ) (oK σ i) (oV σ i) fr = _
      rw [e1, e2]
    have gtk : g_tk (wTs μ ts) i fr = f_takes (oW σ) (oT σ) (nI (K i)) (nI (V i)) fr := by
      show g_take (nWc μ) (nTc μ) (nKs μ i) (nVs μ i) fr = _
      rw [e3, e4]
      exact rc_take h _ (by omega) fr hfr
    have gmv : g_mov (nWc (wTs μ ts)) (nTc (wTs μ ts)) (nKs (wTs μ ts) i) (nVs (wTs μ ts) i) = !f_stay (oW σ) (f_pres (oT σ) (nI (K i)) 160) (nI (V i)) := by
      show g_mov (nWc μ) (nTc μ) (nKs μ i) (nVs μ i) = _
      rw [e3, e4]
      exact rc_mov h _ (by omega)
    rw [f_planL, g_shL, etk, gtk, gmv]
    rcases f_takes_in (oW σ) (oT σ) (nI (K i)) (nI (V i)) fr hfr with z | ⟨t, ht, z⟩
    · rw [z, if_pos rfl, if_neg (by decide)]
      exact ⟨rfl, pl, upd ts i (-1), rfl, rfl, fun j hj => ⟨rfl, pk_un (by omega)⟩, fun y => Bool.noConfusion y⟩
    · have sp := takes_spec hv z hfr ht
      rw [z, if_neg (takes_ne ht), if_pos (nI_pos' (by omega)), nI_clamp (by omega)]
      have eln : f_line (oK (oSP σ pl) i) (oV (oSP σ pl) i) (nI t) = nI (lineN (V i) (K i) t) := by
        show f_line (oK σ i) (oV σ i) (nI t) = _
        rw [e1, e2]
        exact line_n hv hk ht
      have efr : (if f_fresh (oW (oSP σ pl)) (oT (oSP σ pl)) t = true then t + 1 else fr) = (if (!f_stay (oW σ) (f_pres (oT σ) (nI (K i)) 160) (nI (V i))) = true then t + 1 else fr) := by
        show (if f_fresh (oW σ) (oT σ) t = true then t + 1 else fr) = _
        rcases sp with ⟨s1, s2, s3⟩ | ⟨s1, s2, s3, s4⟩
        · rw [s1, if_neg (fun y => nI_ne0 (show 0 < K i + 128 by omega) (by omega) (s2.symm.trans (of_decide_eq_true y).2)), if_neg (by decide)]
        · rw [s1, Bool.not_false, if_pos rfl]
          exact if_pos (decide_eq_true ⟨s2, s3⟩)
      rw [eln, efr]
      have efr2 : ∃ fr', (if (!f_stay (oW σ) (f_pres (oT σ) (nI (K i)) 160) (nI (V i))) = true then t + 1 else fr) = fr' ∧ fr' ≤ 160 ∧ fr ≤ fr' ∧ (oT σ t = 0 → t < fr') := by
        rcases sp with ⟨s1, s2, s3⟩ | ⟨s1, s2, s3, s4⟩
        · rw [s1, if_neg (by decide)]
          exact ⟨fr, rfl, hfr, Nat.le_refl _, fun y => absurd (s2.symm.trans y) (nI_ne0 (by omega) (by omega))⟩
        · rw [s1, Bool.not_false, if_pos rfl]
          exact ⟨t + 1, rfl, by omega, by omega, fun _ => by omega⟩
      obtain ⟨fr', ef, f1, f2, f3⟩ := efr2
      rw [ef]
      obtain ⟨c1, pl', ts', c2, c3, c4, c5⟩ := st_plan h n (i + 1) fr' (upd pl i (nI (lineN (V i) (K i) t))) (upd ts i (nI t)) (by omega) f1 (fun j h1 h2 => hK j (by omega) (by omega)) (fun j j' h1 h2 h3 => hd j j' (by omega) h2 (by omega))
      refine ⟨c1, pl', ts', c2, c3, fun j hj => ⟨((c4 j (by omega)).1).trans (pk_un (by omega)), ((c4 j (by omega)).2).trans (pk_un (by omega))⟩, fun y => ?_⟩
      obtain ⟨T, hT⟩ := c5 y
      have hpt : PL σ fr (K i) (V i) t := by
        refine ⟨hk, hv, ht, ?_, ?_⟩
        · rcases sp with ⟨s1, s2, s3⟩ | ⟨s1, s2, s3, s4⟩
          · exact s3
          · rw [s2]; exact com_0 _
        · rcases sp with ⟨s1, s2, s3⟩ | ⟨s1, s2, s3, s4⟩
          · exact Or.inl s2
          · exact Or.inr ⟨s3, s4⟩
      refine ⟨fun j => if j = i then t else T j, fun j h1 h2 => ?_⟩
      show PL σ fr (K j) (V j) (if j = i then t else T j) ∧ pl' j = nI (lineN (V j) (K j) (if j = i then t else T j)) ∧ ts' j = nI (if j = i then t else T j) ∧ ∀ j', j < j' → j' < i + (n + 1) → (if j = i then t else T j) ≠ (if j' = i then t else T j')
      by_cases ej : j = i
      · subst ej
        rw [if_pos rfl]
        refine ⟨hpt, ((c4 j (by omega)).1).trans pk_us, ((c4 j (by omega)).2).trans pk_us, fun j' h3 h4 => ?_⟩
        rw [if_neg (by omega)]
        obtain ⟨⟨q1, q2, q3, q4, q5⟩, -⟩ := hT j' (by omega) (by omega)
        intro et
        rcases q5 with q5 | ⟨q5, q6⟩
        · rcases sp with ⟨s1, s2, s3⟩ | ⟨s1, s2, s3, s4⟩
          · rw [← et, s2] at q5
            have := (nI_eq (by omega) (by omega)).mp q5
            exact hd j j' (by omega) h3 (by omega) (by omega)
          · rw [← et, s3] at q5
            exact nI_ne0 (show 0 < K j' + 128 by omega) (by omega) q5.symm
        · have := f3 (by rw [et]; exact q5)
          omega
      · rw [if_neg ej]
        obtain ⟨⟨q1, q2, q3, q4, q5⟩, r1, r2, r3⟩ := hT j (by omega) (by omega)
        refine ⟨⟨q1, q2, q3, q4, ?_⟩, r1, r2, fun j' h3 h4 => ?_⟩
        · rcases q5 with q5 | ⟨q5, q6⟩
          · exact Or.inl q5
          · exact Or.inr ⟨q5, by omega⟩
        · rw [if_neg (by omega)]
          exact r3 j' h3 (by omega)
