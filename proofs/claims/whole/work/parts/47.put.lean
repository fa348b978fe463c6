/-! put, stage, mount -/
theorem sim_put {σ : OS} {μ : NS} (h : Rel σ μ) (key v : Int32) : simC Rel σ (k_put σ key v) (s_put σ key v) (hs_put μ key v) ∧ (k_put σ key v = 0 → hr_put μ key v = r_put σ key v) := by
  have c : hk_put μ key v = nI (k_put σ key v) ∧ k_put σ key v ≤ 2 := by
    unfold hk_put k_put
    exact code2 Iff.rfl (or_congr (rc_on h.1) (not_congr (ko_op h)))
  by_cases hk : k_put σ key v = 0
  · have hk2 := k_z c.1 hk
    have z := hk
    unfold k_put at z
    obtain ⟨z1, z2⟩ := code2_0 z
    have h0 : nOf μ = 0 := Classical.not_not.mp (fun y => z2 (Or.inl ((rc_on h.1).mpr y)))
    obtain ⟨k, n, hk64, hn, e1, e2⟩ := args_n (tr_of z1)
    have etk : g_take (nWc μ) (nTc μ) key v 0 = f_takes (oW σ) (oT σ) key v 0 := by
      rw [e2]
      exact rc_take h.1 key (by omega) 0 (by omega)
    have hs2 : hs_put μ key v = if 0 ≤ f_takes (oW σ) (oT σ) key v 0 then g_perf (h_th μ 0) (f_takes (oW σ) (oT σ) key v 0).toNatClampNeg key v else h_th μ 0 := by
      unfold hs_put
      rw [if_neg (fun z : ¬ hk_put μ key v = 0 => z hk2), hk2, etk]
    have hr2 : hr_put μ key v = if 0 ≤ f_takes (oW σ) (oT σ) key v 0 then (if nOf (hs_put μ key v) = 0 then nWr (hs_put μ key v) - nWr μ else -2) else -1 := by
      unfold hr_put
      rw [if_neg (fun z : ¬ hk_put μ key v = 0 => z hk2), etk]
    rcases f_takes_in (oW σ) (oT σ) key v 0 (by omega) with et | ⟨t, ht, et⟩
    · have es : s_put σ key v = σ := by
        unfold s_put
        rw [if_pos et]
      rw [et, if_neg (by decide)] at hs2 hr2
      rw [hs2, hr2, es]
      refine ⟨sim_yes hk rfl h, fun _ => ?_⟩
      unfold r_put
      rw [if_pos et]
    · have es : s_put σ key v = (f_put σ t key v).2 := by
        unfold s_put
        rw [et, if_neg (takes_ne ht), nI_clamp (by omega)]
      have er : r_put σ key v = if (f_put σ t key v).1 = true then oWr (f_put σ t key v).2 - oWr σ else -2 := by
        unfold r_put
        rw [et, if_neg (takes_ne ht), nI_clamp (by omega)]
      rw [et, if_pos (nI_pos' (by omega))] at hs2 hr2
      rw [nI_clamp (by omega)] at hs2
      rw [hs2] at hr2
      rw [hs2, hr2, es, er]
      clear hs2 hr2 es er z z2 c etk
      rw [e1, e2] at et ⊢
      have sp := takes_spec hn et (by omega) ht
      have hc : comN (uI (oW σ t)) n := by
        rcases sp with ⟨-, -, s⟩ | ⟨-, s, -⟩
        · exact s
        · rw [s]
          exact com_0 n
      have htg : oT σ t = 0 ∨ oT σ t = nI (k + 128) := by
        rcases sp with ⟨-, s, -⟩ | ⟨-, -, s, -⟩
        · exact Or.inr s
        · exact Or.inl s
      obtain ⟨p1, p2, -⟩ := st_put (μ := h_th μ 0) h.1 h0 ht hn hk64 hc htg
      have ps := (g_perf_same (h_th μ 0) t (nI k) (nI n)).1
      rw [e1, e2] at hk
      generalize f_put σ t (nI k) (nI n) = r at *
      generalize g_perf (h_th μ 0) t (nI k) (nI n) = μ1 at *
      obtain ⟨ok, σ1⟩ := r
      refine ⟨sim_yes hk ps.2.2.2.2.2 ⟨p1.1, h.2.1.same p1.2.2.2.1 p1.2.2.2.2.1 p1.2.2.2.2.2.2.1 p1.2.2.2.2.2.2.2 ps.1 ps.2.1 ps.2.2.2.1 ps.2.2.2.2.1, RN.none (fun b hb => ?_)⟩, fun _ => ?_⟩
      · show ¬ oL σ1 (b * 9 + 8) = 1
        rw [show oL σ1 = oL σ from p2]
        exact h.2.2.1 h0 b hb
      · cases ok with
        | false => rw [if_neg (fun z => Bool.noConfusion (p1.2.1.mpr z)), if_neg Bool.noConfusion]
        | true => rw [if_pos (p1.2.1.mp rfl), if_pos rfl, p1.1.2.2.2.2.1, h.1.2.2.2.2.1]
  · exact ⟨sim_no h c hk (by unfold hs_put; rw [if_pos (k_nz c hk)]), fun z => absurd z hk⟩
theorem g_isSt_t (k : Nat → Int32) (key : Int32) : ∀ n i, g_isSt k key n i true = true
  | 0, _ => rfl
  | n + 1, i => by
    rw [g_isSt, Bool.true_or]
    exact g_isSt_t k key n (i + 1)
theorem isSt_alike {a b : Nat → Int32} (key : Int32) : ∀ n i, (∀ j, i ≤ j → j < i + n → a j = b j) → g_isSt b key n i false = f_isSt a key n i
  | 0, _, _ => rfl
  | n + 1, i, h => by
    rw [g_isSt, f_isSt, Bool.false_or, h i (by omega) (by omega)]
    by_cases e : b i = key
    · rw [decide_eq_true e, if_pos e]
      exact g_isSt_t b key n (i + 1)
    · rw [decide_eq_false e, if_neg e]
      exact isSt_alike key n (i + 1) (fun j h1 h2 => h j (by omega) (by omega))
theorem isSt_no {a : Nat → Int32} {key : Int32} : ∀ n i, f_isSt a key n i = false → ∀ j, i ≤ j → j < i + n → a j ≠ key
  | 0, _, _, j, h1, h2 => absurd h2 (by omega)
  | n + 1, i, h, j, h1, h2 => by
    rw [f_isSt] at h
    by_cases e : a i = key
    · rw [if_pos e] at h
      exact Bool.noConfusion h
    · rw [if_neg e] at h
      by_cases ej : j = i
      · rw [ej]
        exact e
      · exact isSt_no n (i + 1) h j (by omega) (by omega)
/-- a batch is under way on both sides -/
def OB (σ : OS) (μ : NS) (nb : Nat) (K V : Nat → Nat) : Prop := oBo σ = 1 ∧ nOp μ = 1 ∧ nb ≤ 8 ∧ oBs σ = nI nb ∧ nSt μ = nI nb ∧ (∀ j, j < nb → K j < 64 ∧ V j < 65536 ∧ oK σ j = nI (K j) ∧ oV σ j = nI (V j) ∧ nKs μ j = nI (K j) ∧ nVs μ j = nI (V j)) ∧ ∀ j j', j < j' → j' < nb → K j ≠ K j'
theorem sim_stage {σ : OS} {μ : NS} (h : Rel σ μ) {nb : Nat} {K V : Nat → Nat} (hb : OB σ μ nb K V) (key v : Int32) : simC Rel σ (k_stage σ nb key v) (s_stage σ nb key v) (hs_stage μ nb key v) ∧ (k_stage σ nb key v = 0 → hr_stage μ nb key v = nI (nb + 1)) := by
  obtain ⟨b1, b2, b3, b4, b5, b6, b7⟩ := hb
  have hst : g_sta μ key nb = f_isSt (oK σ) key nb 0 := by
    unfold g_sta
    rw [if_neg (fun z => absurd (b2.symm.trans z) (by decide))]
    exact isSt_alike key nb 0 (fun j _ hj => by rw [(b6 j (by omega)).2.2.1, (b6 j (by omega)).2.2.2.2.1])
  have c : hk_stage μ nb key v = nI (k_stage σ nb key v) ∧ k_stage σ nb key v ≤ 2 := by
    unfold hk_stage k_stage
    rw [hst]
    exact code2 Iff.rfl (or_congr (rc_on h.1) (or_congr (ko_op h) (by omega)))
  by_cases hk : k_stage σ nb key v = 0
  · have hk2 := k_z c.1 hk
    have z := hk
    unfold k_stage at z
    obtain ⟨z1, z2⟩ := code2_0 z
    obtain ⟨k, n, hk64, hn, e1, e2⟩ := args_n (tr_of (fun y => z1 (Or.inl y)))
    have hlt : nb < 8 := Classical.not_not.mp (fun y => z2 (Or.inr (Or.inr y)))
    have hno : f_isSt (oK σ) key nb 0 = false := by
      cases y : f_isSt (oK σ) key nb 0
      · rfl
      · exact absurd (Or.inr y) z1
    have e : hs_stage μ nb key v = mkN 0 (nWc μ) (nTc μ) (nLc μ) (nWr μ) (nOf μ) (nUn μ) (nOp μ) (nI (nb + 1)) (upd (nKs μ) nb key) (upd (nVs μ) nb v) (nTs μ) := by
      unfold hs_stage
      rw [if_pos hk2]
    refine ⟨?_, fun _ => by unfold hr_stage; rw [if_pos hk2]⟩
    rw [e]
    refine sim_yes hk rfl ⟨h.1.same rfl rfl rfl rfl rfl rfl rfl rfl rfl h.1.2.2.2.2.2.1 h.1.2.2.2.2.2.2.1, Or.inr ⟨b1, b2, nb + 1, by omega, rfl, rfl, fun j => if j = nb then k else K j, fun j => if j = nb then n else V j, fun j hj => ?_, fun j j' h1 h2 => ?_⟩, h.2.2.same rfl rfl rfl rfl⟩
    · show (if j = nb then k else K j) < 64 ∧ (if j = nb then n else V j) < 65536 ∧ upd (oK σ) nb key j = nI (if j = nb then k else K j) ∧ upd (oV σ) nb v j = nI (if j = nb then n else V j) ∧ upd (nKs μ) nb key j = nI (if j = nb then k else K j) ∧ upd (nVs μ) nb v j = nI (if j = nb then n else V j)
      by_cases ej : j = nb
      · rw [if_pos ej, if_pos ej, ej, pk_us, pk_us, pk_us, pk_us]
        exact ⟨hk64, hn, e1, e2, e1, e2⟩
      · rw [if_neg ej, if_neg ej, pk_un ej, pk_un ej, pk_un ej, pk_un ej]
        exact b6 j (by omega)
    · show (if j = nb then k else K j) ≠ (if j' = nb then k else K j')
      rw [if_neg (show ¬ j = nb by omega)]
      by_cases ej : j' = nb
      · rw [if_pos ej]
        intro y
        refine isSt_no nb 0 hno j (by omega) (by omega) ?_
        rw [(b6 j (by omega)).2.2.1, y, e1]
      · rw [if_neg ej]
        exact b7 j j' h1 (by omega)
  · exact ⟨sim_no h c hk (by unfold hs_stage; rw [if_neg (k_nz c hk)]), fun z => absurd z hk⟩
/-! mount -/
theorem g_finL_same (b : Nat) : ∀ n i μ, g_same μ (g_finL b n i μ)
  | 0, i, μ => by
    rw [g_finL]
    exact (g_wrL_same μ (9 * b + 8) 3).1
  | n + 1, i, μ => by
    rw [g_finL]
    refine g_same.trans ?_ (g_finL_same b n (i + 1) _)
    split
    · exact g_same.refl _
    · exact (g_perf_same _ _ _ _).1
/-- a mount under way, at the note i -/
def MI (i : Nat) (σ : OS) (μ : NS) : Prop := RC σ μ ∧ nOf μ = 0 ∧ oUn σ = -1 ∧ oBo σ = 0 ∧ oBs σ = 0 ∧ nOp μ = 0 ∧ (∃ nm, nm ≤ 8 ∧ nSt μ = nI nm) ∧ nTh μ = 0 ∧ ∀ b, b < 40 → oL σ (b * 9 + 8) = 1 → i ≤ b ∧ JN σ b ∧ ∀ b', b' < 40 → b' ≠ b → ¬ oL σ (b' * 9 + 8) = 1
theorem rc_line1 {σ : OS} {μ : NS} (h : RC σ μ) (n : Nat) (hn : n < 360) : g_line (nLc μ) n = 1 ↔ oL σ n = 1 := by
  have hl := uI_lt (oL σ n)
  rw [rc_line h n hn, show (1 : Int64) = lN 1 from rfl, pk_lEQ (by omega) (by decide)]
  exact ⟨fun z => by rw [← nI_u (oL σ n), z]; rfl, fun z => by rw [z]; decide⟩
theorem mount_alike : ∀ n i σ μ, i + n = 40 → MI i σ μ → MI 40 (f_mountL n i σ) (g_mnL n i μ)
  | 0, i, σ, μ, hi, h => by
    have e : i = 40 := by omega
    rw [f_mountL, g_mnL, ← e]
    exact h
  | n + 1, i, σ, μ, hi, h => by
    obtain ⟨h1, h2, h3, h4, h5, h6, h7, h8, h9⟩ := h
    have hl := rc_line1 h1 (9 * i + 8) (by omega)
    rw [Nat.mul_comm 9 i] at hl
    rw [f_mountL, g_mnL, Nat.mul_comm 9 i]
    by_cases z : oL σ (i * 9 + 8) = 1
    · rw [if_pos z, if_pos (hl.mpr z)]
      obtain ⟨-, hJ, hoth⟩ := h9 i (by omega) z
      have hc := st_car (b := i) (by omega) 8 0 σ μ (by omega) h1 h2 hJ z
      have hs := g_finL_same i 8 0 μ
      unfold f_car g_fin
      generalize f_carL i 8 0 σ = r at *
      generalize g_finL i 8 0 μ = μ1 at *
      obtain ⟨ok, σ1⟩ := r
      obtain ⟨c1, c2, c3, c4⟩ := hc
      obtain ⟨k1, k2, k3, k4, k5, k6, k7, k8⟩ := c1
      have ko : ok = true := (k3 h3).1
      refine mount_alike n (i + 1) σ1 μ1 (by omega) ⟨k1, k2.mp ko, (k3 h3).2, k7.trans h4, k8.trans h5, hs.2.2.2.2.1.trans h6, ?_, hs.2.2.2.2.2.trans h8, fun b hb y => ?_⟩
      · obtain ⟨nm, a, e⟩ := h7
        exact ⟨nm, a, hs.2.2.2.1.trans e⟩
      · exfalso
        by_cases eb : b = i
        · rw [eb] at y
          have c4 : oL σ1 (i * 9 + 8) = if ok = true then 3 else 1 := c4
          rw [c4, if_pos ko] at y
          exact absurd y (by decide)
        · have c3 := c3 (b * 9 + 8) (by omega)
          exact hoth b hb eb (c3.symm.trans y)
    · rw [if_neg z, if_neg (fun y => z (hl.mp y))]
      refine mount_alike n (i + 1) σ μ (by omega) ⟨h1, h2, h3, h4, h5, h6, h7, h8, fun b hb y => ?_⟩
      obtain ⟨a1, a2⟩ := h9 b hb y
      have eb : b ≠ i := fun e => z (by rw [← e]; exact y)
      exact ⟨by omega, a2⟩
theorem named {σ : OS} {μ : NS} (h : RC σ μ) : ∀ j, j < 40 → g_named (nLc μ) j := by
  intro j hj i hi
  rcases (h.2.2.2.1 j hj).2 i hi with e | ⟨v, k, w, hv, hk, hw, e⟩
  · refine Or.inl ((rc_line0 h _ (by omega)).mpr ?_)
    rw [Nat.mul_comm 9 j]
    exact e
  · refine Or.inr ⟨w, hw, ?_⟩
    have hl := lineN_lt hv hk hw
    rw [rc_line h _ (by omega), Nat.mul_comm 9 j, e, u_nI (by omega)]
    exact glwd_n hv hk hw
theorem sim_mount {σ : OS} {μ : NS} (h : Rel σ μ) : simC Rel σ (k_mount σ) (s_mount σ) (hs_mount μ) ∧ (k_mount σ = 0 → hr_mount μ = r_mount σ) := by
  have hon := rc_on h.1
  by_cases h0 : nOf μ = 0
  · have ho : ¬ oOn σ = 0 := fun z => hon.mp z h0
    have e1 : k_mount σ = 1 := by
      unfold k_mount
      rw [if_neg ho]
    have e2 : hs_mount μ = h_th μ 1 := by
      unfold hs_mount
      rw [if_pos h0]
    exact ⟨sim_no h (x := 1) ⟨by rw [e1]; rfl, by omega⟩ (by omega) e2, fun z => by omega⟩
  · have ho : oOn σ = 0 := hon.mpr h0
    have e1 : k_mount σ = 0 := by
      unfold k_mount
      rw [if_pos ho]
    have e2 : hs_mount μ = g_mnL 40 0 (g_mn0 μ) := by
      unfold hs_mount
      rw [if_neg h0]
    have hst : ∃ nm, nm ≤ 8 ∧ nSt μ = nI nm := by
      rcases h.2.1 with ⟨_, _, _, y⟩ | ⟨_, _, nb, y1, _, y2, _⟩
      · exact y
      · exact ⟨nb, y1, y2⟩
    have m0 : MI 0 (f_mount0 σ) (g_mn0 μ) := by
      refine ⟨h.1.same rfl rfl rfl rfl rfl rfl rfl rfl rfl rfl ?_, rfl, rfl, rfl, rfl, rfl, hst, rfl, fun b hb y => ⟨Nat.zero_le _, ?_⟩⟩
      · show (1 : Int32) = bI (decide ((0 : Int32) = 0))
        decide
      · obtain ⟨a, c⟩ := h.2.2.2 b hb y
        exact ⟨a.same rfl rfl (fun _ _ => rfl), c⟩
    have m1 := mount_alike 40 0 _ _ rfl m0
    have hr : hr_mount μ = g_cntB (fun k => decide (¬ g_pres (nTc (hs_mount μ)) (nI k) 160 < 0)) 64 0 0 := by
      unfold hr_mount
      rw [if_neg h0]
    have e3 : s_mount σ = f_mountL 40 0 (f_mount0 σ) := by unfold s_mount; rfl
    rw [← e2, ← e3] at m1
    unfold r_mount
    rw [hr]
    clear hr e2 e3 m0
    generalize s_mount σ = σ1 at *
    generalize hs_mount μ = μ1 at *
    obtain ⟨k1, k2, k3, k4, k5, k6, k7, k8, k9⟩ := m1
    refine ⟨sim_yes e1 k8 ⟨k1, Or.inl ⟨k4, k6, k5, k7⟩, RN.none (fun b hb y => ?_)⟩, fun _ => ?_⟩
    · have := (k9 b hb y).1
      omega
    · refine cnt_alike _ _ 64 0 0 (fun k _ _ => ?_)
      show decide (¬ f_pres (oT σ1) (nI k) 160 = -1) = decide (¬ g_pres (nTc μ1) (nI k) 160 < 0)
      rw [rc_pres k1]
      exact decide_eq_decide.mpr (not_congr pres_lt.symm)
