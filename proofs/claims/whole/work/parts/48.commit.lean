/-! commit, the start, and all together -/
theorem empty_y {ln : Nat → Int32} {b : Nat} : ∀ n i, f_emptyL ln b n i = true → ∀ j, i ≤ j → j < i + n → ln (b * 9 + j) = 0
  | 0, _, _, j, h1, h2 => absurd h2 (by omega)
  | n + 1, i, h, j, h1, h2 => by
    rw [f_emptyL] at h
    by_cases e : ln (b * 9 + i) = 0
    · rw [if_pos e] at h
      by_cases ej : j = i
      · rw [ej]
        exact e
      · exact empty_y n (i + 1) h j (by omega) (by omega)
    · rw [if_neg e] at h
      exact Bool.noConfusion h
theorem g_cl2_same : ∀ n k μ, g_same μ (g_cl2 n k μ)
  | 0, _, _ => g_same.refl _
  | n + 1, k, μ => by
    rw [g_cl2]
    exact (g_perf_same μ _ _ _).1.trans (g_cl2_same n (k + 1) _)
/-- a note just written may be carried out -/
theorem JN_of {σ : OS} {b nb : Nat} {K V T : Nat → Nat} (hT : ∀ j, j < nb → PL σ 0 (K j) (V j) (T j) ∧ ∀ j', j < j' → j' < nb → T j ≠ T j') (hl : ∀ j, j < nb → oL σ (b * 9 + j) = nI (lineN (V j) (K j) (T j))) (hz : ∀ j, nb ≤ j → j < 8 → oL σ (b * 9 + j) = 0) : JN σ b := by
  refine ⟨fun i hi => ?_, fun i j hi hj hne h1 h2 => ?_⟩
  · by_cases e : i < nb
    · obtain ⟨q1, q2, q3, q4, q5⟩ := (hT i e).1
      refine Or.inr ⟨V i, K i, T i, q2, q1, q3, hl i e, q4, ?_⟩
      rcases q5 with q5 | q5
      · exact Or.inr q5
      · exact Or.inl q5.1
    · exact Or.inl (hz i (by omega) hi)
  · have ei : i < nb := Nat.lt_of_not_le (fun y => h1 (hz i y hi))
    have ej : j < nb := Nat.lt_of_not_le (fun y => h2 (hz j y hj))
    obtain ⟨q1, q2, q3, q4, q5⟩ := (hT i ei).1
    obtain ⟨r1, r2, r3, r4, r5⟩ := (hT j ej).1
    rw [hl i ei, hl j ej, lwN_n q2 q1 q3, lwN_n r2 r1 r3]
    rcases Nat.lt_or_ge i j with y | y
    · exact (hT i ei).2 j y ej
    · exact fun z => (hT j ej).2 i (by omega) ei z.symm
/-- the writes of a commit: the note b, and the note carried out -/
theorem st_run {σ : OS} {μ : NS} (h : RC σ μ) (h0 : nOf μ = 0) (hno : ∀ b, b < 40 → ¬ oL σ (b * 9 + 8) = 1) {b nb : Nat} (hb : b < 40) (hnb : nb ≤ 8) {K V T : Nat → Nat} (he : f_empty (oL σ) b = true)
    (hK : ∀ j, j < nb → nVs μ j = nI (V j) ∧ nKs μ j = nI (K j) ∧ nTs μ j = nI (T j) ∧ oP σ j = nI (lineN (V j) (K j) (T j))) (hT : ∀ j, j < nb → PL σ 0 (K j) (V j) (T j) ∧ ∀ j', j < j' → j' < nb → T j ≠ T j')
    {R : Bool × OS} (eR : R = if (f_note σ b nb).1 = true then f_car (f_note σ b nb).2 b else (false, (f_note σ b nb).2)) {μ2 : NS} (e2 : μ2 = g_wrL (g_cl2 nb 0 (g_wrL (g_cl1 b nb 0 μ) (9 * b + 8) 1)) (9 * b + 8) 3) :
    RC R.2 μ2 ∧ (R.1 = true ↔ nOf μ2 = 0) ∧ RN R.2 μ2 ∧ g_same μ μ2 := by
  have hsame : g_same μ μ2 := by
    rw [e2]
    exact (((g_cl1_same b nb 0 μ).trans (g_wrL_same _ _ _).1).trans (g_cl2_same nb 0 _)).trans (g_wrL_same _ _ _).1
  have hz := empty_y 9 0 he
  have hn := st_note hb nb 0 σ μ (by omega) h h0 (fun j h1 h2 => hz j h1 (by omega)) (fun j _ hj => by
    obtain ⟨a1, a2, a3, a4⟩ := hK j (by omega)
    obtain ⟨⟨q1, q2, q3, -⟩, -⟩ := hT j (by omega)
    exact ⟨V j, K j, T j, q2, q1, q3, a4, a1, a2, a3⟩)
  have hs1 : g_same μ (g_wrL (g_cl1 b nb 0 μ) (9 * b + 8) 1) := (g_cl1_same b nb 0 μ).trans (g_wrL_same _ _ _).1
  unfold f_note at eR
  generalize f_noteL b nb 0 σ = N at *
  generalize g_wrL (g_cl1 b nb 0 μ) (9 * b + 8) 1 = μ1 at *
  obtain ⟨ok, σ1⟩ := N
  obtain ⟨n1, n2, n3, n4, n5, n6⟩ := hn
  cases ok with
  | false =>
    have hoff : ¬ nOf μ1 = 0 := fun z => Bool.noConfusion (n1.2.1.mpr z)
    rw [if_neg Bool.noConfusion] at eR
    rw [cl2_off hoff, wrL_off hoff] at e2
    rw [e2] at hsame
    rw [eR, e2]
    refine ⟨n1.1, n1.2.1, RN.none (fun b' hb' => ?_), hsame⟩
    show ¬ oL σ1 (b' * 9 + 8) = 1
    by_cases eb : b' = b
    · rw [eb, show oL σ1 (b * 9 + 8) = 0 from n6 rfl]
      decide
    · rw [show oL σ1 (b' * 9 + 8) = oL σ (b' * 9 + 8) from n4 _ (by omega)]
      exact hno b' hb'
  | true =>
    obtain ⟨l1, l2, l3⟩ := n5 rfl
    have l1 : ∀ j, 0 ≤ j → j < 0 + nb → oL σ1 (b * 9 + j) = oP σ j := l1
    have l2 : ∀ j, 0 + nb ≤ j → j < 8 → oL σ1 (b * 9 + j) = 0 := l2
    have l3 : oL σ1 (b * 9 + 8) = 1 := l3
    have n1 : stp σ σ1 μ1 true := n1
    have hoth : ∀ b', b' < 40 → b' ≠ b → ¬ oL σ1 (b' * 9 + 8) = 1 := by
      intro b' hb' eb
      rw [show oL σ1 (b' * 9 + 8) = oL σ (b' * 9 + 8) from n4 _ (by omega)]
      exact hno b' hb'
    have hJ : JN σ1 b := by
      refine JN_of (nb := nb) (K := K) (V := V) (T := T) (fun j hj => ?_) (fun j hj => (l1 j (by omega) (by omega)).trans (hK j hj).2.2.2) (fun j h1 h2 => l2 j (by omega) h2)
      have := hT j hj
      unfold PL at this ⊢
      rw [show oW σ1 = oW σ from n2, show oT σ1 = oT σ from n3]
      exact this
    have ef : g_finL b 8 0 μ1 = μ2 := by
      rw [e2]
      refine cl2_fin nb 0 8 μ1 (by omega) (by omega) (fun j _ hj => ?_) (fun j h1 h2 => ?_)
      · obtain ⟨a1, a2, a3, a4⟩ := hK j (by omega)
        obtain ⟨⟨q1, q2, q3, -⟩, -⟩ := hT j (by omega)
        have hl := lineN_lt q2 q1 q3
        refine ⟨V j, K j, T j, q2, q1, q3, ?_, ?_, ?_, ?_⟩
        · rw [rc_line n1.1 _ (by omega), Nat.mul_comm 9 b, l1 j (by omega) (by omega), a4, u_nI (by omega)]
        · rw [hs1.2.1]
          exact a1
        · rw [hs1.1]
          exact a2
        · rw [hs1.2.2.1]
          exact a3
      · refine (rc_line0 n1.1 _ (by omega)).mpr ?_
        rw [Nat.mul_comm 9 b]
        exact l2 j h1 h2
    have hc := st_car hb 8 0 σ1 μ1 (by omega) n1.1 (n1.2.1.mp rfl) hJ l3
    rw [if_pos rfl] at eR
    unfold f_car at eR
    have eR : R = f_carL b 8 0 σ1 := eR
    rw [ef, ← eR] at hc
    clear eR ef e2
    obtain ⟨ok2, σ2⟩ := R
    obtain ⟨c1, c2, c3, c4⟩ := hc
    have c3 : ∀ q, q ≠ b * 9 + 8 → oL σ2 q = oL σ1 q := c3
    have c4 : oL σ2 (b * 9 + 8) = if ok2 = true then 3 else 1 := c4
    refine ⟨c1.1, c1.2.1, ⟨fun z b' hb' => ?_, fun b' hb' y => ?_⟩, hsame⟩
    · show ¬ oL σ2 (b' * 9 + 8) = 1
      by_cases eb : b' = b
      · rw [eb, c4, if_pos (c1.2.1.mpr z)]
        decide
      · rw [c3 _ (by omega)]
        exact hoth b' hb' eb
    · have y : oL σ2 (b' * 9 + 8) = 1 := y
      have eb : b' = b := by
        by_cases eb : b' = b
        · exact eb
        · rw [c3 _ (by omega)] at y
          exact absurd y (hoth b' hb' eb)
      rw [eb]
      refine ⟨c2, fun b'' hb'' ne => ?_⟩
      show ¬ oL σ2 (b'' * 9 + 8) = 1
      rw [c3 _ (by omega)]
      exact hoth b'' hb'' ne
theorem sim_commit {σ : OS} {μ : NS} (h : Rel σ μ) {nb : Nat} {K V : Nat → Nat} (hb : OB σ μ nb K V) : simC Rel σ (k_open σ) (s_commit σ nb) (hs_commit μ nb) ∧ (k_open σ = 0 → hr_commit μ nb = r_commit σ nb) := by
  obtain ⟨b1, b2, b3, b4, b5, b6, b7⟩ := hb
  have c := code_open h
  by_cases hk : k_open σ = 0
  · have hk2 := k_z c.1 hk
    have h0 : nOf μ = 0 := Classical.not_not.mp (fun y => (open_0 hk).1 ((rc_on h.1).mpr y))
    unfold hs_commit hr_commit r_commit s_commit
    rw [if_neg (fun z : ¬ hk_open μ = 0 => z hk2), if_neg (fun z : ¬ hk_open μ = 0 => z hk2)]
    by_cases n0 : nb = 0
    · rw [if_pos n0, if_pos n0, if_pos n0, if_pos n0]
      exact ⟨sim_yes hk rfl ⟨h.1.same rfl rfl rfl rfl rfl rfl rfl rfl rfl h.1.2.2.2.2.2.1 h.1.2.2.2.2.2.2.1, Or.inl ⟨rfl, rfl, rfl, nb, b3, b5⟩, h.2.2.same rfl rfl rfl rfl⟩, fun _ => rfl⟩
    · rw [if_neg n0, if_neg n0, if_neg n0, if_neg n0, rc_nt h.1]
      rcases f_first_in (f_empty (oL σ)) 40 0 with ef | ⟨b, -, hb, ef, he⟩
      · rw [ef, if_pos rfl, if_pos (by decide), if_pos rfl, if_pos (by decide)]
        exact ⟨sim_yes hk rfl h, fun _ => rfl⟩
      · have hb : b < 40 := by omega
        rw [ef, if_neg (takes_ne (by omega)), if_neg (nI_pos (by omega)), if_neg (takes_ne (by omega)), if_neg (nI_pos (by omega))]
        have ent : g_nt μ = b := by
          unfold g_nt
          rw [rc_nt h.1, ef, nI_clamp (by omega)]
        have enf : f_noteOf σ = b := by
          unfold f_noteOf
          rw [ef, nI_clamp (by omega)]
        obtain ⟨p1, pl, ts, p2, p3, -, p5⟩ := st_plan (σ := σ) (μ := h_th μ 0) h.1 nb 0 0 (oP σ) (nTs μ) (by omega) (by omega) (fun j _ hj => b6 j (by omega)) (fun j j' _ h1 h2 => b7 j j' h1 (by omega))
        have ep : f_planL nb 0 0 (oSP σ (oP σ)) = f_plan σ nb := by
          unfold f_plan
          rfl
        have eg : g_shL nb 0 0 (wTs (h_th μ 0) (nTs μ)) = g_sh (h_th μ 0) nb := by
          unfold g_sh
          rfl
        rw [ep] at p1 p2 p5
        rw [eg] at p1 p3
        unfold f_run g_c2 g_c1 g_c0
        rw [ent, enf]
        generalize f_plan σ nb = F at *
        generalize g_sh (h_th μ 0) nb = G at *
        obtain ⟨okF, σF⟩ := F
        obtain ⟨okG, μG⟩ := G
        have q1 : okF = okG := p1
        have q2 : σF = oSP σ pl := p2
        have q3 : μG = wTs (h_th μ 0) ts := p3
        rw [← q1]
        clear ep eg p1 p2 p3
        dsimp only
        cases okF with
        | false =>
          rw [if_pos rfl, if_pos rfl, if_pos rfl, if_pos rfl]
          refine ⟨sim_yes hk ?_ ?_, fun _ => rfl⟩
          · rw [q3]
          · rw [q2, q3]
            exact ⟨h.1.same rfl rfl rfl rfl rfl rfl rfl rfl rfl h.1.2.2.2.2.2.1 h.1.2.2.2.2.2.2.1, h.2.1.same rfl rfl rfl rfl rfl rfl rfl rfl, h.2.2.same rfl rfl rfl rfl⟩
        | true =>
          have tf : ¬ true = false := Bool.noConfusion
          rw [if_neg tf, if_neg tf, if_neg tf, if_neg tf]
          obtain ⟨T, hT⟩ := p5 rfl
          have hrun := st_run (σ := oSP σ pl) (μ := g_op0 (wTs (h_th μ 0) ts)) (K := K) (V := V) (T := T) (h.1.same rfl rfl rfl rfl rfl rfl rfl rfl rfl h.1.2.2.2.2.2.1 h.1.2.2.2.2.2.2.1) h0 (h.2.2.1 h0) hb b3 he (fun j hj => by
            obtain ⟨a1, a2, a3, a4⟩ := hT j (by omega) (by omega)
            exact ⟨(b6 j hj).2.2.2.2.2, (b6 j hj).2.2.2.2.1, a3, a2⟩) (fun j hj => by
            obtain ⟨a1, a2, a3, a4⟩ := hT j (by omega) (by omega)
            exact ⟨a1, fun j' h1 h2 => a4 j' h1 (by omega)⟩) rfl rfl
          show simC Rel σ (k_open σ) (f_close (if (f_note σF b nb).1 = true then f_car (f_note σF b nb).2 b else (false, (f_note σF b nb).2)).2) (g_wrL (g_cl2 nb 0 (g_wrL (g_cl1 b nb 0 (g_op0 μG)) (9 * b + 8) 1)) (9 * b + 8) 3) ∧ (k_open σ = 0 → (if nOf (g_wrL (g_cl2 nb 0 (g_wrL (g_cl1 b nb 0 (g_op0 μG)) (9 * b + 8) 1)) (9 * b + 8) 3) = 0 then nWr (g_wrL (g_cl2 nb 0 (g_wrL (g_cl1 b nb 0 (g_op0 μG)) (9 * b + 8) 1)) (9 * b + 8) 3) - nWr (g_op0 μG) else -2) = if (if (f_note σF b nb).1 = true then f_car (f_note σF b nb).2 b else (false, (f_note σF b nb).2)).1 = true then oWr (if (f_note σF b nb).1 = true then f_car (f_note σF b nb).2 b else (false, (f_note σF b nb).2)).2 - oWr σF else -2)
          rw [q2, q3]
          generalize (if (f_note (oSP σ pl) b nb).1 = true then f_car (f_note (oSP σ pl) b nb).2 b else (false, (f_note (oSP σ pl) b nb).2)) = R at *
          generalize g_wrL (g_cl2 nb 0 (g_wrL (g_cl1 b nb 0 (g_op0 (wTs (h_th μ 0) ts))) (9 * b + 8) 1)) (9 * b + 8) 3 = μ2 at *
          obtain ⟨ok, σ2⟩ := R
          obtain ⟨r1, r2, r3, r4⟩ := hrun
          refine ⟨sim_yes hk r4.2.2.2.2.2 ⟨r1.same rfl rfl rfl rfl rfl rfl rfl rfl rfl r1.2.2.2.2.2.1 r1.2.2.2.2.2.2.1, Or.inl ⟨rfl, r4.2.2.2.2.1, rfl, nb, b3, r4.2.2.2.1.trans b5⟩, r3.same rfl rfl rfl rfl⟩, fun _ => ?_⟩
          cases ok with
          | false => rw [if_neg (fun z => Bool.noConfusion (r2.mpr z)), if_neg Bool.noConfusion]
          | true =>
            rw [if_pos (r2.mp rfl), if_pos rfl, r1.2.2.2.2.1]
            show oWr σ2 - nWr μ = oWr σ2 - oWr σ
            rw [h.1.2.2.2.2.1]
  · exact ⟨sim_no h c hk (by unfold hs_commit; rw [if_pos (k_nz c hk)]), fun z => absurd z hk⟩
/-! the start -/
theorem sR_0 : ∀ n, sR (fun _ => 0) n = 0
  | 0 => rfl
  | n + 1 => by
    show sR (fun _ => 0) n + pc (uI 0) = 0
    rw [sR_0 n]
    decide
theorem bit_0 (k : Nat) : (0 : Int32) = bI ((uI 0).testBit k) := by
  rw [show uI 0 = 0 from rfl, Nat.zero_testBit]
  rfl
theorem set_0 {σ : OS} (h1 : oW σ = fun _ => 0) (h2 : oT σ = fun _ => 0) (h3 : oL σ = fun _ => 0) : setN σ = 0 := by
  unfold setN
  rw [h1, h2, h3, sR_0 160, sR_0 360]
theorem rel_0 : Rel σ0 μ0 := by
  refine ⟨⟨fun w _ => ⟨fun k _ => bit_0 k, (by decide : uI 0 < 2 ^ 24)⟩, fun w _ => ⟨fun k _ => bit_0 k, Or.inl rfl⟩, fun n _ => fun k _ => bit_0 k, fun b _ => ⟨Or.inl rfl, fun i _ => Or.inl rfl⟩, rfl, rfl, ?_, ?_⟩, Or.inl ⟨rfl, rfl, rfl, 0, by omega, rfl⟩, RN.none (fun b _ => ?_)⟩
  · show (1 : Int32) = bI (decide ((0 : Int32) = 0))
    decide
  · exact ((congrArg nI (set_0 rfl rfl rfl)).trans nI_0).symm
  · show ¬ (0 : Int32) = 1
    decide
/-- the two sides stay alike -/
theorem sim_ok : simOK Rel := by
  refine ⟨rel_0, fun σ μ h => ⟨fun key v => sim_put h key v, fun key => sim_get h key, fun key v => sim_wm h key v, sim_begin h, ?_, sim_ab h, fun z => sim_left h z, fun a b d => sim_cell h a b d, fun z => sim_fail h z, ⟨⟨_, h.1.2.2.2.2.2.2.1⟩, h.1.2.2.2.2.2.2.1, h⟩, ⟨named h.1, sim_mount h⟩, fun key => sim_words h key, fun key j => sim_hist h key j⟩⟩
  rcases h.2.1 with ⟨a1, a2, a3, nm, a4, a5⟩ | ⟨a1, a2, nb, a3, a4, a5, K, V, a6, a7⟩
  · refine ⟨0, nm, by omega, a4, a3.trans nI_0.symm, a5, fun key v => ?_, ?_⟩
    · have hst : g_sta μ key nm = false := by
        unfold g_sta
        rw [if_pos a2]
      have c : hk_stage μ nm key v = nI (k_stage σ 0 key v) ∧ k_stage σ 0 key v ≤ 2 := by
        unfold hk_stage k_stage
        rw [hst]
        exact code2 Iff.rfl (or_congr (rc_on h.1) ⟨fun _ => Or.inl a2, fun _ => Or.inl a1⟩)
      have hk : ¬ k_stage σ 0 key v = 0 := by
        intro z
        unfold k_stage at z
        exact (code2_0 z).2 (Or.inr (Or.inl a1))
      exact ⟨sim_no h c hk (by unfold hs_stage; rw [if_neg (k_nz c hk)]), fun z => absurd z hk⟩
    · have c := code_open h
      have hk : ¬ k_open σ = 0 := fun z => (open_0 z).2 a1
      exact ⟨sim_no h c hk (by unfold hs_commit; rw [if_pos (k_nz c hk)]), fun z => absurd z hk⟩
  · have hb : OB σ μ nb K V := ⟨a1, a2, a3, a4, a5, a6, a7⟩
    exact ⟨nb, nb, a3, a3, a4, a5, fun key v => sim_stage h hb key v, sim_commit h hb⟩
