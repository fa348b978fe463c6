set_option maxHeartbeats 4000000 in
set_option maxRecDepth 100000 in
theorem cm1_share (l : Launch) (dC : Nat → ClassId) (dI : Nat → Nat → Nat) (B : Nat → Nat) (cI : ClassId) (cZ : ClassId) (μ : NS) (sz : Nat) (nb : Nat) (hnb : nSt μ = nI nb) (hnb8 : nb ≤ 8) : Met l yX1_share wsX1_share (rk 5) (va_Pc [.ref (B 0)] (nPre (dC, dI) B cI cZ μ sz)) (va_Qi (fun r u => r = bI (g_sh μ nb).1 ∧ u = (g_sh μ nb).2) (nB (dC, dI) B cI cZ (nX B cI cZ μ sz)) (nX B cI cZ μ sz)) 0 0 (nX B cI cZ μ sz) := by
  refine Met.ofW (cc := cX1_share) (maxL := 3) (ret := (some .boolean)) (by decide) rfl ?_
  intro p e s m args below meth c s₁ Bd hml hv
  obtain ⟨rfl, hsz, hP, hK, hD0⟩ := hv
  have hx := Bd.exec
  have hb := Bd.bytes
  have hr := Bd.returns
  have hB : ∀ w ∈ bX1, w.before _ s = true := fun w h => atoms_spec (ws := wsX1_share) Bd.pre w (List.mem_cons_of_mem _ h)
  have hown : s.vm.findClass RX1 = some m.cls := findClass_of_methodNamed Bd.named
  have hlocks := Bd.notSynchronized
  subst hsz
  have hD : va_D (nX B cI cZ μ s.heap.size) (wN B cI cZ μ) := hD0.self (sz := s.heap.size)
  have hA : ∀ q : Nat, s.heap.size ≤ q → nX B cI cZ μ s.heap.size q := fun q h => Or.inr h
  generalize nX B cI cZ μ s.heap.size = AA at hD hA ⊢
  have hS : va_S AA s.heap s.heap [] := va_S.rf
  have hl := lv_entry ([.ref (B 0)]) (n := 3) (Nat.le_of_ble_eq_true rfl)
  rw [lg_entry_eq]
  generalize (lg_sl ([.ref (B 0)]) ++ List.replicate (3 - (lg_sl ([.ref (B 0)])).length) Slot.unset).toArray = ls at hl ⊢
  have hl : lv_has ls 3 [(0, .ref (B 0))] := hl
  refine lv_iconst (v := 0) hx hb dX1_share_0 (by decide) ?_
  refine lv_istore_n hx hb dX1_share_1 rfl hl (by decide) rfl (fun ls hl => ?_)
  have hl : lv_has ls 3 [(1, .int 0), (0, .ref (B 0))] := hl
  refine lv_iconst (v := 0) hx hb dX1_share_2 (by decide) ?_
  refine lv_istore_n hx hb dX1_share_3 rfl hl (by decide) rfl (fun ls hl => ?_)
  have hl : lv_has ls 3 [(2, .int 0), (1, .int 0), (0, .ref (B 0))] := hl
  have hl := lv_sub (l' := [(0, .ref (B 0)), (1, .int 0), (2, .int 0)]) hl [2, 1, 0] rfl
  have loop : ∀ (n i : Nat) (fr : Nat) (τ : NS) (ls : Array Slot) (H : Heap) (locs : List Loc), i + n = nb → fr ≤ 160 → nSt τ = nI nb → lv_has ls 3 [(0, .ref (B 0)), (1, .int (nI fr)), (2, .int (nI i))] → va_P (dC, dI) vwCl (wN B cI cZ τ) H → va_D AA (wN B cI cZ τ) → va_S AA s.heap H locs → g_shL n i fr τ = g_sh μ nb → W p l e (headSpec wsX1_share (rk 5)).room s m ([.ref (B 0)]).toArray below meth c H locs 0 0 (MQ below (va_Qi (fun r u => r = bI (g_sh μ nb).1 ∧ u = (g_sh μ nb).2) (nB (dC, dI) B cI cZ AA) AA) ([.ref (B 0)]).toArray s 0 0 AA) (F0 m 4 ls []) := by
    intro n
    induction n with
    | zero =>
    intro i fr τ ls H locs hi hfr hst hl hP hD hS hF
    have hi8 : i = nb := by omega
    subst hi8
    refine lv_iload_n hx hb dX1_share_4 rfl (lv_at hl 2 rfl) ?_
    refine lv_aload_n hx hb dX1_share_5 rfl (lv_at hl 0 rfl) ?_
    refine va_get (D := (dC, dI)) (ci := 1) (v := .int (nSt τ)) (C := RX1) (T := TX1) (N := 12) hx hb hB inX1 hown hK hP 0 rfl rfl 8 (by decide) (hB _ mX1_f_staged) (fun _ h9 => h9) rfl dX1_share_6 ?_
    rw [hst]
    refine lv_icmp_ge (tgt := 80) hx hb dX1_share_9 rfl (fun h1 => ?_) (fun h1 => ?_)
    · skip
      refine lv_iconst (v := 1) hx hb dX1_share_80 (by decide) ?_
      exact W.zret (v := 1) hx hb hr (rfl) (fun t ht hW => ⟨⟨1, τ, rfl, ⟨by rw [← hF]; rfl, by rw [← hF]; rfl⟩, by rw [ht]; exact hP, va_K.moved hW.alike hK, hD⟩, hS.F ht⟩) hS.2.2 dX1_share_81
    · skip
      exact absurd (nI_le (Nat.le_refl _) (by omega)) h1
    | succ n ih =>
    intro i fr τ ls H locs hi hfr hst hl hP hD hS hF
    refine lv_iload_n hx hb dX1_share_4 rfl (lv_at hl 2 rfl) ?_
    refine lv_aload_n hx hb dX1_share_5 rfl (lv_at hl 0 rfl) ?_
    refine va_get (D := (dC, dI)) (ci := 1) (v := .int (nSt τ)) (C := RX1) (T := TX1) (N := 12) hx hb hB inX1 hown hK hP 0 rfl rfl 8 (by decide) (hB _ mX1_f_staged) (fun _ h9 => h9) rfl dX1_share_6 ?_
    rw [hst]
    refine lv_icmp_ge (tgt := 80) hx hb dX1_share_9 rfl (fun h1 => ?_) (fun h1 => ?_)
    · skip
      exact absurd h1 (nI_ge (by omega) (by omega))
    · skip
      refine lv_aload_n hx hb dX1_share_12 rfl (lv_at hl 0 rfl) ?_
      refine va_get (D := (dC, dI)) (ci := 1) (v := .ref (B 6)) (C := RX1) (T := TX1) (N := 12) hx hb hB inX1 hown hK hP 0 rfl rfl 11 (by decide) (hB _ mX1_f_takers) (fun _ h9 => h9) rfl dX1_share_13 ?_
      refine lv_iload_n hx hb dX1_share_16 rfl (lv_at hl 2 rfl) ?_
      refine lv_aload_n hx hb dX1_share_17 rfl (lv_at hl 0 rfl) ?_
      refine lv_aload_n hx hb dX1_share_18 rfl (lv_at hl 0 rfl) ?_
      refine va_get (D := (dC, dI)) (ci := 1) (v := .ref (B 4)) (C := RX1) (T := TX1) (N := 12) hx hb hB inX1 hown hK hP 0 rfl rfl 9 (by decide) (hB _ mX1_f_keys) (fun _ h9 => h9) rfl dX1_share_19 ?_
      refine lv_iload_n hx hb dX1_share_22 rfl (lv_at hl 2 rfl) ?_
      refine va_iald (D := (dC, dI)) (i := (nI i)) hx hb hK hP 4 0 rfl rfl (vp_in_nI (by omega) (by decide)) dX1_share_23 ?_
      rw [show ((nI i)).toNatClampNeg = i from nI_clamp (by omega)]
      refine lv_aload_n hx hb dX1_share_24 rfl (lv_at hl 0 rfl) ?_
      refine va_get (D := (dC, dI)) (ci := 1) (v := .ref (B 5)) (C := RX1) (T := TX1) (N := 12) hx hb hB inX1 hown hK hP 0 rfl rfl 10 (by decide) (hB _ mX1_f_values) (fun _ h9 => h9) rfl dX1_share_25 ?_
      refine lv_iload_n hx hb dX1_share_28 rfl (lv_at hl 2 rfl) ?_
      refine va_iald (D := (dC, dI)) (i := (nI i)) hx hb hK hP 5 0 rfl rfl (vp_in_nI (by omega) (by decide)) dX1_share_29 ?_
      rw [show ((nI i)).toNatClampNeg = i from nI_clamp (by omega)]
      refine lv_iload_n hx hb dX1_share_30 rfl (lv_at hl 1 rfl) ?_
      refine ck1_taker hx hb hml hown hB hl.1 hP hK hfr dX1_share_31 (Nat.le_of_ble_eq_true rfl) (Nat.le_of_ble_eq_true rfl) ⟨Nat.zero_le _, Nat.zero_le _⟩ (Nat.le_of_ble_eq_true rfl) ?_
      refine va_iast (D := (dC, dI)) (i := (nI i)) (x := (g_tk τ i fr)) hx hb hK hP hD hS 6 0 rfl rfl (vp_in_nI (by omega) (by decide)) dX1_share_34 (fun H locs hP hD hS => ?_)
      rw [show ((nI i)).toNatClampNeg = i from nI_clamp (by omega)] at hP hD
      have hP : va_P (dC, dI) vwCl (wN B cI cZ (mkN (nTh τ) (nWc τ) (nTc τ) (nLc τ) (nWr τ) (nOf τ) (nUn τ) (nOp τ) (nSt τ) (nKs τ) (nVs τ) (upd (nTs τ) (i) ((g_tk τ i fr))))) H := hP
      have hD : va_D AA (wN B cI cZ (mkN (nTh τ) (nWc τ) (nTc τ) (nLc τ) (nWr τ) (nOf τ) (nUn τ) (nOp τ) (nSt τ) (nKs τ) (nVs τ) (upd (nTs τ) (i) ((g_tk τ i fr))))) := hD
      refine lv_aload_n hx hb dX1_share_35 rfl (lv_at hl 0 rfl) ?_
      refine va_get (D := (dC, dI)) (ci := 1) (v := .ref (B 6)) (C := RX1) (T := TX1) (N := 12) hx hb hB inX1 hown hK hP 0 rfl rfl 11 (by decide) (hB _ mX1_f_takers) (fun _ h9 => h9) rfl dX1_share_36 ?_
      refine lv_iload_n hx hb dX1_share_39 rfl (lv_at hl 2 rfl) ?_
      refine va_iald (D := (dC, dI)) (i := (nI i)) hx hb hK hP 6 0 rfl rfl (vp_in_nI (by omega) (by decide)) dX1_share_40 ?_
      rw [show ((nI i)).toNatClampNeg = i from nI_clamp (by omega)]
      refine lv_topi (fun tkv etk => ?_)
      have etk2 : tkv = g_tk τ i fr := etk.trans pk_us
      clear etk
      subst etk2
      refine lv_if_ge (tgt := 46) hx hb dX1_share_41 rfl (fun h2 => ?_) (fun h2 => ?_)
      · skip
        have h2 : 0 ≤ g_tk τ i fr := h2
        obtain ⟨k, hk, ek⟩ : ∃ k, k < 160 ∧ g_tk τ i fr = nI k := (g_take_in _ _ _ _ _ hfr).resolve_left (fun z => absurd h2 (by rw [show g_tk τ i fr = -1 from z]; decide))
        have ekc : (g_tk τ i fr).toNatClampNeg = k := by rw [ek]; exact nI_clamp (by omega)
        have hF2 : g_shL n (i + 1) (if g_mov (nWc τ) (nTc τ) (nKs τ i) (nVs τ i) = true then k + 1 else fr) (wTs τ (upd (nTs τ) i (g_tk τ i fr))) = g_sh μ nb := by rw [← hF, g_shL, if_pos h2, ekc]
        refine lv_aload_n hx hb dX1_share_46 rfl (lv_at hl 0 rfl) ?_
        refine lv_aload_n hx hb dX1_share_47 rfl (lv_at hl 0 rfl) ?_
        refine va_get (D := (dC, dI)) (ci := 1) (v := .ref (B 4)) (C := RX1) (T := TX1) (N := 12) hx hb hB inX1 hown hK hP 0 rfl rfl 9 (by decide) (hB _ mX1_f_keys) (fun _ h9 => h9) rfl dX1_share_48 ?_
        refine lv_iload_n hx hb dX1_share_51 rfl (lv_at hl 2 rfl) ?_
        refine va_iald (D := (dC, dI)) (i := (nI i)) hx hb hK hP 4 0 rfl rfl (vp_in_nI (by omega) (by decide)) dX1_share_52 ?_
        rw [show ((nI i)).toNatClampNeg = i from nI_clamp (by omega)]
        refine lv_aload_n hx hb dX1_share_53 rfl (lv_at hl 0 rfl) ?_
        refine va_get (D := (dC, dI)) (ci := 1) (v := .ref (B 5)) (C := RX1) (T := TX1) (N := 12) hx hb hB inX1 hown hK hP 0 rfl rfl 10 (by decide) (hB _ mX1_f_values) (fun _ h9 => h9) rfl dX1_share_54 ?_
        refine lv_iload_n hx hb dX1_share_57 rfl (lv_at hl 2 rfl) ?_
        refine va_iald (D := (dC, dI)) (i := (nI i)) hx hb hK hP 5 0 rfl rfl (vp_in_nI (by omega) (by decide)) dX1_share_58 ?_
        rw [show ((nI i)).toNatClampNeg = i from nI_clamp (by omega)]
        refine ck1_moves hx hb hml hown hB hl.1 hP hK dX1_share_59 (Nat.le_of_ble_eq_true rfl) (Nat.le_of_ble_eq_true rfl) ⟨Nat.zero_le _, Nat.zero_le _⟩ (Nat.le_of_ble_eq_true rfl) ?_
        refine lv_if_eq (tgt := 74) hx hb dX1_share_62 rfl (fun h3 => ?_) (fun h3 => ?_)
        · skip
          rw [if_neg (by rw [bI_0.mp h3]; decide)] at hF2
          refine lv_iinc (k := 2) (v := (nI (i + 1))) hx hb dX1_share_74 hl rfl (nI_1 i) (by decide) rfl (fun ls hl => ?_)
          have hl : lv_has ls 3 [(2, .int (nI (i + 1))), (0, .ref (B 0)), (1, .int (nI fr))] := hl
          refine lv_goto (tgt := 4) hx hb dX1_share_77 rfl ?_
          exact ih (i + 1) fr (wTs τ (upd (nTs τ) i (g_tk τ i fr))) ls H locs (by omega) hfr hst (lv_sub hl [1, 2, 0] rfl) hP hD hS hF2
        · skip
          rw [if_pos (bI_n0.mp h3)] at hF2
          refine lv_aload_n hx hb dX1_share_65 rfl (lv_at hl 0 rfl) ?_
          refine va_get (D := (dC, dI)) (ci := 1) (v := .ref (B 6)) (C := RX1) (T := TX1) (N := 12) hx hb hB inX1 hown hK hP 0 rfl rfl 11 (by decide) (hB _ mX1_f_takers) (fun _ h9 => h9) rfl dX1_share_66 ?_
          refine lv_iload_n hx hb dX1_share_69 rfl (lv_at hl 2 rfl) ?_
          refine va_iald (D := (dC, dI)) (i := (nI i)) hx hb hK hP 6 0 rfl rfl (vp_in_nI (by omega) (by decide)) dX1_share_70 ?_
          rw [show ((nI i)).toNatClampNeg = i from nI_clamp (by omega)]
          refine lv_topi (fun tkw etw => ?_)
          have etw2 : tkw = nI k := (etw.trans pk_us).trans ek
          clear etw
          subst etw2
          refine lv_iconst (v := 1) hx hb dX1_share_71 (by decide) ?_
          refine lv_iadd hx hb dX1_share_72 ?_
          rw [nI_1]
          refine lv_istore_n hx hb dX1_share_73 rfl hl (by decide) rfl (fun ls hl => ?_)
          have hl : lv_has ls 3 [(1, .int (nI (k + 1))), (0, .ref (B 0)), (2, .int (nI i))] := hl
          refine lv_iinc (k := 2) (v := (nI (i + 1))) hx hb dX1_share_74 hl rfl (nI_1 i) (by decide) rfl (fun ls hl => ?_)
          have hl : lv_has ls 3 [(2, .int (nI (i + 1))), (1, .int (nI (k + 1))), (0, .ref (B 0))] := hl
          refine lv_goto (tgt := 4) hx hb dX1_share_77 rfl ?_
          exact ih (i + 1) (k + 1) (wTs τ (upd (nTs τ) i (g_tk τ i fr))) ls H locs (by omega) (by omega) hst (lv_sub hl [2, 1, 0] rfl) hP hD hS hF2
      · skip
        refine lv_iconst (v := 0) hx hb dX1_share_44 (by decide) ?_
        exact W.zret (v := 0) hx hb hr (rfl) (fun t ht hW => ⟨⟨0, mkN (nTh τ) (nWc τ) (nTc τ) (nLc τ) (nWr τ) (nOf τ) (nUn τ) (nOp τ) (nSt τ) (nKs τ) (nVs τ) (upd (nTs τ) (i) ((g_tk τ i fr))), rfl, ⟨by rw [← hF, g_shL, if_neg h2]; rfl, by rw [← hF, g_shL, if_neg h2]⟩, by rw [ht]; exact hP, va_K.moved hW.alike hK, hD⟩, hS.F ht⟩) hS.2.2 dX1_share_45
  exact loop nb 0 0 μ ls s.heap [] (by omega) (by omega) hnb hl hP hD hS rfl
set_option maxRecDepth 100000 in
theorem ck1_share {p : Program} {l : Launch} {e : Env} {R : Room} {s : State} {m : MethodId} {args : Array Value} {below : List Frame} {meth : Method} {c : Code} {H : Heap} {locs : List Loc} {cells slots : Nat} {Q : State → Prop} {cc : ByteArray} {nL pc : Nat} {ls : Array Slot} {rest : List Value} {A0 : Nat → Prop} {H0 : Heap} {dC : Nat → ClassId} {dI : Nat → Nat → Nat} {B : Nat → Nat} {cI : ClassId} {cZ : ClassId} {μ : NS} {nb : Nat} (hx : p.tables.exec = Jvm.exec) (hb : c.code = cc) (hml : c.maxLocals = nL) (hown : s.vm.findClass RX1 = some m.cls) (hB : ∀ w ∈ bX1, w.before args s = true) (hsz : ls.size = nL) (hP : va_P (dC, dI) vwCl (wN B cI cZ μ) H) (hK : va_K (dC, dI) vwCl [(cI, .int), (cZ, .boolean)] s) (hD : va_D A0 (wN B cI cZ μ)) (hS : va_S A0 H0 H locs) (hA : ∀ q, H0.size ≤ q → A0 q) (hnb : nSt μ = nI nb) (hnb8 : nb ≤ 8) (hd : decode cc pc = .ok (.invokevirtual 132, 3)) (hF : 6 ≤ R.frames) (hLo : 172 ≤ R.locals) (hc : cells ≤ R.cells ∧ slots ≤ R.slots) (hst : (rest.map fun v => v.category).sum ≤ 8)
    (kk : ∀ (H1 : Heap) (locs1 : List Loc), va_P (dC, dI) vwCl (wN B cI cZ ((g_sh μ nb).2)) H1 → va_D A0 (wN B cI cZ ((g_sh μ nb).2)) → va_S A0 H0 H1 locs1 → W p l e R s m args below meth c H1 locs1 cells slots Q (F0 m (pc + 3) ls (.int (bI (g_sh μ nb).1) :: rest))) : W p l e R s m args below meth c H locs cells slots Q (F0 m pc ls (.ref (B 0) :: rest)) := by
  have hFc := va_free (wc := wN B cI cZ μ) hD hS hA [0, 1, 2, 3, 4, 5, 6] rfl
  refine va_calli (va_runV (C := RX1) (As := []) (rest := rest) ⟨hx, hb, hml, hown, hB⟩ (cm1_share l dC dI B cI cZ μ H.size nb hnb hnb8) (cwV 0 hB goX1_share rfl rfl rfl ⟨rfl, by decide, by decide, by decide +kernel⟩ ⟨hF, hLo⟩) ⟨fun a U g mk q => by obtain ⟨q0, q1, qP, qK, qD⟩ := q; exact ⟨q0, q1, qP, va_K.moved (u := U) (U := U.calling g mk a) (Vm.Alike.refl U.vm) qK, qD⟩, va_recv (q := (RX1, TX1, 12)) hK hP rfl (q0 := 0) rfl, fun U hU hW => ⟨rfl, by rw [hU], by rw [hU]; exact hP, va_K.moved hW.alike hK, hD.weaken (fun _ _ _ _ => trivial)⟩⟩ rfl rfl hsz rfl (lv_room hst) hd hc) hS (fun q _ h => hFc q h) hFc (fun r u t H1 locs1 ht hvm hw hBu hz1 hk1 hS1 => ?_)
  obtain ⟨hw1, hw2⟩ := hw
  rw [hw2] at hBu
  rw [hw1]
  obtain ⟨hP1, hK1, hD1⟩ := hBu
  rw [ht] at hP1
  exact kk H1 locs1 hP1 (hD1.weaken (fun k q _ h => hFc q.1 h)) hS1
set_option maxHeartbeats 4000000 in
set_option maxRecDepth 100000 in
theorem cm1_commit (l : Launch) (dC : Nat → ClassId) (dI : Nat → Nat → Nat) (B : Nat → Nat) (cI : ClassId) (cZ : ClassId) (μ : NS) (sz : Nat) (nb : Nat) (hnb : nSt μ = nI nb) (hnb8 : nb ≤ 8) : Met l yX1_commit wsX1_commit (rk 6) (va_Pc [.ref (B 0)] (nPre (dC, dI) B cI cZ μ sz)) (va_Qi (fun r u => r = hr_commit μ nb ∧ u = hs_commit μ nb) (nB (dC, dI) B cI cZ (nX B cI cZ μ sz)) (nX B cI cZ μ sz)) 0 0 (nX B cI cZ μ sz) := by
  refine Met.ofW (cc := cX1_commit) (maxL := 4) (ret := (some .int)) (by decide) rfl ?_
  intro p e s m args below meth c s₁ Bd hml hv
  obtain ⟨rfl, hsz, hP, hK, hD0⟩ := hv
  have hx := Bd.exec
  have hb := Bd.bytes
  have hr := Bd.returns
  have hB : ∀ w ∈ bX1, w.before _ s = true := fun w h => atoms_spec (ws := wsX1_commit) Bd.pre w (List.mem_cons_of_mem _ h)
  have hown : s.vm.findClass RX1 = some m.cls := findClass_of_methodNamed Bd.named
  have hlocks := Bd.notSynchronized
  subst hsz
  have hD : va_D (nX B cI cZ μ s.heap.size) (wN B cI cZ μ) := hD0.self (sz := s.heap.size)
  have hA : ∀ q : Nat, s.heap.size ≤ q → nX B cI cZ μ s.heap.size q := fun q h => Or.inr h
  generalize nX B cI cZ μ s.heap.size = AA at hD hA ⊢
  have hS : va_S AA s.heap s.heap [] := va_S.rf
  have hl := lv_entry ([.ref (B 0)]) (n := 4) (Nat.le_of_ble_eq_true rfl)
  rw [lg_entry_eq]
  generalize (lg_sl ([.ref (B 0)]) ++ List.replicate (4 - (lg_sl ([.ref (B 0)])).length) Slot.unset).toArray = ls at hl ⊢
  have hl : lv_has ls 4 [(0, .ref (B 0))] := hl
  refine lv_aload_n hx hb dX1_commit_0 rfl (lv_at hl 0 rfl) ?_
  refine lv_aload_n hx hb dX1_commit_1 rfl (lv_at hl 0 rfl) ?_
  refine va_get (D := (dC, dI)) (ci := 1) (v := .int (nOf μ)) (C := RX1) (T := TX1) (N := 12) hx hb hB inX1 hown hK hP 0 rfl rfl 5 (by decide) (hB _ mX1_f_off) (fun _ h9 => h9) rfl dX1_commit_2 ?_
  refine lv_if_ne (tgt := 15) hx hb dX1_commit_5 rfl (fun h1 => ?_) (fun h1 => ?_)
  · skip
    refine lv_iconst (v := 1) hx hb dX1_commit_15 (by decide) ?_
    refine lv_goto (tgt := 20) hx hb dX1_commit_16 rfl ?_
    have hk : hk_open μ = 1 := by rw [hk_open, if_pos (Or.inl h1)]
    have hkn : ¬ hk_open μ = 0 := by rw [hk]; decide
    refine va_put (D := (dC, dI)) (ci := 1) (v := .int 1) (ty := .int) (C := RX1) (T := TX1) (N := 12) hx hb hB inX1 tyX1 tyX1_ok nmX1 hown hK hP hD hS 0 rfl rfl 0 (by decide) (hB _ mX1_f_thrown) (fun _ h9 => h9) rfl (by decide +kernel) rfl rfl (Nat.le_of_ble_eq_true rfl) dX1_commit_20 (fun H locs hP hD hS => ?_)
    have hP : va_P (dC, dI) vwCl (wN B cI cZ (mkN (1) (nWc μ) (nTc μ) (nLc μ) (nWr μ) (nOf μ) (nUn μ) (nOp μ) (nSt μ) (nKs μ) (nVs μ) (nTs μ))) H := hP
    have hD : va_D AA (wN B cI cZ (mkN (1) (nWc μ) (nTc μ) (nLc μ) (nWr μ) (nOf μ) (nUn μ) (nOp μ) (nSt μ) (nKs μ) (nVs μ) (nTs μ))) := hD
    refine lv_aload_n hx hb dX1_commit_23 rfl (lv_at hl 0 rfl) ?_
    refine va_get (D := (dC, dI)) (ci := 1) (v := .int (1)) (C := RX1) (T := TX1) (N := 12) hx hb hB inX1 hown hK hP 0 rfl rfl 0 (by decide) (hB _ mX1_f_thrown) (fun _ h9 => h9) rfl dX1_commit_24 ?_
    refine lv_if_eq (tgt := 32) hx hb dX1_commit_27 rfl (fun h9 => ?_) (fun h9 => ?_)
    · skip
      exact absurd h9 (by decide)
    · skip
      refine lv_iconst (v := 0) hx hb dX1_commit_30 (by decide) ?_
      exact W.iret (v := 0) hx hb hr (fun t ht hW => ⟨⟨0, mkN (1) (nWc μ) (nTc μ) (nLc μ) (nWr μ) (nOf μ) (nUn μ) (nOp μ) (nSt μ) (nKs μ) (nVs μ) (nTs μ), rfl, ⟨by rw [hr_commit, if_pos hkn], by rw [hs_commit, if_pos hkn, hk]⟩, by rw [ht]; exact hP, va_K.moved hW.alike hK, hD⟩, hS.F ht⟩) hS.2.2 dX1_commit_31
  · skip
    refine lv_aload_n hx hb dX1_commit_8 rfl (lv_at hl 0 rfl) ?_
    refine va_get (D := (dC, dI)) (ci := 1) (v := .int (nOp μ)) (C := RX1) (T := TX1) (N := 12) hx hb hB inX1 hown hK hP 0 rfl rfl 7 (by decide) (hB _ mX1_f_open) (fun _ h9 => h9) rfl dX1_commit_9 ?_
    refine lv_if_ne (tgt := 19) hx hb dX1_commit_12 rfl (fun h2 => ?_) (fun h2 => ?_)
    · skip
      refine lv_iconst (v := 0) hx hb dX1_commit_19 (by decide) ?_
      have hk : hk_open μ = 0 := by rw [hk_open, if_neg (fun h => h.elim (fun z => z h1) h2)]
      refine va_put (D := (dC, dI)) (ci := 1) (v := .int 0) (ty := .int) (C := RX1) (T := TX1) (N := 12) hx hb hB inX1 tyX1 tyX1_ok nmX1 hown hK hP hD hS 0 rfl rfl 0 (by decide) (hB _ mX1_f_thrown) (fun _ h9 => h9) rfl (by decide +kernel) rfl rfl (Nat.le_of_ble_eq_true rfl) dX1_commit_20 (fun H locs hP hD hS => ?_)
      have hP : va_P (dC, dI) vwCl (wN B cI cZ (mkN (0) (nWc μ) (nTc μ) (nLc μ) (nWr μ) (nOf μ) (nUn μ) (nOp μ) (nSt μ) (nKs μ) (nVs μ) (nTs μ))) H := hP
      have hD : va_D AA (wN B cI cZ (mkN (0) (nWc μ) (nTc μ) (nLc μ) (nWr μ) (nOf μ) (nUn μ) (nOp μ) (nSt μ) (nKs μ) (nVs μ) (nTs μ))) := hD
      refine lv_aload_n hx hb dX1_commit_23 rfl (lv_at hl 0 rfl) ?_
      refine va_get (D := (dC, dI)) (ci := 1) (v := .int (0)) (C := RX1) (T := TX1) (N := 12) hx hb hB inX1 hown hK hP 0 rfl rfl 0 (by decide) (hB _ mX1_f_thrown) (fun _ h9 => h9) rfl dX1_commit_24 ?_
      refine lv_if_eq (tgt := 32) hx hb dX1_commit_27 rfl (fun h9 => ?_) (fun h9 => ?_)
      · skip
        have hkn : ¬ ¬ hk_open μ = 0 := fun h => h hk
        refine lv_aload_n hx hb dX1_commit_32 rfl (lv_at hl 0 rfl) ?_
        refine ck1_emptyNote hx hb hml hown hB hl.1 hP hK dX1_commit_33 (Nat.le_of_ble_eq_true rfl) (Nat.le_of_ble_eq_true rfl) ⟨Nat.zero_le _, Nat.zero_le _⟩ (Nat.le_of_ble_eq_true rfl) ?_
        refine lv_istore_n hx hb dX1_commit_36 rfl hl (by decide) rfl (fun ls hl => ?_)
        have hl : lv_has ls 4 [(1, .int (f_first (g_em (nLc μ)) 40 0)), (0, .ref (B 0))] := hl
        refine lv_aload_n hx hb dX1_commit_37 rfl (lv_at hl 1 rfl) ?_
        refine va_get (D := (dC, dI)) (ci := 1) (v := .int (nSt μ)) (C := RX1) (T := TX1) (N := 12) hx hb hB inX1 hown hK hP 0 rfl rfl 8 (by decide) (hB _ mX1_f_staged) (fun _ h9 => h9) rfl dX1_commit_38 ?_
        rw [hnb]
        refine lv_if_le (tgt := 57) hx hb dX1_commit_41 rfl (fun h3 => ?_) (fun h3 => ?_)
        · skip
          have hnb0 : nb = 0 := by rcases Nat.eq_zero_or_pos nb with h | h; exact h; exact absurd h3 (nI_nle h (by omega))
          subst hnb0
          refine lv_aload_n hx hb dX1_commit_57 rfl (lv_at hl 1 rfl) ?_
          refine lv_iconst (v := 0) hx hb dX1_commit_58 (by decide) ?_
          refine va_put (D := (dC, dI)) (ci := 1) (v := .int 0) (ty := .boolean) (C := RX1) (T := TX1) (N := 12) hx hb hB inX1 tyX1 tyX1_ok nmX1 hown hK hP hD hS 0 rfl rfl 7 (by decide) (hB _ mX1_f_open) (fun _ h9 => h9) rfl (by decide +kernel) rfl rfl (Nat.le_of_ble_eq_true rfl) dX1_commit_59 (fun H locs hP hD hS => ?_)
          have hP : va_P (dC, dI) vwCl (wN B cI cZ (mkN (0) (nWc μ) (nTc μ) (nLc μ) (nWr μ) (nOf μ) (nUn μ) (0) (nSt μ) (nKs μ) (nVs μ) (nTs μ))) H := hP
          have hD : va_D AA (wN B cI cZ (mkN (0) (nWc μ) (nTc μ) (nLc μ) (nWr μ) (nOf μ) (nUn μ) (0) (nSt μ) (nKs μ) (nVs μ) (nTs μ))) := hD
          refine lv_aload_n hx hb dX1_commit_62 rfl (lv_at hl 1 rfl) ?_
          refine va_get (D := (dC, dI)) (ci := 1) (v := .int (nSt μ)) (C := RX1) (T := TX1) (N := 12) hx hb hB inX1 hown hK hP 0 rfl rfl 8 (by decide) (hB _ mX1_f_staged) (fun _ h9 => h9) rfl dX1_commit_63 ?_
          rw [hnb]
          refine lv_if_ne (tgt := 71) hx hb dX1_commit_66 rfl (fun h4 => ?_) (fun h4 => ?_)
          · skip
            exact absurd rfl h4
          · skip
            refine lv_iconst (v := 0) hx hb dX1_commit_69 (by decide) ?_
            exact W.iret (v := 0) hx hb hr (fun t ht hW => ⟨⟨0, mkN (0) (nWc μ) (nTc μ) (nLc μ) (nWr μ) (nOf μ) (nUn μ) (0) (nSt μ) (nKs μ) (nVs μ) (nTs μ), rfl, ⟨by rw [hr_commit, if_neg hkn, if_pos rfl], by rw [hs_commit, if_neg hkn, if_pos rfl]⟩, by rw [ht]; exact hP, va_K.moved hW.alike hK, hD⟩, hS.F ht⟩) hS.2.2 dX1_commit_70
        · skip
          have hnb0 : ¬ nb = 0 := fun h => h3 (by rw [h]; decide)
          refine lv_iload_n hx hb dX1_commit_44 rfl (lv_at hl 0 rfl) ?_
          refine lv_if_lt (tgt := 55) hx hb dX1_commit_45 rfl (fun h4 => ?_) (fun h4 => ?_)
          · skip
            refine lv_iconst (v := (-1)) hx hb dX1_commit_55 (by decide) ?_
            exact W.iret (v := (-1)) hx hb hr (fun t ht hW => ⟨⟨(-1), mkN (0) (nWc μ) (nTc μ) (nLc μ) (nWr μ) (nOf μ) (nUn μ) (nOp μ) (nSt μ) (nKs μ) (nVs μ) (nTs μ), rfl, ⟨by rw [hr_commit, if_neg hkn, if_neg hnb0, if_pos h4], by rw [hs_commit, if_neg hkn, if_neg hnb0, if_pos h4]⟩, by rw [ht]; exact hP, va_K.moved hW.alike hK, hD⟩, hS.F ht⟩) hS.2.2 dX1_commit_56
          · skip
            obtain ⟨b, hb40, eb⟩ : ∃ b, b < 40 ∧ f_first (g_em (nLc μ)) 40 0 = nI b := by rcases f_first_in (g_em (nLc μ)) 40 0 with h | ⟨k, -, h2, h3, -⟩; exact absurd (by rw [h]; decide) h4; exact ⟨k, by omega, h3⟩
            have ebc : g_nt μ = b := by unfold g_nt; rw [eb]; exact nI_clamp (by omega)
            rw [eb] at hl
            refine lv_aload_n hx hb dX1_commit_48 rfl (lv_at hl 1 rfl) ?_
            refine ck1_share hx hb hml hown hB hl.1 hP hK hD hS hA hnb hnb8 dX1_commit_49 (Nat.le_of_ble_eq_true rfl) (Nat.le_of_ble_eq_true rfl) ⟨Nat.zero_le _, Nat.zero_le _⟩ (Nat.le_of_ble_eq_true rfl) (fun H locs hP hD hS => ?_)
            refine lv_if_ne (tgt := 57) hx hb dX1_commit_52 rfl (fun h5 => ?_) (fun h5 => ?_)
            · skip
              have hsh : (g_sh (h_th μ 0) nb).1 = true := bI_n0.mp h5
              have hshn : ¬ (g_sh (h_th μ 0) nb).1 = false := by rw [hsh]; decide
              have hst1 : nSt (g_sh (h_th μ 0) nb).2 = nI nb := (g_shL_same nb 0 0 (h_th μ 0)).2.2.1.trans hnb
              have hts : ∀ k, k < nb → ∃ t, t < 160 ∧ nTs (g_sh (h_th μ 0) nb).2 k = nI t := fun k hk => g_shL_ts nb 0 0 (h_th μ 0) (by omega) hsh k (by omega) (by omega)
              refine lv_aload_n hx hb dX1_commit_57 rfl (lv_at hl 1 rfl) ?_
              refine lv_iconst (v := 0) hx hb dX1_commit_58 (by decide) ?_
              refine va_put (D := (dC, dI)) (ci := 1) (v := .int 0) (ty := .boolean) (C := RX1) (T := TX1) (N := 12) hx hb hB inX1 tyX1 tyX1_ok nmX1 hown hK hP hD hS 0 rfl rfl 7 (by decide) (hB _ mX1_f_open) (fun _ h9 => h9) rfl (by decide +kernel) rfl rfl (Nat.le_of_ble_eq_true rfl) dX1_commit_59 (fun H locs hP hD hS => ?_)
              have hP : va_P (dC, dI) vwCl (wN B cI cZ (mkN (nTh ((g_sh (h_th μ 0) nb).2)) (nWc ((g_sh (h_th μ 0) nb).2)) (nTc ((g_sh (h_th μ 0) nb).2)) (nLc ((g_sh (h_th μ 0) nb).2)) (nWr ((g_sh (h_th μ 0) nb).2)) (nOf ((g_sh (h_th μ 0) nb).2)) (nUn ((g_sh (h_th μ 0) nb).2)) (0) (nSt ((g_sh (h_th μ 0) nb).2)) (nKs ((g_sh (h_th μ 0) nb).2)) (nVs ((g_sh (h_th μ 0) nb).2)) (nTs ((g_sh (h_th μ 0) nb).2)))) H := hP
              have hD : va_D AA (wN B cI cZ (mkN (nTh ((g_sh (h_th μ 0) nb).2)) (nWc ((g_sh (h_th μ 0) nb).2)) (nTc ((g_sh (h_th μ 0) nb).2)) (nLc ((g_sh (h_th μ 0) nb).2)) (nWr ((g_sh (h_th μ 0) nb).2)) (nOf ((g_sh (h_th μ 0) nb).2)) (nUn ((g_sh (h_th μ 0) nb).2)) (0) (nSt ((g_sh (h_th μ 0) nb).2)) (nKs ((g_sh (h_th μ 0) nb).2)) (nVs ((g_sh (h_th μ 0) nb).2)) (nTs ((g_sh (h_th μ 0) nb).2)))) := hD
              have hP : va_P (dC, dI) vwCl (wN B cI cZ (g_c0 μ nb)) H := hP
              have hD : va_D AA (wN B cI cZ (g_c0 μ nb)) := hD
              have hst0 : nSt (g_c0 μ nb) = nI nb := hst1
              have hts0 : ∀ k, k < nb → ∃ t, t < 160 ∧ nTs (g_c0 μ nb) k = nI t := hts
              refine lv_aload_n hx hb dX1_commit_62 rfl (lv_at hl 1 rfl) ?_
              refine va_get (D := (dC, dI)) (ci := 1) (v := .int (nSt (g_c0 μ nb))) (C := RX1) (T := TX1) (N := 12) hx hb hB inX1 hown hK hP 0 rfl rfl 8 (by decide) (hB _ mX1_f_staged) (fun _ h9 => h9) rfl dX1_commit_63 ?_
              rw [hst0]
              refine lv_if_ne (tgt := 71) hx hb dX1_commit_66 rfl (fun h6 => ?_) (fun h6 => ?_)
              · skip
                refine lv_aload_n hx hb dX1_commit_71 rfl (lv_at hl 1 rfl) ?_
                refine va_get (D := (dC, dI)) (ci := 1) (v := .int (nWr (g_c0 μ nb))) (C := RX1) (T := TX1) (N := 12) hx hb hB inX1 hown hK hP 0 rfl rfl 4 (by decide) (hB _ mX1_f_writes) (fun _ h9 => h9) rfl dX1_commit_72 ?_
                refine lv_istore_n hx hb dX1_commit_75 rfl hl (by decide) rfl (fun ls hl => ?_)
                have hl : lv_has ls 4 [(2, .int (nWr (g_c0 μ nb))), (1, .int (nI b)), (0, .ref (B 0))] := hl
                refine lv_iconst (v := 0) hx hb dX1_commit_76 (by decide) ?_
                refine lv_istore_n hx hb dX1_commit_77 rfl hl (by decide) rfl (fun ls hl => ?_)
                have hl : lv_has ls 4 [(3, .int 0), (2, .int (nWr (g_c0 μ nb))), (1, .int (nI b)), (0, .ref (B 0))] := hl
                have hl := lv_sub (l' := [(0, .ref (B 0)), (1, .int (nI b)), (2, .int (nWr (g_c0 μ nb))), (3, .int 0)]) hl [3, 2, 1, 0] rfl
                have loop2 : ∀ (n k : Nat) (τ : NS) (ls : Array Slot) (H : Heap) (locs : List Loc), k + n = nb → nSt τ = nI nb → (∀ j, j < nb → ∃ t, t < 160 ∧ nTs τ j = nI t) → lv_has ls 4 [(0, .ref (B 0)), (1, .int (nI b)), (2, .int (nWr (g_c0 μ nb))), (3, .int (nI k))] → va_P (dC, dI) vwCl (wN B cI cZ τ) H → va_D AA (wN B cI cZ τ) → va_S AA s.heap H locs → g_cl2 n k τ = g_cl2 nb 0 (g_c1 μ nb) → W p l e (headSpec wsX1_commit (rk 6)).room s m ([.ref (B 0)]).toArray below meth c H locs 0 0 (MQ below (va_Qi (fun r u => r = hr_commit μ nb ∧ u = hs_commit μ nb) (nB (dC, dI) B cI cZ AA) AA) ([.ref (B 0)]).toArray s 0 0 AA) (F0 m 151 ls []) := by
                  intro n
                  induction n with
                  | zero =>
                    intro k τ ls H locs hi hst hts hl hP hD hS hF
                    have hi8 : k = nb := by omega
                    rw [hi8] at hl hF
                    refine lv_iload_n hx hb dX1_commit_151 rfl (lv_at hl 3 rfl) ?_
                    refine lv_aload_n hx hb dX1_commit_152 rfl (lv_at hl 0 rfl) ?_
                    refine va_get (D := (dC, dI)) (ci := 1) (v := .int (nSt τ)) (C := RX1) (T := TX1) (N := 12) hx hb hB inX1 hown hK hP 0 rfl rfl 8 (by decide) (hB _ mX1_f_staged) (fun _ h9 => h9) rfl dX1_commit_153 ?_
                    rw [hst]
                    refine lv_icmp_ge (tgt := 187) hx hb dX1_commit_156 rfl (fun hc => ?_) (fun hc => ?_)
                    · skip
                      have hF : τ = g_cl2 nb 0 (g_c1 μ nb) := hF
                      refine lv_aload_n hx hb dX1_commit_187 rfl (lv_at hl 0 rfl) ?_
                      refine lv_bipush (v := 9) hx hb dX1_commit_188 (by decide) ?_
                      refine lv_iload_n hx hb dX1_commit_190 rfl (lv_at hl 1 rfl) ?_
                      refine lv_imul hx hb dX1_commit_191 ?_
                      refine lv_bipush (v := 8) hx hb dX1_commit_192 (by decide) ?_
                      refine lv_iadd hx hb dX1_commit_194 ?_
                      have hidx : 9 * nI b + 8 = nI (9 * b + 8) := by rw [← nI_add, ← pk_mul]; rfl
                      rw [hidx]
                      refine lv_ldc2 (v := 3) hx hb hown (hB _ mX1_k_145) dX1_commit_195 ?_
                      refine ck1_writeLine hx hb hml hown hB hl.1 hP hK hD hS hA (by omega) dX1_commit_198 (Nat.le_of_ble_eq_true rfl) (Nat.le_of_ble_eq_true rfl) ⟨Nat.zero_le _, Nat.zero_le _⟩ (Nat.le_of_ble_eq_true rfl) (fun H locs hP hD hS => ?_)
                      have hc2 : g_wrL τ (9 * b + 8) 3 = g_c2 μ nb := by rw [hF, g_c2, ebc]
                      rw [hc2] at hP hD
                      refine lv_aload_n hx hb dX1_commit_201 rfl (lv_at hl 0 rfl) ?_
                      refine va_get (D := (dC, dI)) (ci := 1) (v := .int (nOf (g_c2 μ nb))) (C := RX1) (T := TX1) (N := 12) hx hb hB inX1 hown hK hP 0 rfl rfl 5 (by decide) (hB _ mX1_f_off) (fun _ h9 => h9) rfl dX1_commit_202 ?_
                      refine lv_if_eq (tgt := 213) hx hb dX1_commit_205 rfl (fun h7 => ?_) (fun h7 => ?_)
                      · skip
                        refine lv_aload_n hx hb dX1_commit_213 rfl (lv_at hl 0 rfl) ?_
                        refine va_get (D := (dC, dI)) (ci := 1) (v := .int (nWr (g_c2 μ nb))) (C := RX1) (T := TX1) (N := 12) hx hb hB inX1 hown hK hP 0 rfl rfl 4 (by decide) (hB _ mX1_f_writes) (fun _ h9 => h9) rfl dX1_commit_214 ?_
                        refine lv_iload_n hx hb dX1_commit_217 rfl (lv_at hl 2 rfl) ?_
                        refine lv_isub hx hb dX1_commit_218 ?_
                        exact W.iret (v := ((nWr (g_c2 μ nb)) - (nWr (g_c0 μ nb)))) hx hb hr (fun t ht hW => ⟨⟨((nWr (g_c2 μ nb)) - (nWr (g_c0 μ nb))), g_c2 μ nb, rfl, ⟨by rw [hr_commit, if_neg hkn, if_neg hnb0, if_neg h4, if_neg hshn, if_pos h7], by rw [hs_commit, if_neg hkn, if_neg hnb0, if_neg h4, if_neg hshn]⟩, by rw [ht]; exact hP, va_K.moved hW.alike hK, hD⟩, hS.F ht⟩) hS.2.2 dX1_commit_219
                      · skip
                        refine lv_bipush (v := (-2)) hx hb dX1_commit_208 (by decide) ?_
                        refine lv_goto (tgt := 219) hx hb dX1_commit_210 rfl ?_
                        exact W.iret (v := (-2)) hx hb hr (fun t ht hW => ⟨⟨(-2), g_c2 μ nb, rfl, ⟨by rw [hr_commit, if_neg hkn, if_neg hnb0, if_neg h4, if_neg hshn, if_neg h7], by rw [hs_commit, if_neg hkn, if_neg hnb0, if_neg h4, if_neg hshn]⟩, by rw [ht]; exact hP, va_K.moved hW.alike hK, hD⟩, hS.F ht⟩) hS.2.2 dX1_commit_219
                    · skip
                      exact absurd (nI_le (Nat.le_refl _) (by omega)) hc
                  | succ n ih =>
                    intro k τ ls H locs hi hst hts hl hP hD hS hF
                    refine lv_iload_n hx hb dX1_commit_151 rfl (lv_at hl 3 rfl) ?_
                    refine lv_aload_n hx hb dX1_commit_152 rfl (lv_at hl 0 rfl) ?_
                    refine va_get (D := (dC, dI)) (ci := 1) (v := .int (nSt τ)) (C := RX1) (T := TX1) (N := 12) hx hb hB inX1 hown hK hP 0 rfl rfl 8 (by decide) (hB _ mX1_f_staged) (fun _ h9 => h9) rfl dX1_commit_153 ?_
                    rw [hst]
                    refine lv_icmp_ge (tgt := 187) hx hb dX1_commit_156 rfl (fun hc => ?_) (fun hc => ?_)
                    · skip
                      exact absurd hc (nI_ge (by omega) (by omega))
                    · skip
                      obtain ⟨tt, htt, ett⟩ := hts k (by omega)
                      have ettc : (nTs τ k).toNatClampNeg = tt := by rw [ett]; exact nI_clamp (by omega)
                      refine lv_aload_n hx hb dX1_commit_159 rfl (lv_at hl 0 rfl) ?_
                      refine lv_aload_n hx hb dX1_commit_160 rfl (lv_at hl 0 rfl) ?_
                      refine va_get (D := (dC, dI)) (ci := 1) (v := .ref (B 6)) (C := RX1) (T := TX1) (N := 12) hx hb hB inX1 hown hK hP 0 rfl rfl 11 (by decide) (hB _ mX1_f_takers) (fun _ h9 => h9) rfl dX1_commit_161 ?_
                      refine lv_iload_n hx hb dX1_commit_164 rfl (lv_at hl 3 rfl) ?_
                      refine va_iald (D := (dC, dI)) (i := (nI k)) hx hb hK hP 6 0 rfl rfl (vp_in_nI (by omega) (by decide)) dX1_commit_165 ?_
                      rw [show ((nI k)).toNatClampNeg = k from nI_clamp (by omega)]
                      rw [ett]
                      refine lv_aload_n hx hb dX1_commit_166 rfl (lv_at hl 0 rfl) ?_
                      refine va_get (D := (dC, dI)) (ci := 1) (v := .ref (B 4)) (C := RX1) (T := TX1) (N := 12) hx hb hB inX1 hown hK hP 0 rfl rfl 9 (by decide) (hB _ mX1_f_keys) (fun _ h9 => h9) rfl dX1_commit_167 ?_
                      refine lv_iload_n hx hb dX1_commit_170 rfl (lv_at hl 3 rfl) ?_
                      refine va_iald (D := (dC, dI)) (i := (nI k)) hx hb hK hP 4 0 rfl rfl (vp_in_nI (by omega) (by decide)) dX1_commit_171 ?_
                      rw [show ((nI k)).toNatClampNeg = k from nI_clamp (by omega)]
                      refine lv_aload_n hx hb dX1_commit_172 rfl (lv_at hl 0 rfl) ?_
                      refine va_get (D := (dC, dI)) (ci := 1) (v := .ref (B 5)) (C := RX1) (T := TX1) (N := 12) hx hb hB inX1 hown hK hP 0 rfl rfl 10 (by decide) (hB _ mX1_f_values) (fun _ h9 => h9) rfl dX1_commit_173 ?_
                      refine lv_iload_n hx hb dX1_commit_176 rfl (lv_at hl 3 rfl) ?_
                      refine va_iald (D := (dC, dI)) (i := (nI k)) hx hb hK hP 5 0 rfl rfl (vp_in_nI (by omega) (by decide)) dX1_commit_177 ?_
                      rw [show ((nI k)).toNatClampNeg = k from nI_clamp (by omega)]
                      refine ck1_perform hx hb hml hown hB hl.1 hP hK hD hS hA htt dX1_commit_178 (Nat.le_of_ble_eq_true rfl) (Nat.le_of_ble_eq_true rfl) ⟨Nat.zero_le _, Nat.zero_le _⟩ (Nat.le_of_ble_eq_true rfl) (fun H locs hP hD hS => ?_)
                      refine lv_iinc (k := 3) (v := (nI (k + 1))) hx hb dX1_commit_181 hl rfl (nI_1 k) (by decide) rfl (fun ls hl => ?_)
                      have hl : lv_has ls 4 [(3, .int (nI (k + 1))), (0, .ref (B 0)), (1, .int (nI b)), (2, .int (nWr (g_c0 μ nb)))] := hl
                      refine lv_goto (tgt := 151) hx hb dX1_commit_184 rfl ?_
                      have hsm := (g_perf_same τ tt (nKs τ k) (nVs τ k)).1
                      exact ih (k + 1) _ ls H locs (by omega) (hsm.2.2.2.1.trans hst) (fun j hj => by rw [hsm.2.2.1]; exact hts j hj) (lv_sub hl [1, 2, 3, 0] rfl) hP hD hS (by rw [← hF, g_cl2, ettc])
                have loop1 : ∀ (n k : Nat) (τ : NS) (ls : Array Slot) (H : Heap) (locs : List Loc), k + n = nb → g_same (g_c0 μ nb) τ → lv_has ls 4 [(0, .ref (B 0)), (1, .int (nI b)), (2, .int (nWr (g_c0 μ nb))), (3, .int (nI k))] → va_P (dC, dI) vwCl (wN B cI cZ τ) H → va_D AA (wN B cI cZ τ) → va_S AA s.heap H locs → g_cl1 b n k τ = g_cl1 b nb 0 (g_c0 μ nb) → W p l e (headSpec wsX1_commit (rk 6)).room s m ([.ref (B 0)]).toArray below meth c H locs 0 0 (MQ below (va_Qi (fun r u => r = hr_commit μ nb ∧ u = hs_commit μ nb) (nB (dC, dI) B cI cZ AA) AA) ([.ref (B 0)]).toArray s 0 0 AA) (F0 m 78 ls []) := by
                  intro n
                  induction n with
                  | zero =>
                    intro k τ ls H locs hi hsm hl hP hD hS hF
                    have hst : nSt τ = nI nb := hsm.2.2.2.1.trans hst0
                    have hi8 : k = nb := by omega
                    rw [hi8] at hl hF
                    refine lv_iload_n hx hb dX1_commit_78 rfl (lv_at hl 3 rfl) ?_
                    refine lv_aload_n hx hb dX1_commit_79 rfl (lv_at hl 0 rfl) ?_
                    refine va_get (D := (dC, dI)) (ci := 1) (v := .int (nSt τ)) (C := RX1) (T := TX1) (N := 12) hx hb hB inX1 hown hK hP 0 rfl rfl 8 (by decide) (hB _ mX1_f_staged) (fun _ h9 => h9) rfl dX1_commit_80 ?_
                    rw [hst]
                    refine lv_icmp_ge (tgt := 137) hx hb dX1_commit_83 rfl (fun hc => ?_) (fun hc => ?_)
                    · skip
                      have hF : τ = g_cl1 b nb 0 (g_c0 μ nb) := hF
                      refine lv_aload_n hx hb dX1_commit_137 rfl (lv_at hl 0 rfl) ?_
                      refine lv_bipush (v := 9) hx hb dX1_commit_138 (by decide) ?_
                      refine lv_iload_n hx hb dX1_commit_140 rfl (lv_at hl 1 rfl) ?_
                      refine lv_imul hx hb dX1_commit_141 ?_
                      refine lv_bipush (v := 8) hx hb dX1_commit_142 (by decide) ?_
                      refine lv_iadd hx hb dX1_commit_144 ?_
                      have hidx : 9 * nI b + 8 = nI (9 * b + 8) := by rw [← nI_add, ← pk_mul]; rfl
                      rw [hidx]
                      refine lv_lconst (v := 1) hx hb dX1_commit_145 (by decide) ?_
                      refine ck1_writeLine hx hb hml hown hB hl.1 hP hK hD hS hA (by omega) dX1_commit_146 (Nat.le_of_ble_eq_true rfl) (Nat.le_of_ble_eq_true rfl) ⟨Nat.zero_le _, Nat.zero_le _⟩ (Nat.le_of_ble_eq_true rfl) (fun H locs hP hD hS => ?_)
                      have hsm2 := hsm.trans (g_wrL_same τ (9 * b + 8) 1).1
                      have hc1 : g_wrL τ (9 * b + 8) 1 = g_c1 μ nb := by rw [hF, g_c1, ebc]
                      rw [hc1] at hP hD hsm2
                      refine lv_iconst (v := 0) hx hb dX1_commit_149 (by decide) ?_
                      refine lv_istore_n hx hb dX1_commit_150 rfl hl (by decide) rfl (fun ls hl => ?_)
                      have hl : lv_has ls 4 [(3, .int 0), (0, .ref (B 0)), (1, .int (nI b)), (2, .int (nWr (g_c0 μ nb)))] := hl
                      exact loop2 nb 0 _ ls H locs (by omega) (hsm2.2.2.2.1.trans hst0) (fun j hj => by rw [hsm2.2.2.1]; exact hts0 j hj) (lv_sub hl [1, 2, 3, 0] rfl) hP hD hS rfl
                    · skip
                      exact absurd (nI_le (Nat.le_refl _) (by omega)) hc
                  | succ n ih =>
                    intro k τ ls H locs hi hsm hl hP hD hS hF
                    have hst : nSt τ = nI nb := hsm.2.2.2.1.trans hst0
                    refine lv_iload_n hx hb dX1_commit_78 rfl (lv_at hl 3 rfl) ?_
                    refine lv_aload_n hx hb dX1_commit_79 rfl (lv_at hl 0 rfl) ?_
                    refine va_get (D := (dC, dI)) (ci := 1) (v := .int (nSt τ)) (C := RX1) (T := TX1) (N := 12) hx hb hB inX1 hown hK hP 0 rfl rfl 8 (by decide) (hB _ mX1_f_staged) (fun _ h9 => h9) rfl dX1_commit_80 ?_
                    rw [hst]
                    refine lv_icmp_ge (tgt := 137) hx hb dX1_commit_83 rfl (fun hc => ?_) (fun hc => ?_)
                    · skip
                      exact absurd hc (nI_ge (by omega) (by omega))
                    · skip
                      refine lv_aload_n hx hb dX1_commit_86 rfl (lv_at hl 0 rfl) ?_
                      refine lv_bipush (v := 9) hx hb dX1_commit_87 (by decide) ?_
                      refine lv_iload_n hx hb dX1_commit_89 rfl (lv_at hl 1 rfl) ?_
                      refine lv_imul hx hb dX1_commit_90 ?_
                      refine lv_iload_n hx hb dX1_commit_91 rfl (lv_at hl 3 rfl) ?_
                      refine lv_iadd hx hb dX1_commit_92 ?_
                      have hidx : 9 * nI b + nI k = nI (9 * b + k) := by rw [← nI_add, ← pk_mul]; rfl
                      rw [hidx]
                      refine lv_aload_n hx hb dX1_commit_93 rfl (lv_at hl 0 rfl) ?_
                      refine va_get (D := (dC, dI)) (ci := 1) (v := .ref (B 5)) (C := RX1) (T := TX1) (N := 12) hx hb hB inX1 hown hK hP 0 rfl rfl 10 (by decide) (hB _ mX1_f_values) (fun _ h9 => h9) rfl dX1_commit_94 ?_
                      refine lv_iload_n hx hb dX1_commit_97 rfl (lv_at hl 3 rfl) ?_
                      refine va_iald (D := (dC, dI)) (i := (nI k)) hx hb hK hP 5 0 rfl rfl (vp_in_nI (by omega) (by decide)) dX1_commit_98 ?_
                      rw [show ((nI k)).toNatClampNeg = k from nI_clamp (by omega)]
                      refine lv_i2l (v := (((nVs τ) (k))).toInt64) hx hb dX1_commit_99 rfl ?_
                      refine lv_ldc2 (v := 65536) hx hb hown (hB _ mX1_k_135) dX1_commit_100 ?_
                      refine lv_aload_n hx hb dX1_commit_103 rfl (lv_at hl 0 rfl) ?_
                      refine va_get (D := (dC, dI)) (ci := 1) (v := .ref (B 4)) (C := RX1) (T := TX1) (N := 12) hx hb hB inX1 hown hK hP 0 rfl rfl 9 (by decide) (hB _ mX1_f_keys) (fun _ h9 => h9) rfl dX1_commit_104 ?_
                      refine lv_iload_n hx hb dX1_commit_107 rfl (lv_at hl 3 rfl) ?_
                      refine va_iald (D := (dC, dI)) (i := (nI k)) hx hb hK hP 4 0 rfl rfl (vp_in_nI (by omega) (by decide)) dX1_commit_108 ?_
                      rw [show ((nI k)).toNatClampNeg = k from nI_clamp (by omega)]
                      refine lv_i2l (v := (((nKs τ) (k))).toInt64) hx hb dX1_commit_109 rfl ?_
                      refine lv_lmul hx hb dX1_commit_110 ?_
                      refine lv_ladd hx hb dX1_commit_111 ?_
                      refine lv_ldc2 (v := 4194304) hx hb hown (hB _ mX1_k_137) dX1_commit_112 ?_
                      refine lv_aload_n hx hb dX1_commit_115 rfl (lv_at hl 0 rfl) ?_
                      refine va_get (D := (dC, dI)) (ci := 1) (v := .ref (B 6)) (C := RX1) (T := TX1) (N := 12) hx hb hB inX1 hown hK hP 0 rfl rfl 11 (by decide) (hB _ mX1_f_takers) (fun _ h9 => h9) rfl dX1_commit_116 ?_
                      refine lv_iload_n hx hb dX1_commit_119 rfl (lv_at hl 3 rfl) ?_
                      refine va_iald (D := (dC, dI)) (i := (nI k)) hx hb hK hP 6 0 rfl rfl (vp_in_nI (by omega) (by decide)) dX1_commit_120 ?_
                      rw [show ((nI k)).toNatClampNeg = k from nI_clamp (by omega)]
                      refine lv_i2l (v := (((nTs τ) (k))).toInt64) hx hb dX1_commit_121 rfl ?_
                      refine lv_lmul hx hb dX1_commit_122 ?_
                      refine lv_ladd hx hb dX1_commit_123 ?_
                      refine lv_ldc2 (v := 1073741824) hx hb hown (hB _ mX1_k_139) dX1_commit_124 ?_
                      refine lv_ladd hx hb dX1_commit_127 ?_
                      refine ck1_writeLine hx hb hml hown hB hl.1 hP hK hD hS hA (by omega) dX1_commit_128 (Nat.le_of_ble_eq_true rfl) (Nat.le_of_ble_eq_true rfl) ⟨Nat.zero_le _, Nat.zero_le _⟩ (Nat.le_of_ble_eq_true rfl) (fun H locs hP hD hS => ?_)
                      refine lv_iinc (k := 3) (v := (nI (k + 1))) hx hb dX1_commit_131 hl rfl (nI_1 k) (by decide) rfl (fun ls hl => ?_)
                      have hl : lv_has ls 4 [(3, .int (nI (k + 1))), (0, .ref (B 0)), (1, .int (nI b)), (2, .int (nWr (g_c0 μ nb)))] := hl
                      refine lv_goto (tgt := 78) hx hb dX1_commit_134 rfl ?_
                      exact ih (k + 1) _ ls H locs (by omega) (hsm.trans (g_wrL_same τ (9 * b + k) _).1) (lv_sub hl [1, 2, 3, 0] rfl) hP hD hS hF
                exact loop1 nb 0 _ ls H locs (by omega) (g_same.refl _) hl hP hD hS rfl
              · skip
                exact absurd h6 (nI_ne0 (by omega) (by omega))
            · skip
              have hsh : (g_sh (h_th μ 0) nb).1 = false := bI_0.mp h5
              refine lv_iconst (v := (-1)) hx hb dX1_commit_55 (by decide) ?_
              exact W.iret (v := (-1)) hx hb hr (fun t ht hW => ⟨⟨(-1), (g_sh (h_th μ 0) nb).2, rfl, ⟨by rw [hr_commit, if_neg hkn, if_neg hnb0, if_neg h4, if_pos hsh], by rw [hs_commit, if_neg hkn, if_neg hnb0, if_neg h4, if_pos hsh]⟩, by rw [ht]; exact hP, va_K.moved hW.alike hK, hD⟩, hS.F ht⟩) hS.2.2 dX1_commit_56
      · skip
        exact absurd rfl h9
    · skip
      refine lv_iconst (v := 1) hx hb dX1_commit_15 (by decide) ?_
      refine lv_goto (tgt := 20) hx hb dX1_commit_16 rfl ?_
      have hk : hk_open μ = 1 := by rw [hk_open, if_pos (Or.inr h2)]
      have hkn : ¬ hk_open μ = 0 := by rw [hk]; decide
      refine va_put (D := (dC, dI)) (ci := 1) (v := .int 1) (ty := .int) (C := RX1) (T := TX1) (N := 12) hx hb hB inX1 tyX1 tyX1_ok nmX1 hown hK hP hD hS 0 rfl rfl 0 (by decide) (hB _ mX1_f_thrown) (fun _ h9 => h9) rfl (by decide +kernel) rfl rfl (Nat.le_of_ble_eq_true rfl) dX1_commit_20 (fun H locs hP hD hS => ?_)
      have hP : va_P (dC, dI) vwCl (wN B cI cZ (mkN (1) (nWc μ) (nTc μ) (nLc μ) (nWr μ) (nOf μ) (nUn μ) (nOp μ) (nSt μ) (nKs μ) (nVs μ) (nTs μ))) H := hP
      have hD : va_D AA (wN B cI cZ (mkN (1) (nWc μ) (nTc μ) (nLc μ) (nWr μ) (nOf μ) (nUn μ) (nOp μ) (nSt μ) (nKs μ) (nVs μ) (nTs μ))) := hD
      refine lv_aload_n hx hb dX1_commit_23 rfl (lv_at hl 0 rfl) ?_
      refine va_get (D := (dC, dI)) (ci := 1) (v := .int (1)) (C := RX1) (T := TX1) (N := 12) hx hb hB inX1 hown hK hP 0 rfl rfl 0 (by decide) (hB _ mX1_f_thrown) (fun _ h9 => h9) rfl dX1_commit_24 ?_
      refine lv_if_eq (tgt := 32) hx hb dX1_commit_27 rfl (fun h9 => ?_) (fun h9 => ?_)
      · skip
        exact absurd h9 (by decide)
      · skip
        refine lv_iconst (v := 0) hx hb dX1_commit_30 (by decide) ?_
        exact W.iret (v := 0) hx hb hr (fun t ht hW => ⟨⟨0, mkN (1) (nWc μ) (nTc μ) (nLc μ) (nWr μ) (nOf μ) (nUn μ) (nOp μ) (nSt μ) (nKs μ) (nVs μ) (nTs μ), rfl, ⟨by rw [hr_commit, if_pos hkn], by rw [hs_commit, if_pos hkn, hk]⟩, by rw [ht]; exact hP, va_K.moved hW.alike hK, hD⟩, hS.F ht⟩) hS.2.2 dX1_commit_31
set_option maxHeartbeats 4000000 in
set_option maxRecDepth 100000 in
theorem cm1_finish (l : Launch) (dC : Nat → ClassId) (dI : Nat → Nat → Nat) (B : Nat → Nat) (cI : ClassId) (cZ : ClassId) (μ : NS) (sz : Nat) (b : Nat) (hb40 : b < 40) (hln : g_named (nLc μ) b) : Met l yX1_finish wsX1_finish (rk 6) (va_Pc [.ref (B 0), .int (nI b)] (nPre (dC, dI) B cI cZ μ sz)) (va_Qv (fun u => u = g_fin μ b) (nB (dC, dI) B cI cZ (nX B cI cZ μ sz)) (nX B cI cZ μ sz)) 0 0 (nX B cI cZ μ sz) := by
  refine Met.ofW (cc := cX1_finish) (maxL := 5) (ret := none) (by decide) rfl ?_
  intro p e s m args below meth c s₁ Bd hml hv
  obtain ⟨rfl, hsz, hP, hK, hD0⟩ := hv
  have hx := Bd.exec
  have hb := Bd.bytes
  have hr := Bd.returns
  have hB : ∀ w ∈ bX1, w.before _ s = true := fun w h => atoms_spec (ws := wsX1_finish) Bd.pre w (List.mem_cons_of_mem _ h)
  have hown : s.vm.findClass RX1 = some m.cls := findClass_of_methodNamed Bd.named
  have hlocks := Bd.notSynchronized
  subst hsz
  have hD : va_D (nX B cI cZ μ s.heap.size) (wN B cI cZ μ) := hD0.self (sz := s.heap.size)
  have hA : ∀ q : Nat, s.heap.size ≤ q → nX B cI cZ μ s.heap.size q := fun q h => Or.inr h
  generalize nX B cI cZ μ s.heap.size = AA at hD hA ⊢
  have hS : va_S AA s.heap s.heap [] := va_S.rf
  have hl := lv_entry ([.ref (B 0), .int (nI b)]) (n := 5) (Nat.le_of_ble_eq_true rfl)
  rw [lg_entry_eq]
  generalize (lg_sl ([.ref (B 0), .int (nI b)]) ++ List.replicate (5 - (lg_sl ([.ref (B 0), .int (nI b)])).length) Slot.unset).toArray = ls at hl ⊢
  have hl : lv_has ls 5 [(0, .ref (B 0)), (1, .int (nI b))] := hl
  refine lv_iconst (v := 0) hx hb dX1_finish_0 (by decide) ?_
  refine lv_istore_n hx hb dX1_finish_1 rfl hl (by decide) rfl (fun ls hl => ?_)
  have hl : lv_has ls 5 [(2, .int 0), (0, .ref (B 0)), (1, .int (nI b))] := hl
  have hl := lv_sub (l' := [(0, .ref (B 0)), (1, .int (nI b)), (2, .int 0)]) hl [1, 2, 0] rfl
  have loop : ∀ (n i : Nat) (τ : NS) (ls : Array Slot) (H : Heap) (locs : List Loc), i + n = 8 → nLc τ = nLc μ → lv_has ls 5 [(0, .ref (B 0)), (1, .int (nI b)), (2, .int (nI i))] → va_P (dC, dI) vwCl (wN B cI cZ τ) H → va_D AA (wN B cI cZ τ) → va_S AA s.heap H locs → g_finL b n i τ = g_fin μ b → W p l e (headSpec wsX1_finish (rk 6)).room s m ([.ref (B 0), .int (nI b)]).toArray below meth c H locs 0 0 (MQ below (va_Qv (fun u => u = g_fin μ b) (nB (dC, dI) B cI cZ AA) AA) ([.ref (B 0), .int (nI b)]).toArray s 0 0 AA) (F0 m 2 ls []) := by
    intro n
    induction n with
    | zero =>
    intro i τ ls H locs hi hlc hl hP hD hS hF
    have hi8 : i = 8 := by omega
    subst hi8
    refine lv_iload_n hx hb dX1_finish_2 rfl (lv_at hl 2 rfl) ?_
    refine lv_bipush (v := 8) hx hb dX1_finish_3 (by decide) ?_
    refine lv_icmp_ge (tgt := 61) hx hb dX1_finish_5 rfl (fun hc => ?_) (fun hc => ?_)
    · skip
      refine lv_aload_n hx hb dX1_finish_61 rfl (lv_at hl 0 rfl) ?_
      refine lv_bipush (v := 9) hx hb dX1_finish_62 (by decide) ?_
      refine lv_iload_n hx hb dX1_finish_64 rfl (lv_at hl 1 rfl) ?_
      refine lv_imul hx hb dX1_finish_65 ?_
      refine lv_bipush (v := 8) hx hb dX1_finish_66 (by decide) ?_
      refine lv_iadd hx hb dX1_finish_68 ?_
      have hidx : 9 * nI b + 8 = nI (9 * b + 8) := by rw [← nI_add, ← pk_mul]; rfl
      rw [hidx]
      refine lv_ldc2 (v := 3) hx hb hown (hB _ mX1_k_145) dX1_finish_69 ?_
      refine ck1_writeLine hx hb hml hown hB hl.1 hP hK hD hS hA (by omega) dX1_finish_72 (Nat.le_of_ble_eq_true rfl) (Nat.le_of_ble_eq_true rfl) ⟨Nat.zero_le _, Nat.zero_le _⟩ (Nat.le_of_ble_eq_true rfl) (fun H locs hP hD hS => ?_)
      exact W.vret hx hb hr (fun t ht hW => ⟨⟨g_wrL τ (9 * b + 8) 3, rfl, hF, by rw [ht]; exact hP, va_K.moved hW.alike hK, hD⟩, hS.F ht⟩) hS.2.2 dX1_finish_75
    · skip
      exact absurd (by decide) hc
    | succ n ih =>
    intro i τ ls H locs hi hlc hl hP hD hS hF
    refine lv_iload_n hx hb dX1_finish_2 rfl (lv_at hl 2 rfl) ?_
    refine lv_bipush (v := 8) hx hb dX1_finish_3 (by decide) ?_
    refine lv_icmp_ge (tgt := 61) hx hb dX1_finish_5 rfl (fun hc => ?_) (fun hc => ?_)
    · skip
      exact absurd hc (nI_ge (b := 8) (by omega) (by decide))
    · skip
      refine lv_aload_n hx hb dX1_finish_8 rfl (lv_at hl 0 rfl) ?_
      refine lv_bipush (v := 9) hx hb dX1_finish_9 (by decide) ?_
      refine lv_iload_n hx hb dX1_finish_11 rfl (lv_at hl 1 rfl) ?_
      refine lv_imul hx hb dX1_finish_12 ?_
      refine lv_iload_n hx hb dX1_finish_13 rfl (lv_at hl 2 rfl) ?_
      refine lv_iadd hx hb dX1_finish_14 ?_
      have hidx : 9 * nI b + nI i = nI (9 * b + i) := by rw [← nI_add, ← pk_mul]; rfl
      rw [hidx]
      refine ck1_line hx hb hml hown hB hl.1 hP hK (by omega) dX1_finish_15 (Nat.le_of_ble_eq_true rfl) (Nat.le_of_ble_eq_true rfl) ⟨Nat.zero_le _, Nat.zero_le _⟩ (Nat.le_of_ble_eq_true rfl) ?_
      refine lv_topl (fun z ez => ?_)
      refine lv_lstore_n hx hb dX1_finish_18 rfl hl (by decide) rfl (fun ls hl => ?_)
      have hl : lv_has ls 5 [(3, .long z), (0, .ref (B 0)), (1, .int (nI b)), (2, .int (nI i))] := hl
      refine lv_lload_n hx hb dX1_finish_19 rfl (lv_at hl 0 rfl) ?_
      refine lv_lconst (v := 0) hx hb dX1_finish_20 (by decide) ?_
      refine W.lcmp hx hb dX1_finish_21 ?_
      refine lv_if_eq (tgt := 55) hx hb dX1_finish_22 rfl (fun h2 => ?_) (fun h2 => ?_)
      · skip
        have hz : g_line (nLc τ) (9 * b + i) = 0 := ez.symm.trans ((lg_cmp_eq _ _).mp h2)
        refine lv_iinc (k := 3) (v := (nI (i + 1))) hx hb dX1_finish_55 hl rfl (nI_1 i) (by decide) rfl (fun ls hl => ?_)
        have hl : lv_has ls 5 [(2, .int (nI (i + 1))), (3, .long z), (0, .ref (B 0)), (1, .int (nI b))] := hl
        refine lv_goto (tgt := 2) hx hb dX1_finish_58 rfl ?_
        exact ih (i + 1) _ ls H locs (by omega) hlc (lv_sub hl [2, 3, 0] rfl) hP hD hS (by rw [← hF, g_finL, if_pos hz])
      · skip
        have hz : ¬ g_line (nLc τ) (9 * b + i) = 0 := fun h => h2 ((lg_cmp_eq _ _).mpr (ez.trans h))
        obtain ⟨ww, hww, eww⟩ := (hln i (by omega)).resolve_left (by rw [← hlc]; exact hz)
        rw [← hlc, ← ez] at eww
        have ewc : (g_lwd z).toNatClampNeg = ww := by rw [eww]; exact nI_clamp (by omega)
        refine lv_aload_n hx hb dX1_finish_25 rfl (lv_at hl 1 rfl) ?_
        refine lv_lload_n hx hb dX1_finish_26 rfl (lv_at hl 0 rfl) ?_
        refine lv_ldc2 (v := 4194304) hx hb hown (hB _ mX1_k_137) dX1_finish_27 ?_
        refine lv_ldiv hx hb dX1_finish_30 (by decide) ?_
        refine lv_ldc2 (v := 256) hx hb hown (hB _ mX1_k_147) dX1_finish_31 ?_
        refine lv_lrem hx hb dX1_finish_34 (by decide) ?_
        refine lv_l2i (v := (((z / 4194304) - (z / 4194304) / 256 * 256)).toInt32) hx hb dX1_finish_35 rfl ?_
        rw [show ((z / 4194304) - (z / 4194304) / 256 * 256).toInt32 = nI ww from eww]
        refine lv_lload_n hx hb dX1_finish_36 rfl (lv_at hl 0 rfl) ?_
        refine lv_ldc2 (v := 65536) hx hb hown (hB _ mX1_k_135) dX1_finish_37 ?_
        refine lv_ldiv hx hb dX1_finish_40 (by decide) ?_
        refine lv_ldc2 (v := 64) hx hb hown (hB _ mX1_k_149) dX1_finish_41 ?_
        refine lv_lrem hx hb dX1_finish_44 (by decide) ?_
        refine lv_l2i (v := (((z / 65536) - (z / 65536) / 64 * 64)).toInt32) hx hb dX1_finish_45 rfl ?_
        refine lv_lload_n hx hb dX1_finish_46 rfl (lv_at hl 0 rfl) ?_
        refine lv_ldc2 (v := 65536) hx hb hown (hB _ mX1_k_135) dX1_finish_47 ?_
        refine lv_lrem hx hb dX1_finish_50 (by decide) ?_
        refine lv_l2i (v := ((z - z / 65536 * 65536)).toInt32) hx hb dX1_finish_51 rfl ?_
        refine ck1_perform hx hb hml hown hB hl.1 hP hK hD hS hA hww dX1_finish_52 (Nat.le_of_ble_eq_true rfl) (Nat.le_of_ble_eq_true rfl) ⟨Nat.zero_le _, Nat.zero_le _⟩ (Nat.le_of_ble_eq_true rfl) (fun H locs hP hD hS => ?_)
        refine lv_iinc (k := 3) (v := (nI (i + 1))) hx hb dX1_finish_55 hl rfl (nI_1 i) (by decide) rfl (fun ls hl => ?_)
        have hl : lv_has ls 5 [(2, .int (nI (i + 1))), (3, .long z), (0, .ref (B 0)), (1, .int (nI b))] := hl
        refine lv_goto (tgt := 2) hx hb dX1_finish_58 rfl ?_
        exact ih (i + 1) _ ls H locs (by omega) ((g_perf_same τ ww (g_lkd z) (g_lvd z)).2.trans hlc) (lv_sub hl [2, 3, 0] rfl) hP hD hS (by rw [← hF, g_finL, if_neg hz, ← ez, ewc])
  exact loop 8 0 μ ls s.heap [] rfl rfl hl hP hD hS rfl
set_option maxRecDepth 100000 in
theorem ck1_finish {p : Program} {l : Launch} {e : Env} {R : Room} {s : State} {m : MethodId} {args : Array Value} {below : List Frame} {meth : Method} {c : Code} {H : Heap} {locs : List Loc} {cells slots : Nat} {Q : State → Prop} {cc : ByteArray} {nL pc : Nat} {ls : Array Slot} {rest : List Value} {A0 : Nat → Prop} {H0 : Heap} {dC : Nat → ClassId} {dI : Nat → Nat → Nat} {B : Nat → Nat} {cI : ClassId} {cZ : ClassId} {μ : NS} {b : Nat} (hx : p.tables.exec = Jvm.exec) (hb : c.code = cc) (hml : c.maxLocals = nL) (hown : s.vm.findClass RX1 = some m.cls) (hB : ∀ w ∈ bX1, w.before args s = true) (hsz : ls.size = nL) (hP : va_P (dC, dI) vwCl (wN B cI cZ μ) H) (hK : va_K (dC, dI) vwCl [(cI, .int), (cZ, .boolean)] s) (hD : va_D A0 (wN B cI cZ μ)) (hS : va_S A0 H0 H locs) (hA : ∀ q, H0.size ≤ q → A0 q) (hb40 : b < 40) (hln : g_named (nLc μ) b) (hd : decode cc pc = .ok (.invokevirtual 151, 3)) (hF : 7 ≤ R.frames) (hLo : 204 ≤ R.locals) (hc : cells ≤ R.cells ∧ slots ≤ R.slots) (hst : (rest.map fun v => v.category).sum ≤ 8)
    (kk : ∀ (H1 : Heap) (locs1 : List Loc), va_P (dC, dI) vwCl (wN B cI cZ (g_fin μ b)) H1 → va_D A0 (wN B cI cZ (g_fin μ b)) → va_S A0 H0 H1 locs1 → W p l e R s m args below meth c H1 locs1 cells slots Q (F0 m (pc + 3) ls (rest))) : W p l e R s m args below meth c H locs cells slots Q (F0 m pc ls (.int (nI b) :: .ref (B 0) :: rest)) := by
  have hFc := va_free (wc := wN B cI cZ μ) hD hS hA [0, 1, 2, 3, 4, 5, 6] rfl
  refine va_callv (va_runV (C := RX1) (As := [.int (nI b)]) (rest := rest) ⟨hx, hb, hml, hown, hB⟩ (cm1_finish l dC dI B cI cZ μ H.size b hb40 hln) (cwV 1 hB goX1_finish rfl rfl rfl ⟨rfl, by decide, by decide, by decide +kernel⟩ ⟨hF, hLo⟩) ⟨fun a U g mk q => by obtain ⟨q0, q1, qP, qK, qD⟩ := q; exact ⟨q0, q1, qP, va_K.moved (u := U) (U := U.calling g mk a) (Vm.Alike.refl U.vm) qK, qD⟩, va_recv (q := (RX1, TX1, 12)) hK hP rfl (q0 := 0) rfl, fun U hU hW => ⟨rfl, by rw [hU], by rw [hU]; exact hP, va_K.moved hW.alike hK, hD.weaken (fun _ _ _ _ => trivial)⟩⟩ rfl rfl hsz rfl (lv_room hst) hd hc) hS (fun q _ h => hFc q h) hFc (fun u t H1 locs1 ht hvm hw hBu hz1 hk1 hS1 => ?_)
  have hw : u = g_fin μ b := hw
  rw [hw] at hBu
  obtain ⟨hP1, hK1, hD1⟩ := hBu
  rw [ht] at hP1
  exact kk H1 locs1 hP1 (hD1.weaken (fun k q _ h => hFc q.1 h)) hS1
set_option maxHeartbeats 4000000 in
set_option maxRecDepth 100000 in
theorem cm1_mount (l : Launch) (dC : Nat → ClassId) (dI : Nat → Nat → Nat) (B : Nat → Nat) (cI : ClassId) (cZ : ClassId) (μ : NS) (sz : Nat) (hnm : ∀ j, j < 40 → g_named (nLc μ) j) : Met l yX1_mount wsX1_mount (rk 7) (va_Pc [.ref (B 0)] (nPre (dC, dI) B cI cZ μ sz)) (va_Qi (fun r u => r = hr_mount μ ∧ u = hs_mount μ) (nB (dC, dI) B cI cZ (nX B cI cZ μ sz)) (nX B cI cZ μ sz)) 0 0 (nX B cI cZ μ sz) := by
  refine Met.ofW (cc := cX1_mount) (maxL := 3) (ret := (some .int)) (by decide) rfl ?_
  intro p e s m args below meth c s₁ Bd hml hv
  obtain ⟨rfl, hsz, hP, hK, hD0⟩ := hv
  have hx := Bd.exec
  have hb := Bd.bytes
  have hr := Bd.returns
  have hB : ∀ w ∈ bX1, w.before _ s = true := fun w h => atoms_spec (ws := wsX1_mount) Bd.pre w (List.mem_cons_of_mem _ h)
  have hown : s.vm.findClass RX1 = some m.cls := findClass_of_methodNamed Bd.named
  have hlocks := Bd.notSynchronized
  subst hsz
  have hD : va_D (nX B cI cZ μ s.heap.size) (wN B cI cZ μ) := hD0.self (sz := s.heap.size)
  have hA : ∀ q : Nat, s.heap.size ≤ q → nX B cI cZ μ s.heap.size q := fun q h => Or.inr h
  generalize nX B cI cZ μ s.heap.size = AA at hD hA ⊢
  have hS : va_S AA s.heap s.heap [] := va_S.rf
  have hl := lv_entry ([.ref (B 0)]) (n := 3) (Nat.le_of_ble_eq_true rfl)
  rw [lg_entry_eq]
  generalize (lg_sl ([.ref (B 0)]) ++ List.replicate (3 - (lg_sl ([.ref (B 0)])).length) Slot.unset).toArray = ls at hl ⊢
  have hl : lv_has ls 3 [(0, .ref (B 0))] := hl
  refine lv_aload_n hx hb dX1_mount_0 rfl (lv_at hl 0 rfl) ?_
  refine lv_aload_n hx hb dX1_mount_1 rfl (lv_at hl 0 rfl) ?_
  refine va_get (D := (dC, dI)) (ci := 1) (v := .int (nOf μ)) (C := RX1) (T := TX1) (N := 12) hx hb hB inX1 hown hK hP 0 rfl rfl 5 (by decide) (hB _ mX1_f_off) (fun _ h9 => h9) rfl dX1_mount_2 ?_
  refine lv_if_eq (tgt := 12) hx hb dX1_mount_5 rfl (fun h1 => ?_) (fun h1 => ?_)
  · skip
    refine lv_iconst (v := 1) hx hb dX1_mount_12 (by decide) ?_
    refine va_put (D := (dC, dI)) (ci := 1) (v := .int 1) (ty := .int) (C := RX1) (T := TX1) (N := 12) hx hb hB inX1 tyX1 tyX1_ok nmX1 hown hK hP hD hS 0 rfl rfl 0 (by decide) (hB _ mX1_f_thrown) (fun _ h9 => h9) rfl (by decide +kernel) rfl rfl (Nat.le_of_ble_eq_true rfl) dX1_mount_13 (fun H locs hP hD hS => ?_)
    have hP : va_P (dC, dI) vwCl (wN B cI cZ (mkN (1) (nWc μ) (nTc μ) (nLc μ) (nWr μ) (nOf μ) (nUn μ) (nOp μ) (nSt μ) (nKs μ) (nVs μ) (nTs μ))) H := hP
    have hD : va_D AA (wN B cI cZ (mkN (1) (nWc μ) (nTc μ) (nLc μ) (nWr μ) (nOf μ) (nUn μ) (nOp μ) (nSt μ) (nKs μ) (nVs μ) (nTs μ))) := hD
    refine lv_aload_n hx hb dX1_mount_16 rfl (lv_at hl 0 rfl) ?_
    refine va_get (D := (dC, dI)) (ci := 1) (v := .int (1)) (C := RX1) (T := TX1) (N := 12) hx hb hB inX1 hown hK hP 0 rfl rfl 0 (by decide) (hB _ mX1_f_thrown) (fun _ h9 => h9) rfl dX1_mount_17 ?_
    refine lv_if_eq (tgt := 25) hx hb dX1_mount_20 rfl (fun h9 => ?_) (fun h9 => ?_)
    · skip
      exact absurd h9 (by decide)
    · skip
      refine lv_iconst (v := 0) hx hb dX1_mount_23 (by decide) ?_
      exact W.iret (v := 0) hx hb hr (fun t ht hW => ⟨⟨0, mkN (1) (nWc μ) (nTc μ) (nLc μ) (nWr μ) (nOf μ) (nUn μ) (nOp μ) (nSt μ) (nKs μ) (nVs μ) (nTs μ), rfl, ⟨by rw [hr_mount, if_pos h1], by rw [hs_mount, if_pos h1]⟩, by rw [ht]; exact hP, va_K.moved hW.alike hK, hD⟩, hS.F ht⟩) hS.2.2 dX1_mount_24
  · skip
    refine lv_iconst (v := 0) hx hb dX1_mount_8 (by decide) ?_
    refine lv_goto (tgt := 13) hx hb dX1_mount_9 rfl ?_
    refine va_put (D := (dC, dI)) (ci := 1) (v := .int 0) (ty := .int) (C := RX1) (T := TX1) (N := 12) hx hb hB inX1 tyX1 tyX1_ok nmX1 hown hK hP hD hS 0 rfl rfl 0 (by decide) (hB _ mX1_f_thrown) (fun _ h9 => h9) rfl (by decide +kernel) rfl rfl (Nat.le_of_ble_eq_true rfl) dX1_mount_13 (fun H locs hP hD hS => ?_)
    have hP : va_P (dC, dI) vwCl (wN B cI cZ (mkN (0) (nWc μ) (nTc μ) (nLc μ) (nWr μ) (nOf μ) (nUn μ) (nOp μ) (nSt μ) (nKs μ) (nVs μ) (nTs μ))) H := hP
    have hD : va_D AA (wN B cI cZ (mkN (0) (nWc μ) (nTc μ) (nLc μ) (nWr μ) (nOf μ) (nUn μ) (nOp μ) (nSt μ) (nKs μ) (nVs μ) (nTs μ))) := hD
    refine lv_aload_n hx hb dX1_mount_16 rfl (lv_at hl 0 rfl) ?_
    refine va_get (D := (dC, dI)) (ci := 1) (v := .int (0)) (C := RX1) (T := TX1) (N := 12) hx hb hB inX1 hown hK hP 0 rfl rfl 0 (by decide) (hB _ mX1_f_thrown) (fun _ h9 => h9) rfl dX1_mount_17 ?_
    refine lv_if_eq (tgt := 25) hx hb dX1_mount_20 rfl (fun h9 => ?_) (fun h9 => ?_)
    · skip
      refine lv_aload_n hx hb dX1_mount_25 rfl (lv_at hl 0 rfl) ?_
      refine lv_iconst (v := 0) hx hb dX1_mount_26 (by decide) ?_
      refine va_put (D := (dC, dI)) (ci := 1) (v := .int 0) (ty := .boolean) (C := RX1) (T := TX1) (N := 12) hx hb hB inX1 tyX1 tyX1_ok nmX1 hown hK hP hD hS 0 rfl rfl 5 (by decide) (hB _ mX1_f_off) (fun _ h9 => h9) rfl (by decide +kernel) rfl rfl (Nat.le_of_ble_eq_true rfl) dX1_mount_27 (fun H locs hP hD hS => ?_)
      have hP : va_P (dC, dI) vwCl (wN B cI cZ (mkN (0) (nWc μ) (nTc μ) (nLc μ) (nWr μ) (0) (nUn μ) (nOp μ) (nSt μ) (nKs μ) (nVs μ) (nTs μ))) H := hP
      have hD : va_D AA (wN B cI cZ (mkN (0) (nWc μ) (nTc μ) (nLc μ) (nWr μ) (0) (nUn μ) (nOp μ) (nSt μ) (nKs μ) (nVs μ) (nTs μ))) := hD
      refine lv_aload_n hx hb dX1_mount_30 rfl (lv_at hl 0 rfl) ?_
      refine lv_iconst (v := (-1)) hx hb dX1_mount_31 (by decide) ?_
      refine va_put (D := (dC, dI)) (ci := 1) (v := .int (-1)) (ty := .int) (C := RX1) (T := TX1) (N := 12) hx hb hB inX1 tyX1 tyX1_ok nmX1 hown hK hP hD hS 0 rfl rfl 6 (by decide) (hB _ mX1_f_until) (fun _ h9 => h9) rfl (by decide +kernel) rfl rfl (Nat.le_of_ble_eq_true rfl) dX1_mount_32 (fun H locs hP hD hS => ?_)
      have hP : va_P (dC, dI) vwCl (wN B cI cZ (mkN (0) (nWc μ) (nTc μ) (nLc μ) (nWr μ) (0) ((-1)) (nOp μ) (nSt μ) (nKs μ) (nVs μ) (nTs μ))) H := hP
      have hD : va_D AA (wN B cI cZ (mkN (0) (nWc μ) (nTc μ) (nLc μ) (nWr μ) (0) ((-1)) (nOp μ) (nSt μ) (nKs μ) (nVs μ) (nTs μ))) := hD
      refine lv_aload_n hx hb dX1_mount_35 rfl (lv_at hl 0 rfl) ?_
      refine lv_iconst (v := 0) hx hb dX1_mount_36 (by decide) ?_
      refine va_put (D := (dC, dI)) (ci := 1) (v := .int 0) (ty := .boolean) (C := RX1) (T := TX1) (N := 12) hx hb hB inX1 tyX1 tyX1_ok nmX1 hown hK hP hD hS 0 rfl rfl 7 (by decide) (hB _ mX1_f_open) (fun _ h9 => h9) rfl (by decide +kernel) rfl rfl (Nat.le_of_ble_eq_true rfl) dX1_mount_37 (fun H locs hP hD hS => ?_)
      have hP : va_P (dC, dI) vwCl (wN B cI cZ (mkN (0) (nWc μ) (nTc μ) (nLc μ) (nWr μ) (0) ((-1)) (0) (nSt μ) (nKs μ) (nVs μ) (nTs μ))) H := hP
      have hD : va_D AA (wN B cI cZ (mkN (0) (nWc μ) (nTc μ) (nLc μ) (nWr μ) (0) ((-1)) (0) (nSt μ) (nKs μ) (nVs μ) (nTs μ))) := hD
      refine lv_iconst (v := 0) hx hb dX1_mount_40 (by decide) ?_
      refine lv_istore_n hx hb dX1_mount_41 rfl hl (by decide) rfl (fun ls hl => ?_)
      have hl : lv_has ls 3 [(1, .int 0), (0, .ref (B 0))] := hl
      have hP : va_P (dC, dI) vwCl (wN B cI cZ (g_mn0 μ)) H := hP
      have hD : va_D AA (wN B cI cZ (g_mn0 μ)) := hD
      have hl := lv_sub (l' := [(0, .ref (B 0)), (1, .int 0)]) hl [1, 0] rfl
      have hsm : hs_mount μ = g_mnL 40 0 (g_mn0 μ) := by rw [hs_mount, if_neg h1]
      have loop : ∀ (n i : Nat) (τ : NS) (ls : Array Slot) (H : Heap) (locs : List Loc), i + n = 40 → (∀ j, j < 40 → g_named (nLc τ) j) → lv_has ls 3 [(0, .ref (B 0)), (1, .int (nI i))] → va_P (dC, dI) vwCl (wN B cI cZ τ) H → va_D AA (wN B cI cZ τ) → va_S AA s.heap H locs → g_mnL n i τ = hs_mount μ → W p l e (headSpec wsX1_mount (rk 7)).room s m ([.ref (B 0)]).toArray below meth c H locs 0 0 (MQ below (va_Qi (fun r u => r = hr_mount μ ∧ u = hs_mount μ) (nB (dC, dI) B cI cZ AA) AA) ([.ref (B 0)]).toArray s 0 0 AA) (F0 m 42 ls []) := by
        intro n
        induction n with
        | zero =>
          intro i τ ls H locs hi hnm hl hP hD hS hF
          have hi8 : i = 40 := by omega
          subst hi8
          refine lv_iload_n hx hb dX1_mount_42 rfl (lv_at hl 1 rfl) ?_
          refine lv_bipush (v := 40) hx hb dX1_mount_43 (by decide) ?_
          refine lv_icmp_ge (tgt := 75) hx hb dX1_mount_45 rfl (fun hc => ?_) (fun hc => ?_)
          · skip
            have hF : τ = hs_mount μ := hF
            subst hF
            refine lv_iconst (v := 0) hx hb dX1_mount_75 (by decide) ?_
            refine lv_istore_n hx hb dX1_mount_76 rfl hl (by decide) rfl (fun ls hl => ?_)
            have hl : lv_has ls 3 [(1, .int 0), (0, .ref (B 0))] := hl
            refine lv_iconst (v := 0) hx hb dX1_mount_77 (by decide) ?_
            refine lv_istore_n hx hb dX1_mount_78 rfl hl (by decide) rfl (fun ls hl => ?_)
            have hl : lv_has ls 3 [(2, .int 0), (1, .int 0), (0, .ref (B 0))] := hl
            have hl := lv_sub (l' := [(0, .ref (B 0)), (1, .int 0), (2, .int 0)]) hl [2, 1, 0] rfl
            have cnt : ∀ (n j : Nat) (a : Int32) (ls : Array Slot), j + n = 64 → lv_has ls 3 [(0, .ref (B 0)), (1, .int a), (2, .int (nI j))] → g_cntB (fun k => decide (¬ g_pres (nTc (hs_mount μ)) (nI k) 160 < 0)) n j a = hr_mount μ → W p l e (headSpec wsX1_mount (rk 7)).room s m ([.ref (B 0)]).toArray below meth c H locs 0 0 (MQ below (va_Qi (fun r u => r = hr_mount μ ∧ u = hs_mount μ) (nB (dC, dI) B cI cZ AA) AA) ([.ref (B 0)]).toArray s 0 0 AA) (F0 m 79 ls []) := by
              intro n
              induction n with
              | zero =>
                intro j a ls hj hl hC
                have hj8 : j = 64 := by omega
                subst hj8
                refine lv_iload_n hx hb dX1_mount_79 rfl (lv_at hl 2 rfl) ?_
                refine lv_bipush (v := 64) hx hb dX1_mount_80 (by decide) ?_
                refine lv_icmp_ge (tgt := 107) hx hb dX1_mount_82 rfl (fun hd => ?_) (fun hd => ?_)
                · skip
                  refine lv_iload_n hx hb dX1_mount_107 rfl (lv_at hl 1 rfl) ?_
                  exact W.iret (v := a) hx hb hr (fun t ht hW => ⟨⟨a, hs_mount μ, rfl, ⟨hC, rfl⟩, by rw [ht]; exact hP, va_K.moved hW.alike hK, hD⟩, hS.F ht⟩) hS.2.2 dX1_mount_108
                · skip
                  exact absurd (by decide) hd
              | succ n ih =>
                intro j a ls hj hl hC
                refine lv_iload_n hx hb dX1_mount_79 rfl (lv_at hl 2 rfl) ?_
                refine lv_bipush (v := 64) hx hb dX1_mount_80 (by decide) ?_
                refine lv_icmp_ge (tgt := 107) hx hb dX1_mount_82 rfl (fun hd => ?_) (fun hd => ?_)
                · skip
                  exact absurd hd (nI_ge (b := 64) (by omega) (by decide))
                · skip
                  refine lv_iload_n hx hb dX1_mount_85 rfl (lv_at hl 1 rfl) ?_
                  refine lv_aload_n hx hb dX1_mount_86 rfl (lv_at hl 0 rfl) ?_
                  refine lv_iload_n hx hb dX1_mount_87 rfl (lv_at hl 2 rfl) ?_
                  refine ck1_present hx hb hml hown hB hl.1 hP hK dX1_mount_88 (Nat.le_of_ble_eq_true rfl) (Nat.le_of_ble_eq_true rfl) ⟨Nat.zero_le _, Nat.zero_le _⟩ (Nat.le_of_ble_eq_true rfl) ?_
                  refine lv_if_lt (tgt := 98) hx hb dX1_mount_91 rfl (fun h5 => ?_) (fun h5 => ?_)
                  · skip
                    refine lv_iconst (v := 0) hx hb dX1_mount_98 (by decide) ?_
                    refine lv_iadd hx hb dX1_mount_99 ?_
                    refine lv_istore_n hx hb dX1_mount_100 rfl hl (by decide) rfl (fun ls hl => ?_)
                    have hl : lv_has ls 3 [(1, .int (a + 0)), (0, .ref (B 0)), (2, .int (nI j))] := hl
                    refine lv_iinc (k := 2) (v := (nI (j + 1))) hx hb dX1_mount_101 hl rfl (nI_1 j) (by decide) rfl (fun ls hl => ?_)
                    have hl : lv_has ls 3 [(2, .int (nI (j + 1))), (1, .int (a + 0)), (0, .ref (B 0))] := hl
                    refine lv_goto (tgt := 79) hx hb dX1_mount_104 rfl ?_
                    exact ih (j + 1) _ ls (by omega) (lv_sub hl [2, 1, 0] rfl) (by rw [← hC, g_cntB]; simp [bI, h5])
                  · skip
                    refine lv_iconst (v := 1) hx hb dX1_mount_94 (by decide) ?_
                    refine lv_goto (tgt := 99) hx hb dX1_mount_95 rfl ?_
                    refine lv_iadd hx hb dX1_mount_99 ?_
                    refine lv_istore_n hx hb dX1_mount_100 rfl hl (by decide) rfl (fun ls hl => ?_)
                    have hl : lv_has ls 3 [(1, .int (a + 1)), (0, .ref (B 0)), (2, .int (nI j))] := hl
                    refine lv_iinc (k := 2) (v := (nI (j + 1))) hx hb dX1_mount_101 hl rfl (nI_1 j) (by decide) rfl (fun ls hl => ?_)
                    have hl : lv_has ls 3 [(2, .int (nI (j + 1))), (1, .int (a + 1)), (0, .ref (B 0))] := hl
                    refine lv_goto (tgt := 79) hx hb dX1_mount_104 rfl ?_
                    exact ih (j + 1) _ ls (by omega) (lv_sub hl [2, 1, 0] rfl) (by rw [← hC, g_cntB]; simp [bI, h5])
            exact cnt 64 0 0 ls rfl hl (by rw [hr_mount, if_neg h1])
          · skip
            exact absurd (by decide) hc
        | succ n ih =>
          intro i τ ls H locs hi hnm hl hP hD hS hF
          refine lv_iload_n hx hb dX1_mount_42 rfl (lv_at hl 1 rfl) ?_
          refine lv_bipush (v := 40) hx hb dX1_mount_43 (by decide) ?_
          refine lv_icmp_ge (tgt := 75) hx hb dX1_mount_45 rfl (fun hc => ?_) (fun hc => ?_)
          · skip
            exact absurd hc (nI_ge (b := 40) (by omega) (by decide))
          · skip
            refine lv_aload_n hx hb dX1_mount_48 rfl (lv_at hl 0 rfl) ?_
            refine lv_bipush (v := 9) hx hb dX1_mount_49 (by decide) ?_
            refine lv_iload_n hx hb dX1_mount_51 rfl (lv_at hl 1 rfl) ?_
            refine lv_imul hx hb dX1_mount_52 ?_
            refine lv_bipush (v := 8) hx hb dX1_mount_53 (by decide) ?_
            refine lv_iadd hx hb dX1_mount_55 ?_
            have hidx : 9 * nI i + 8 = nI (9 * i + 8) := by rw [← nI_add, ← pk_mul]; rfl
            rw [hidx]
            refine ck1_line hx hb hml hown hB hl.1 hP hK (by omega) dX1_mount_56 (Nat.le_of_ble_eq_true rfl) (Nat.le_of_ble_eq_true rfl) ⟨Nat.zero_le _, Nat.zero_le _⟩ (Nat.le_of_ble_eq_true rfl) ?_
            refine lv_lconst (v := 1) hx hb dX1_mount_59 (by decide) ?_
            refine W.lcmp hx hb dX1_mount_60 ?_
            refine lv_if_ne (tgt := 69) hx hb dX1_mount_61 rfl (fun h2 => ?_) (fun h2 => ?_)
            · skip
              refine lv_iinc (k := 1) (v := (nI (i + 1))) hx hb dX1_mount_69 hl rfl (nI_1 i) (by decide) rfl (fun ls hl => ?_)
              have hl : lv_has ls 3 [(1, .int (nI (i + 1))), (0, .ref (B 0))] := hl
              refine lv_goto (tgt := 42) hx hb dX1_mount_72 rfl ?_
              exact ih (i + 1) _ ls H locs (by omega) hnm (lv_sub hl [1, 0] rfl) hP hD hS (by rw [← hF, g_mnL, if_neg (fun h => h2 ((lg_cmp_eq _ _).mpr h))])
            · skip
              refine lv_aload_n hx hb dX1_mount_64 rfl (lv_at hl 0 rfl) ?_
              refine lv_iload_n hx hb dX1_mount_65 rfl (lv_at hl 1 rfl) ?_
              refine ck1_finish hx hb hml hown hB hl.1 hP hK hD hS hA (by omega) (hnm i (by omega)) dX1_mount_66 (Nat.le_of_ble_eq_true rfl) (Nat.le_of_ble_eq_true rfl) ⟨Nat.zero_le _, Nat.zero_le _⟩ (Nat.le_of_ble_eq_true rfl) (fun H locs hP hD hS => ?_)
              refine lv_iinc (k := 1) (v := (nI (i + 1))) hx hb dX1_mount_69 hl rfl (nI_1 i) (by decide) rfl (fun ls hl => ?_)
              have hl : lv_has ls 3 [(1, .int (nI (i + 1))), (0, .ref (B 0))] := hl
              refine lv_goto (tgt := 42) hx hb dX1_mount_72 rfl ?_
              exact ih (i + 1) (g_fin τ i) ls H locs (by omega) (g_fin_named τ i hnm) (lv_sub hl [1, 0] rfl) hP hD hS ((g_mnL_fin n i τ ((lg_cmp_eq _ _).mp h2)).symm.trans hF)
      exact loop 40 0 (g_mn0 μ) ls H locs rfl hnm hl hP hD hS hsm.symm
    · skip
      exact absurd rfl h9
