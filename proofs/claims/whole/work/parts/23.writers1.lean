set_option maxHeartbeats 4000000 in
set_option maxRecDepth 100000 in
theorem cm1_mayWrite (l : Launch) (dC : Nat → ClassId) (dI : Nat → Nat → Nat) (B : Nat → Nat) (cI : ClassId) (cZ : ClassId) (μ : NS) (sz : Nat) : Met l yX1_mayWrite wsX1_mayWrite (rk 0) (va_Pc [.ref (B 0)] (nPre (dC, dI) B cI cZ μ sz)) (va_Qi (fun r u => r = bI (g_may μ).1 ∧ u = (g_may μ).2) (nB (dC, dI) B cI cZ (nX B cI cZ μ sz)) (nX B cI cZ μ sz)) 0 0 (nX B cI cZ μ sz) := by
  refine Met.ofW (cc := cX1_mayWrite) (maxL := 1) (ret := (some .boolean)) (by decide) rfl ?_
  intro p e s m args below meth c s₁ Bd hml hv
  obtain ⟨rfl, hsz, hP, hK, hD0⟩ := hv
  have hx := Bd.exec
  have hb := Bd.bytes
  have hr := Bd.returns
  have hB : ∀ w ∈ bX1, w.before _ s = true := fun w h => atoms_spec (ws := wsX1_mayWrite) Bd.pre w (List.mem_cons_of_mem _ h)
  have hown : s.vm.findClass RX1 = some m.cls := findClass_of_methodNamed Bd.named
  have hlocks := Bd.notSynchronized
  subst hsz
  have hD : va_D (nX B cI cZ μ s.heap.size) (wN B cI cZ μ) := hD0.self (sz := s.heap.size)
  have hA : ∀ q : Nat, s.heap.size ≤ q → nX B cI cZ μ s.heap.size q := fun q h => Or.inr h
  generalize nX B cI cZ μ s.heap.size = AA at hD hA ⊢
  have hS : va_S AA s.heap s.heap [] := va_S.rf
  have hl := lv_entry ([.ref (B 0)]) (n := 1) (Nat.le_of_ble_eq_true rfl)
  rw [lg_entry_eq]
  generalize (lg_sl ([.ref (B 0)]) ++ List.replicate (1 - (lg_sl ([.ref (B 0)])).length) Slot.unset).toArray = ls at hl ⊢
  have hl : lv_has ls 1 [(0, .ref (B 0))] := hl
  refine lv_aload_n hx hb dX1_mayWrite_0 rfl (lv_at hl 0 rfl) ?_
  refine va_get (D := (dC, dI)) (ci := 1) (v := .int (nOf μ)) (C := RX1) (T := TX1) (N := 12) hx hb hB inX1 hown hK hP 0 rfl rfl 5 (by decide) (hB _ mX1_f_off) (fun _ h9 => h9) rfl dX1_mayWrite_1 ?_
  refine lv_if_eq (tgt := 9) hx hb dX1_mayWrite_4 rfl (fun h1 => ?_) (fun h1 => ?_)
  · skip
    refine lv_aload_n hx hb dX1_mayWrite_9 rfl (lv_at hl 0 rfl) ?_
    refine va_get (D := (dC, dI)) (ci := 1) (v := .int (nUn μ)) (C := RX1) (T := TX1) (N := 12) hx hb hB inX1 hown hK hP 0 rfl rfl 6 (by decide) (hB _ mX1_f_until) (fun _ h9 => h9) rfl dX1_mayWrite_10 ?_
    refine lv_if_ne (tgt := 23) hx hb dX1_mayWrite_13 rfl (fun h2 => ?_) (fun h2 => ?_)
    · skip
      refine lv_aload_n hx hb dX1_mayWrite_23 rfl (lv_at hl 0 rfl) ?_
      refine lv_aload_n hx hb dX1_mayWrite_24 rfl (lv_at hl 0 rfl) ?_
      refine va_get (D := (dC, dI)) (ci := 1) (v := .int (nUn μ)) (C := RX1) (T := TX1) (N := 12) hx hb hB inX1 hown hK hP 0 rfl rfl 6 (by decide) (hB _ mX1_f_until) (fun _ h9 => h9) rfl dX1_mayWrite_25 ?_
      refine lv_if_le (tgt := 40) hx hb dX1_mayWrite_28 rfl (fun h3 => ?_) (fun h3 => ?_)
      · skip
        refine lv_aload_n hx hb dX1_mayWrite_40 rfl (lv_at hl 0 rfl) ?_
        refine va_get (D := (dC, dI)) (ci := 1) (v := .int (nUn μ)) (C := RX1) (T := TX1) (N := 12) hx hb hB inX1 hown hK hP 0 rfl rfl 6 (by decide) (hB _ mX1_f_until) (fun _ h9 => h9) rfl dX1_mayWrite_41 ?_
        refine va_put (D := (dC, dI)) (ci := 1) (v := .int (nUn μ)) (ty := .int) (C := RX1) (T := TX1) (N := 12) hx hb hB inX1 tyX1 tyX1_ok nmX1 hown hK hP hD hS 0 rfl rfl 6 (by decide) (hB _ mX1_f_until) (fun _ h9 => h9) rfl (by decide +kernel) rfl rfl (Nat.le_of_ble_eq_true rfl) dX1_mayWrite_44 (fun H locs hP hD hS => ?_)
        have hP : va_P (dC, dI) vwCl (wN B cI cZ (mkN (nTh μ) (nWc μ) (nTc μ) (nLc μ) (nWr μ) (nOf μ) ((nUn μ)) (nOp μ) (nSt μ) (nKs μ) (nVs μ) (nTs μ))) H := hP
        have hD : va_D AA (wN B cI cZ (mkN (nTh μ) (nWc μ) (nTc μ) (nLc μ) (nWr μ) (nOf μ) ((nUn μ)) (nOp μ) (nSt μ) (nKs μ) (nVs μ) (nTs μ))) := hD
        refine lv_aload_n hx hb dX1_mayWrite_47 rfl (lv_at hl 0 rfl) ?_
        refine lv_dup hx hb dX1_mayWrite_48 rfl ?_
        refine va_get (D := (dC, dI)) (ci := 1) (v := .int (nWr μ)) (C := RX1) (T := TX1) (N := 12) hx hb hB inX1 hown hK hP 0 rfl rfl 4 (by decide) (hB _ mX1_f_writes) (fun _ h9 => h9) rfl dX1_mayWrite_49 ?_
        refine lv_iconst (v := 1) hx hb dX1_mayWrite_52 (by decide) ?_
        refine lv_iadd hx hb dX1_mayWrite_53 ?_
        refine va_put (D := (dC, dI)) (ci := 1) (v := .int ((nWr μ) + 1)) (ty := .int) (C := RX1) (T := TX1) (N := 12) hx hb hB inX1 tyX1 tyX1_ok nmX1 hown hK hP hD hS 0 rfl rfl 4 (by decide) (hB _ mX1_f_writes) (fun _ h9 => h9) rfl (by decide +kernel) rfl rfl (Nat.le_of_ble_eq_true rfl) dX1_mayWrite_54 (fun H locs hP hD hS => ?_)
        have hP : va_P (dC, dI) vwCl (wN B cI cZ (mkN (nTh μ) (nWc μ) (nTc μ) (nLc μ) (((nWr μ) + 1)) (nOf μ) ((nUn μ)) (nOp μ) (nSt μ) (nKs μ) (nVs μ) (nTs μ))) H := hP
        have hD : va_D AA (wN B cI cZ (mkN (nTh μ) (nWc μ) (nTc μ) (nLc μ) (((nWr μ) + 1)) (nOf μ) ((nUn μ)) (nOp μ) (nSt μ) (nKs μ) (nVs μ) (nTs μ))) := hD
        refine lv_iconst (v := 1) hx hb dX1_mayWrite_57 (by decide) ?_
        exact W.zret (v := 1) hx hb hr (rfl) (fun t ht hW => ⟨⟨1, mkN (nTh μ) (nWc μ) (nTc μ) (nLc μ) (((nWr μ) + 1)) (nOf μ) ((nUn μ)) (nOp μ) (nSt μ) (nKs μ) (nVs μ) (nTs μ), rfl, ⟨by rw [g_may, if_pos h1, if_neg h2]; rfl, by rw [g_may, if_pos h1, if_neg h2, f_dec, if_pos h3]⟩, by rw [ht]; exact hP, va_K.moved hW.alike hK, hD⟩, hS.F ht⟩) hS.2.2 dX1_mayWrite_58
      · skip
        refine lv_aload_n hx hb dX1_mayWrite_31 rfl (lv_at hl 0 rfl) ?_
        refine va_get (D := (dC, dI)) (ci := 1) (v := .int (nUn μ)) (C := RX1) (T := TX1) (N := 12) hx hb hB inX1 hown hK hP 0 rfl rfl 6 (by decide) (hB _ mX1_f_until) (fun _ h9 => h9) rfl dX1_mayWrite_32 ?_
        refine lv_iconst (v := 1) hx hb dX1_mayWrite_35 (by decide) ?_
        refine lv_isub hx hb dX1_mayWrite_36 ?_
        refine lv_goto (tgt := 44) hx hb dX1_mayWrite_37 rfl ?_
        refine va_put (D := (dC, dI)) (ci := 1) (v := .int ((nUn μ) - 1)) (ty := .int) (C := RX1) (T := TX1) (N := 12) hx hb hB inX1 tyX1 tyX1_ok nmX1 hown hK hP hD hS 0 rfl rfl 6 (by decide) (hB _ mX1_f_until) (fun _ h9 => h9) rfl (by decide +kernel) rfl rfl (Nat.le_of_ble_eq_true rfl) dX1_mayWrite_44 (fun H locs hP hD hS => ?_)
        have hP : va_P (dC, dI) vwCl (wN B cI cZ (mkN (nTh μ) (nWc μ) (nTc μ) (nLc μ) (nWr μ) (nOf μ) (((nUn μ) - 1)) (nOp μ) (nSt μ) (nKs μ) (nVs μ) (nTs μ))) H := hP
        have hD : va_D AA (wN B cI cZ (mkN (nTh μ) (nWc μ) (nTc μ) (nLc μ) (nWr μ) (nOf μ) (((nUn μ) - 1)) (nOp μ) (nSt μ) (nKs μ) (nVs μ) (nTs μ))) := hD
        refine lv_aload_n hx hb dX1_mayWrite_47 rfl (lv_at hl 0 rfl) ?_
        refine lv_dup hx hb dX1_mayWrite_48 rfl ?_
        refine va_get (D := (dC, dI)) (ci := 1) (v := .int (nWr μ)) (C := RX1) (T := TX1) (N := 12) hx hb hB inX1 hown hK hP 0 rfl rfl 4 (by decide) (hB _ mX1_f_writes) (fun _ h9 => h9) rfl dX1_mayWrite_49 ?_
        refine lv_iconst (v := 1) hx hb dX1_mayWrite_52 (by decide) ?_
        refine lv_iadd hx hb dX1_mayWrite_53 ?_
        refine va_put (D := (dC, dI)) (ci := 1) (v := .int ((nWr μ) + 1)) (ty := .int) (C := RX1) (T := TX1) (N := 12) hx hb hB inX1 tyX1 tyX1_ok nmX1 hown hK hP hD hS 0 rfl rfl 4 (by decide) (hB _ mX1_f_writes) (fun _ h9 => h9) rfl (by decide +kernel) rfl rfl (Nat.le_of_ble_eq_true rfl) dX1_mayWrite_54 (fun H locs hP hD hS => ?_)
        have hP : va_P (dC, dI) vwCl (wN B cI cZ (mkN (nTh μ) (nWc μ) (nTc μ) (nLc μ) (((nWr μ) + 1)) (nOf μ) (((nUn μ) - 1)) (nOp μ) (nSt μ) (nKs μ) (nVs μ) (nTs μ))) H := hP
        have hD : va_D AA (wN B cI cZ (mkN (nTh μ) (nWc μ) (nTc μ) (nLc μ) (((nWr μ) + 1)) (nOf μ) (((nUn μ) - 1)) (nOp μ) (nSt μ) (nKs μ) (nVs μ) (nTs μ))) := hD
        refine lv_iconst (v := 1) hx hb dX1_mayWrite_57 (by decide) ?_
        exact W.zret (v := 1) hx hb hr (rfl) (fun t ht hW => ⟨⟨1, mkN (nTh μ) (nWc μ) (nTc μ) (nLc μ) (((nWr μ) + 1)) (nOf μ) (((nUn μ) - 1)) (nOp μ) (nSt μ) (nKs μ) (nVs μ) (nTs μ), rfl, ⟨by rw [g_may, if_pos h1, if_neg h2]; rfl, by rw [g_may, if_pos h1, if_neg h2, f_dec, if_neg h3]⟩, by rw [ht]; exact hP, va_K.moved hW.alike hK, hD⟩, hS.F ht⟩) hS.2.2 dX1_mayWrite_58
    · skip
      refine lv_aload_n hx hb dX1_mayWrite_16 rfl (lv_at hl 0 rfl) ?_
      refine lv_iconst (v := 1) hx hb dX1_mayWrite_17 (by decide) ?_
      refine va_put (D := (dC, dI)) (ci := 1) (v := .int 1) (ty := .boolean) (C := RX1) (T := TX1) (N := 12) hx hb hB inX1 tyX1 tyX1_ok nmX1 hown hK hP hD hS 0 rfl rfl 5 (by decide) (hB _ mX1_f_off) (fun _ h9 => h9) rfl (by decide +kernel) rfl rfl (Nat.le_of_ble_eq_true rfl) dX1_mayWrite_18 (fun H locs hP hD hS => ?_)
      have hP : va_P (dC, dI) vwCl (wN B cI cZ (mkN (nTh μ) (nWc μ) (nTc μ) (nLc μ) (nWr μ) (1) (nUn μ) (nOp μ) (nSt μ) (nKs μ) (nVs μ) (nTs μ))) H := hP
      have hD : va_D AA (wN B cI cZ (mkN (nTh μ) (nWc μ) (nTc μ) (nLc μ) (nWr μ) (1) (nUn μ) (nOp μ) (nSt μ) (nKs μ) (nVs μ) (nTs μ))) := hD
      refine lv_iconst (v := 0) hx hb dX1_mayWrite_21 (by decide) ?_
      exact W.zret (v := 0) hx hb hr (rfl) (fun t ht hW => ⟨⟨0, mkN (nTh μ) (nWc μ) (nTc μ) (nLc μ) (nWr μ) (1) (nUn μ) (nOp μ) (nSt μ) (nKs μ) (nVs μ) (nTs μ), rfl, ⟨by rw [g_may, if_pos h1, if_pos h2]; rfl, by rw [g_may, if_pos h1, if_pos h2]⟩, by rw [ht]; exact hP, va_K.moved hW.alike hK, hD⟩, hS.F ht⟩) hS.2.2 dX1_mayWrite_22
  · skip
    refine lv_iconst (v := 0) hx hb dX1_mayWrite_7 (by decide) ?_
    exact W.zret (v := 0) hx hb hr (rfl) (fun t ht hW => ⟨⟨0, μ, rfl, ⟨by rw [g_may, if_neg h1]; rfl, by rw [g_may, if_neg h1]⟩, by rw [ht]; exact hP, va_K.moved hW.alike hK, hD⟩, hS.F ht⟩) hS.2.2 dX1_mayWrite_8
set_option maxRecDepth 100000 in
theorem ck1_mayWrite {p : Program} {l : Launch} {e : Env} {R : Room} {s : State} {m : MethodId} {args : Array Value} {below : List Frame} {meth : Method} {c : Code} {H : Heap} {locs : List Loc} {cells slots : Nat} {Q : State → Prop} {cc : ByteArray} {nL pc : Nat} {ls : Array Slot} {rest : List Value} {A0 : Nat → Prop} {H0 : Heap} {dC : Nat → ClassId} {dI : Nat → Nat → Nat} {B : Nat → Nat} {cI : ClassId} {cZ : ClassId} {μ : NS} (hx : p.tables.exec = Jvm.exec) (hb : c.code = cc) (hml : c.maxLocals = nL) (hown : s.vm.findClass RX1 = some m.cls) (hB : ∀ w ∈ bX1, w.before args s = true) (hsz : ls.size = nL) (hP : va_P (dC, dI) vwCl (wN B cI cZ μ) H) (hK : va_K (dC, dI) vwCl [(cI, .int), (cZ, .boolean)] s) (hD : va_D A0 (wN B cI cZ μ)) (hS : va_S A0 H0 H locs) (hA : ∀ q, H0.size ≤ q → A0 q)  (hd : decode cc pc = .ok (.invokevirtual 78, 3)) (hF : 1 ≤ R.frames) (hLo : 20 ≤ R.locals) (hc : cells ≤ R.cells ∧ slots ≤ R.slots) (hst : (rest.map fun v => v.category).sum ≤ 8)
    (kk : ∀ (H1 : Heap) (locs1 : List Loc), va_P (dC, dI) vwCl (wN B cI cZ ((g_may μ).2)) H1 → va_D A0 (wN B cI cZ ((g_may μ).2)) → va_S A0 H0 H1 locs1 → W p l e R s m args below meth c H1 locs1 cells slots Q (F0 m (pc + 3) ls (.int (bI (g_may μ).1) :: rest))) : W p l e R s m args below meth c H locs cells slots Q (F0 m pc ls (.ref (B 0) :: rest)) := by
  have hFc := va_free (wc := wN B cI cZ μ) hD hS hA [0, 1, 2, 3, 4, 5, 6] rfl
  refine va_calli (va_runV (C := RX1) (As := []) (rest := rest) ⟨hx, hb, hml, hown, hB⟩ (cm1_mayWrite l dC dI B cI cZ μ H.size ) (cwV 0 hB goX1_mayWrite rfl rfl rfl ⟨rfl, by decide, by decide, by decide +kernel⟩ ⟨hF, hLo⟩) ⟨fun a U g mk q => by obtain ⟨q0, q1, qP, qK, qD⟩ := q; exact ⟨q0, q1, qP, va_K.moved (u := U) (U := U.calling g mk a) (Vm.Alike.refl U.vm) qK, qD⟩, va_recv (q := (RX1, TX1, 12)) hK hP rfl (q0 := 0) rfl, fun U hU hW => ⟨rfl, by rw [hU], by rw [hU]; exact hP, va_K.moved hW.alike hK, hD.weaken (fun _ _ _ _ => trivial)⟩⟩ rfl rfl hsz rfl (lv_room hst) hd hc) hS (fun q _ h => hFc q h) hFc (fun r u t H1 locs1 ht hvm hw hBu hz1 hk1 hS1 => ?_)
  obtain ⟨hw1, hw2⟩ := hw
  rw [hw2] at hBu
  rw [hw1]
  obtain ⟨hP1, hK1, hD1⟩ := hBu
  rw [ht] at hP1
  exact kk H1 locs1 hP1 (hD1.weaken (fun k q _ h => hFc q.1 h)) hS1
set_option maxHeartbeats 4000000 in
set_option maxRecDepth 100000 in
theorem cm1_writeWord (l : Launch) (dC : Nat → ClassId) (dI : Nat → Nat → Nat) (B : Nat → Nat) (cI : ClassId) (cZ : ClassId) (μ : NS) (sz : Nat) (w : Nat) (v : Int32) (hw : w < 160) : Met l yX1_writeWord wsX1_writeWord (rk 4) (va_Pc [.ref (B 0), .int (nI w), .int v] (nPre (dC, dI) B cI cZ μ sz)) (va_Qv (fun u => u = g_wrW μ w v) (nB (dC, dI) B cI cZ (nX B cI cZ μ sz)) (nX B cI cZ μ sz)) 0 0 (nX B cI cZ μ sz) := by
  refine Met.ofW (cc := cX1_writeWord) (maxL := 6) (ret := none) (by decide) rfl ?_
  intro p e s m args below meth c s₁ Bd hml hv
  obtain ⟨rfl, hsz, hP, hK, hD0⟩ := hv
  have hx := Bd.exec
  have hb := Bd.bytes
  have hr := Bd.returns
  have hB : ∀ w ∈ bX1, w.before _ s = true := fun w h => atoms_spec (ws := wsX1_writeWord) Bd.pre w (List.mem_cons_of_mem _ h)
  have hown : s.vm.findClass RX1 = some m.cls := findClass_of_methodNamed Bd.named
  have hlocks := Bd.notSynchronized
  subst hsz
  have hD : va_D (nX B cI cZ μ s.heap.size) (wN B cI cZ μ) := hD0.self (sz := s.heap.size)
  have hA : ∀ q : Nat, s.heap.size ≤ q → nX B cI cZ μ s.heap.size q := fun q h => Or.inr h
  generalize nX B cI cZ μ s.heap.size = AA at hD hA ⊢
  have hS : va_S AA s.heap s.heap [] := va_S.rf
  have hl := lv_entry ([.ref (B 0), .int (nI w), .int v]) (n := 6) (Nat.le_of_ble_eq_true rfl)
  rw [lg_entry_eq]
  generalize (lg_sl ([.ref (B 0), .int (nI w), .int v]) ++ List.replicate (6 - (lg_sl ([.ref (B 0), .int (nI w), .int v])).length) Slot.unset).toArray = ls at hl ⊢
  have hl : lv_has ls 6 [(0, .ref (B 0)), (1, .int (nI w)), (2, .int v)] := hl
  refine lv_aload_n hx hb dX1_writeWord_0 rfl (lv_at hl 0 rfl) ?_
  refine va_get (D := (dC, dI)) (ci := 1) (v := .int (nOf μ)) (C := RX1) (T := TX1) (N := 12) hx hb hB inX1 hown hK hP 0 rfl rfl 5 (by decide) (hB _ mX1_f_off) (fun _ h9 => h9) rfl dX1_writeWord_1 ?_
  refine lv_if_ne (tgt := 23) hx hb dX1_writeWord_4 rfl (fun h1 => ?_) (fun h1 => ?_)
  · skip
    exact W.vret hx hb hr (fun t ht hW => ⟨⟨μ, rfl, by rw [g_wrW, if_pos h1], by rw [ht]; exact hP, va_K.moved hW.alike hK, hD⟩, hS.F ht⟩) hS.2.2 dX1_writeWord_23
  · skip
    have h1n : ¬ ¬ nOf μ = 0 := fun h => h h1
    refine lv_aload_n hx hb dX1_writeWord_7 rfl (lv_at hl 0 rfl) ?_
    refine lv_iload_n hx hb dX1_writeWord_8 rfl (lv_at hl 1 rfl) ?_
    refine lv_iload_n hx hb dX1_writeWord_9 rfl (lv_at hl 2 rfl) ?_
    refine ck1_valueIs hx hb hml hown hB hl.1 hP hK hw dX1_writeWord_10 (Nat.le_of_ble_eq_true rfl) (Nat.le_of_ble_eq_true rfl) ⟨Nat.zero_le _, Nat.zero_le _⟩ (Nat.le_of_ble_eq_true rfl) ?_
    refine lv_if_ne (tgt := 23) hx hb dX1_writeWord_13 rfl (fun h3 => ?_) (fun h3 => ?_)
    · skip
      exact W.vret hx hb hr (fun t ht hW => ⟨⟨μ, rfl, by rw [g_wrW, if_neg h1n, if_pos (of_decide_eq_true (bI_n0.mp h3))], by rw [ht]; exact hP, va_K.moved hW.alike hK, hD⟩, hS.F ht⟩) hS.2.2 dX1_writeWord_23
    · skip
      have h3n : ¬ g_val (nWc μ) w = v := of_decide_eq_false (bI_0.mp h3)
      refine lv_aload_n hx hb dX1_writeWord_16 rfl (lv_at hl 0 rfl) ?_
      refine ck1_mayWrite hx hb hml hown hB hl.1 hP hK hD hS hA  dX1_writeWord_17 (Nat.le_of_ble_eq_true rfl) (Nat.le_of_ble_eq_true rfl) ⟨Nat.zero_le _, Nat.zero_le _⟩ (Nat.le_of_ble_eq_true rfl) (fun H locs hP hD hS => ?_)
      refine lv_if_ne (tgt := 24) hx hb dX1_writeWord_20 rfl (fun h4 => ?_) (fun h4 => ?_)
      · skip
        refine lv_iconst (v := 0) hx hb dX1_writeWord_24 (by decide) ?_
        refine lv_istore_n hx hb dX1_writeWord_25 rfl hl (by decide) rfl (fun ls hl => ?_)
        have hl : lv_has ls 6 [(3, .int 0), (0, .ref (B 0)), (1, .int (nI w)), (2, .int v)] := hl
        have hl := lv_sub (l' := [(0, .ref (B 0)), (1, .int (nI w)), (2, .int v), (3, .int 0)]) hl [1, 2, 3, 0] rfl
        have loop : ∀ (n g : Nat) (τ : NS) (ls : Array Slot) (H : Heap) (locs : List Loc), g + n = 8 → lv_has ls 6 [(0, .ref (B 0)), (1, .int (nI w)), (2, .int v), (3, .int (nI g))] → va_P (dC, dI) vwCl (wN B cI cZ τ) H → va_D AA (wN B cI cZ τ) → va_S AA s.heap H locs → g_nWW w v n g τ = g_nWW w v 8 0 (g_may μ).2 → W p l e (headSpec wsX1_writeWord (rk 4)).room s m ([.ref (B 0), .int (nI w), .int v]).toArray below meth c H locs 0 0 (MQ below (va_Qv (fun u => u = g_wrW μ w v) (nB (dC, dI) B cI cZ AA) AA) ([.ref (B 0), .int (nI w), .int v]).toArray s 0 0 AA) (F0 m 26 ls []) := by
          intro n
          induction n with
          | zero =>
            intro g τ ls H locs hi hl hP hD hS hF
            have hi8 : g = 8 := by omega
            subst hi8
            refine lv_iload_n hx hb dX1_writeWord_26 rfl (lv_at hl 3 rfl) ?_
            refine lv_bipush (v := 8) hx hb dX1_writeWord_27 (by decide) ?_
            refine lv_icmp_ge (tgt := 104) hx hb dX1_writeWord_29 rfl (fun hc => ?_) (fun hc => ?_)
            · skip
              exact W.vret hx hb hr (fun t ht hW => ⟨⟨τ, rfl, by rw [g_wrW, if_neg h1n, if_neg h3n, if_pos (bI_n0.mp h4)]; exact hF, by rw [ht]; exact hP, va_K.moved hW.alike hK, hD⟩, hS.F ht⟩) hS.2.2 dX1_writeWord_104
            · skip
              exact absurd (by decide) hc
          | succ n ih =>
            intro g τ ls H locs hi hl hP hD hS hF
            refine lv_iload_n hx hb dX1_writeWord_26 rfl (lv_at hl 3 rfl) ?_
            refine lv_bipush (v := 8) hx hb dX1_writeWord_27 (by decide) ?_
            refine lv_icmp_ge (tgt := 104) hx hb dX1_writeWord_29 rfl (fun hc => ?_) (fun hc => ?_)
            · skip
              exact absurd hc (nI_ge (b := 8) (by omega) (by decide))
            · skip
              refine lv_aload_n hx hb dX1_writeWord_32 rfl (lv_at hl 0 rfl) ?_
              refine lv_aload_n hx hb dX1_writeWord_33 rfl (lv_at hl 0 rfl) ?_
              refine lv_iload_n hx hb dX1_writeWord_34 rfl (lv_at hl 1 rfl) ?_
              refine lv_iload_n hx hb dX1_writeWord_35 rfl (lv_at hl 3 rfl) ?_
              refine ck1_pattern hx hb hml hown hB hl.1 hP hK hw (by omega) dX1_writeWord_36 (Nat.le_of_ble_eq_true rfl) (Nat.le_of_ble_eq_true rfl) ⟨Nat.zero_le _, Nat.zero_le _⟩ (Nat.le_of_ble_eq_true rfl) ?_
              refine lv_iload_n hx hb dX1_writeWord_39 rfl (lv_at hl 2 rfl) ?_
              refine lv_iconst (v := 2) hx hb dX1_writeWord_40 (by decide) ?_
              refine lv_iload_n hx hb dX1_writeWord_41 rfl (lv_at hl 3 rfl) ?_
              refine lv_imul hx hb dX1_writeWord_42 ?_
              refine lv_ishr hx hb dX1_writeWord_43 ?_
              refine lv_iconst (v := 3) hx hb dX1_writeWord_44 (by decide) ?_
              refine lv_iand hx hb dX1_writeWord_45 ?_
              refine ck1_better hx hb hml hown hB hl.1 hP hK dX1_writeWord_46 (Nat.le_of_ble_eq_true rfl) (Nat.le_of_ble_eq_true rfl) ⟨Nat.zero_le _, Nat.zero_le _⟩ (Nat.le_of_ble_eq_true rfl) ?_
              refine lv_topi (fun pp epp => ?_)
              refine lv_istore hx hb dX1_writeWord_49 hl (by decide) rfl (fun ls hl => ?_)
              have hl : lv_has ls 6 [(4, .int pp), (0, .ref (B 0)), (1, .int (nI w)), (2, .int v), (3, .int (nI g))] := hl
              refine lv_iconst (v := 0) hx hb dX1_writeWord_51 (by decide) ?_
              refine lv_istore hx hb dX1_writeWord_52 hl (by decide) rfl (fun ls hl => ?_)
              have hl : lv_has ls 6 [(5, .int 0), (4, .int pp), (0, .ref (B 0)), (1, .int (nI w)), (2, .int v), (3, .int (nI g))] := hl
              have hl := lv_sub (l' := [(0, .ref (B 0)), (1, .int (nI w)), (2, .int v), (3, .int (nI g)), (4, .int pp), (5, .int 0)]) hl [2, 3, 4, 5, 1, 0] rfl
              have hF : g_nWW w v n (g + 1) (g_nW pp (24 * w + 3 * g) 3 0 τ) = g_nWW w v 8 0 (g_may μ).2 := by rw [epp]; exact hF
              have inner : ∀ (n2 k : Nat) (τ2 : NS) (ls : Array Slot) (H : Heap) (locs : List Loc), k + n2 = 3 → lv_has ls 6 [(0, .ref (B 0)), (1, .int (nI w)), (2, .int v), (3, .int (nI g)), (4, .int pp), (5, .int (nI k))] → va_P (dC, dI) vwCl (wN B cI cZ τ2) H → va_D AA (wN B cI cZ τ2) → va_S AA s.heap H locs → g_nW pp (24 * w + 3 * g) n2 k τ2 = g_nW pp (24 * w + 3 * g) 3 0 τ → W p l e (headSpec wsX1_writeWord (rk 4)).room s m ([.ref (B 0), .int (nI w), .int v]).toArray below meth c H locs 0 0 (MQ below (va_Qv (fun u => u = g_wrW μ w v) (nB (dC, dI) B cI cZ AA) AA) ([.ref (B 0), .int (nI w), .int v]).toArray s 0 0 AA) (F0 m 54 ls []) := by
                intro n2
                induction n2 with
                | zero =>
                  intro k τ2 ls H locs hi2 hl hP hD hS hF2
                  have hi3 : k = 3 := by omega
                  subst hi3
                  have hF2 : τ2 = g_nW pp (24 * w + 3 * g) 3 0 τ := hF2
                  subst hF2
                  refine lv_iload hx hb dX1_writeWord_54 (lv_at hl 5 rfl) ?_
                  refine lv_iconst (v := 3) hx hb dX1_writeWord_56 (by decide) ?_
                  refine lv_icmp_ge (tgt := 98) hx hb dX1_writeWord_57 rfl (fun hc2 => ?_) (fun hc2 => ?_)
                  · skip
                    refine lv_iinc (k := 3) (v := (nI (g + 1))) hx hb dX1_writeWord_98 hl rfl (nI_1 g) (by decide) rfl (fun ls hl => ?_)
                    have hl : lv_has ls 6 [(3, .int (nI (g + 1))), (0, .ref (B 0)), (1, .int (nI w)), (2, .int v), (4, .int pp), (5, .int (nI 3))] := hl
                    refine lv_goto (tgt := 26) hx hb dX1_writeWord_101 rfl ?_
                    exact ih (g + 1) _ ls H locs (by omega) (lv_sub hl [1, 2, 3, 0] rfl) hP hD hS hF
                  · skip
                    exact absurd (by decide) hc2
                | succ n2 ih2 =>
                  intro k τ2 ls H locs hi2 hl hP hD hS hF2
                  refine lv_iload hx hb dX1_writeWord_54 (lv_at hl 5 rfl) ?_
                  refine lv_iconst (v := 3) hx hb dX1_writeWord_56 (by decide) ?_
                  refine lv_icmp_ge (tgt := 98) hx hb dX1_writeWord_57 rfl (fun hc2 => ?_) (fun hc2 => ?_)
                  · skip
                    exact absurd hc2 (nI_ge (b := 3) (by omega) (by decide))
                  · skip
                    refine lv_aload_n hx hb dX1_writeWord_60 rfl (lv_at hl 0 rfl) ?_
                    refine va_get (D := (dC, dI)) (ci := 1) (v := .ref (B 1)) (C := RX1) (T := TX1) (N := 12) hx hb hB inX1 hown hK hP 0 rfl rfl 1 (by decide) (hB _ mX1_f_wordCells) (fun _ h9 => h9) rfl dX1_writeWord_61 ?_
                    refine lv_bipush (v := 24) hx hb dX1_writeWord_64 (by decide) ?_
                    refine lv_iload_n hx hb dX1_writeWord_66 rfl (lv_at hl 1 rfl) ?_
                    refine lv_imul hx hb dX1_writeWord_67 ?_
                    refine lv_iconst (v := 3) hx hb dX1_writeWord_68 (by decide) ?_
                    refine lv_iload_n hx hb dX1_writeWord_69 rfl (lv_at hl 3 rfl) ?_
                    refine lv_imul hx hb dX1_writeWord_70 ?_
                    refine lv_iadd hx hb dX1_writeWord_71 ?_
                    refine lv_iload hx hb dX1_writeWord_72 (lv_at hl 5 rfl) ?_
                    refine lv_iadd hx hb dX1_writeWord_74 ?_
                    have hidx : (24 * nI w + 3 * nI g) + nI k = nI (24 * w + 3 * g + k) := by rw [← nI_add, ← nI_add, ← pk_mul, ← pk_mul]; rfl
                    rw [hidx]
                    refine lv_iload hx hb dX1_writeWord_75 (lv_at hl 4 rfl) ?_
                    refine lv_iload hx hb dX1_writeWord_77 (lv_at hl 5 rfl) ?_
                    refine lv_ishr hx hb dX1_writeWord_79 ?_
                    refine lv_iconst (v := 1) hx hb dX1_writeWord_80 (by decide) ?_
                    refine lv_iand hx hb dX1_writeWord_81 ?_
                    refine lv_iconst (v := 1) hx hb dX1_writeWord_82 (by decide) ?_
                    refine lv_icmp_ne (tgt := 90) hx hb dX1_writeWord_83 rfl (fun h2 => ?_) (fun h2 => ?_)
                    · skip
                      refine lv_iconst (v := 0) hx hb dX1_writeWord_90 (by decide) ?_
                      refine va_zast (D := (dC, dI)) (i := (nI (24 * w + 3 * g + k))) (x := 0) hx hb hK hP hD hS 1 1 rfl rfl (vp_in_nI (by omega) (by decide)) dX1_writeWord_91 (fun H locs hP hD hS => ?_)
                      rw [show ((nI (24 * w + 3 * g + k))).toNatClampNeg = 24 * w + 3 * g + k from nI_clamp (by omega)] at hP hD
                      have hP : va_P (dC, dI) vwCl (wN B cI cZ (mkN (nTh τ2) (upd (nWc τ2) (24 * w + 3 * g + k) (0)) (nTc τ2) (nLc τ2) (nWr τ2) (nOf τ2) (nUn τ2) (nOp τ2) (nSt τ2) (nKs τ2) (nVs τ2) (nTs τ2))) H := hP
                      have hD : va_D AA (wN B cI cZ (mkN (nTh τ2) (upd (nWc τ2) (24 * w + 3 * g + k) (0)) (nTc τ2) (nLc τ2) (nWr τ2) (nOf τ2) (nUn τ2) (nOp τ2) (nSt τ2) (nKs τ2) (nVs τ2) (nTs τ2))) := hD
                      have hP : va_P (dC, dI) vwCl (wN B cI cZ (wWc τ2 (upd (nWc τ2) (24 * w + 3 * g + k) (g_b1 pp k)))) H := by rw [g_b1, if_neg h2]; exact hP
                      have hD : va_D AA (wN B cI cZ (wWc τ2 (upd (nWc τ2) (24 * w + 3 * g + k) (g_b1 pp k)))) := by rw [g_b1, if_neg h2]; exact hD
                      refine lv_iinc (k := 5) (v := (nI (k + 1))) hx hb dX1_writeWord_92 hl rfl (nI_1 k) (by decide) rfl (fun ls hl => ?_)
                      have hl : lv_has ls 6 [(5, .int (nI (k + 1))), (0, .ref (B 0)), (1, .int (nI w)), (2, .int v), (3, .int (nI g)), (4, .int pp)] := hl
                      refine lv_goto (tgt := 54) hx hb dX1_writeWord_95 rfl ?_
                      exact ih2 (k + 1) _ ls H locs (by omega) (lv_sub hl [1, 2, 3, 4, 5, 0] rfl) hP hD hS hF2
                    · skip
                      refine lv_iconst (v := 1) hx hb dX1_writeWord_86 (by decide) ?_
                      refine lv_goto (tgt := 91) hx hb dX1_writeWord_87 rfl ?_
                      refine va_zast (D := (dC, dI)) (i := (nI (24 * w + 3 * g + k))) (x := 1) hx hb hK hP hD hS 1 1 rfl rfl (vp_in_nI (by omega) (by decide)) dX1_writeWord_91 (fun H locs hP hD hS => ?_)
                      rw [show ((nI (24 * w + 3 * g + k))).toNatClampNeg = 24 * w + 3 * g + k from nI_clamp (by omega)] at hP hD
                      have hP : va_P (dC, dI) vwCl (wN B cI cZ (mkN (nTh τ2) (upd (nWc τ2) (24 * w + 3 * g + k) (1)) (nTc τ2) (nLc τ2) (nWr τ2) (nOf τ2) (nUn τ2) (nOp τ2) (nSt τ2) (nKs τ2) (nVs τ2) (nTs τ2))) H := hP
                      have hD : va_D AA (wN B cI cZ (mkN (nTh τ2) (upd (nWc τ2) (24 * w + 3 * g + k) (1)) (nTc τ2) (nLc τ2) (nWr τ2) (nOf τ2) (nUn τ2) (nOp τ2) (nSt τ2) (nKs τ2) (nVs τ2) (nTs τ2))) := hD
                      have hP : va_P (dC, dI) vwCl (wN B cI cZ (wWc τ2 (upd (nWc τ2) (24 * w + 3 * g + k) (g_b1 pp k)))) H := by rw [g_b1, if_pos h2]; exact hP
                      have hD : va_D AA (wN B cI cZ (wWc τ2 (upd (nWc τ2) (24 * w + 3 * g + k) (g_b1 pp k)))) := by rw [g_b1, if_pos h2]; exact hD
                      refine lv_iinc (k := 5) (v := (nI (k + 1))) hx hb dX1_writeWord_92 hl rfl (nI_1 k) (by decide) rfl (fun ls hl => ?_)
                      have hl : lv_has ls 6 [(5, .int (nI (k + 1))), (0, .ref (B 0)), (1, .int (nI w)), (2, .int v), (3, .int (nI g)), (4, .int pp)] := hl
                      refine lv_goto (tgt := 54) hx hb dX1_writeWord_95 rfl ?_
                      exact ih2 (k + 1) _ ls H locs (by omega) (lv_sub hl [1, 2, 3, 4, 5, 0] rfl) hP hD hS hF2
              exact inner 3 0 τ ls H locs rfl hl hP hD hS rfl
        exact loop 8 0 _ ls H locs rfl hl hP hD hS rfl
      · skip
        exact W.vret hx hb hr (fun t ht hW => ⟨⟨(g_may μ).2, rfl, by rw [g_wrW, if_neg h1n, if_neg h3n, if_neg (by rw [bI_0.mp h4]; decide)], by rw [ht]; exact hP, va_K.moved hW.alike hK, hD⟩, hS.F ht⟩) hS.2.2 dX1_writeWord_23
set_option maxRecDepth 100000 in
theorem ck1_writeWord {p : Program} {l : Launch} {e : Env} {R : Room} {s : State} {m : MethodId} {args : Array Value} {below : List Frame} {meth : Method} {c : Code} {H : Heap} {locs : List Loc} {cells slots : Nat} {Q : State → Prop} {cc : ByteArray} {nL pc : Nat} {ls : Array Slot} {rest : List Value} {A0 : Nat → Prop} {H0 : Heap} {dC : Nat → ClassId} {dI : Nat → Nat → Nat} {B : Nat → Nat} {cI : ClassId} {cZ : ClassId} {μ : NS} {w : Nat} {v : Int32} (hx : p.tables.exec = Jvm.exec) (hb : c.code = cc) (hml : c.maxLocals = nL) (hown : s.vm.findClass RX1 = some m.cls) (hB : ∀ w ∈ bX1, w.before args s = true) (hsz : ls.size = nL) (hP : va_P (dC, dI) vwCl (wN B cI cZ μ) H) (hK : va_K (dC, dI) vwCl [(cI, .int), (cZ, .boolean)] s) (hD : va_D A0 (wN B cI cZ μ)) (hS : va_S A0 H0 H locs) (hA : ∀ q, H0.size ≤ q → A0 q) (hw : w < 160) (hd : decode cc pc = .ok (.invokevirtual 95, 3)) (hF : 5 ≤ R.frames) (hLo : 145 ≤ R.locals) (hc : cells ≤ R.cells ∧ slots ≤ R.slots) (hst : (rest.map fun v => v.category).sum ≤ 8)
    (kk : ∀ (H1 : Heap) (locs1 : List Loc), va_P (dC, dI) vwCl (wN B cI cZ (g_wrW μ w v)) H1 → va_D A0 (wN B cI cZ (g_wrW μ w v)) → va_S A0 H0 H1 locs1 → W p l e R s m args below meth c H1 locs1 cells slots Q (F0 m (pc + 3) ls (rest))) : W p l e R s m args below meth c H locs cells slots Q (F0 m pc ls (.int v :: .int (nI w) :: .ref (B 0) :: rest)) := by
  have hFc := va_free (wc := wN B cI cZ μ) hD hS hA [0, 1, 2, 3, 4, 5, 6] rfl
  refine va_callv (va_runV (C := RX1) (As := [.int (nI w), .int v]) (rest := rest) ⟨hx, hb, hml, hown, hB⟩ (cm1_writeWord l dC dI B cI cZ μ H.size w v hw) (cwV 2 hB goX1_writeWord rfl rfl rfl ⟨rfl, by decide, by decide, by decide +kernel⟩ ⟨hF, hLo⟩) ⟨fun a U g mk q => by obtain ⟨q0, q1, qP, qK, qD⟩ := q; exact ⟨q0, q1, qP, va_K.moved (u := U) (U := U.calling g mk a) (Vm.Alike.refl U.vm) qK, qD⟩, va_recv (q := (RX1, TX1, 12)) hK hP rfl (q0 := 0) rfl, fun U hU hW => ⟨rfl, by rw [hU], by rw [hU]; exact hP, va_K.moved hW.alike hK, hD.weaken (fun _ _ _ _ => trivial)⟩⟩ rfl rfl hsz rfl (lv_room hst) hd hc) hS (fun q _ h => hFc q h) hFc (fun u t H1 locs1 ht hvm hw hBu hz1 hk1 hS1 => ?_)
  have hw : u = g_wrW μ w v := hw
  rw [hw] at hBu
  obtain ⟨hP1, hK1, hD1⟩ := hBu
  rw [ht] at hP1
  exact kk H1 locs1 hP1 (hD1.weaken (fun k q _ h => hFc q.1 h)) hS1
set_option maxHeartbeats 4000000 in
set_option maxRecDepth 100000 in
theorem cm1_writeTag (l : Launch) (dC : Nat → ClassId) (dI : Nat → Nat → Nat) (B : Nat → Nat) (cI : ClassId) (cZ : ClassId) (μ : NS) (sz : Nat) (w : Nat) (key : Int32) (hw : w < 160) : Met l yX1_writeTag wsX1_writeTag (rk 1) (va_Pc [.ref (B 0), .int (nI w), .int key] (nPre (dC, dI) B cI cZ μ sz)) (va_Qv (fun u => u = g_wrT μ w key) (nB (dC, dI) B cI cZ (nX B cI cZ μ sz)) (nX B cI cZ μ sz)) 0 0 (nX B cI cZ μ sz) := by
  refine Met.ofW (cc := cX1_writeTag) (maxL := 4) (ret := none) (by decide) rfl ?_
  intro p e s m args below meth c s₁ Bd hml hv
  obtain ⟨rfl, hsz, hP, hK, hD0⟩ := hv
  have hx := Bd.exec
  have hb := Bd.bytes
  have hr := Bd.returns
  have hB : ∀ w ∈ bX1, w.before _ s = true := fun w h => atoms_spec (ws := wsX1_writeTag) Bd.pre w (List.mem_cons_of_mem _ h)
  have hown : s.vm.findClass RX1 = some m.cls := findClass_of_methodNamed Bd.named
  have hlocks := Bd.notSynchronized
  subst hsz
  have hD : va_D (nX B cI cZ μ s.heap.size) (wN B cI cZ μ) := hD0.self (sz := s.heap.size)
  have hA : ∀ q : Nat, s.heap.size ≤ q → nX B cI cZ μ s.heap.size q := fun q h => Or.inr h
  generalize nX B cI cZ μ s.heap.size = AA at hD hA ⊢
  have hS : va_S AA s.heap s.heap [] := va_S.rf
  have hl := lv_entry ([.ref (B 0), .int (nI w), .int key]) (n := 4) (Nat.le_of_ble_eq_true rfl)
  rw [lg_entry_eq]
  generalize (lg_sl ([.ref (B 0), .int (nI w), .int key]) ++ List.replicate (4 - (lg_sl ([.ref (B 0), .int (nI w), .int key])).length) Slot.unset).toArray = ls at hl ⊢
  have hl : lv_has ls 4 [(0, .ref (B 0)), (1, .int (nI w)), (2, .int key)] := hl
  refine lv_aload_n hx hb dX1_writeTag_0 rfl (lv_at hl 0 rfl) ?_
  refine va_get (D := (dC, dI)) (ci := 1) (v := .int (nOf μ)) (C := RX1) (T := TX1) (N := 12) hx hb hB inX1 hown hK hP 0 rfl rfl 5 (by decide) (hB _ mX1_f_off) (fun _ h9 => h9) rfl dX1_writeTag_1 ?_
  refine lv_if_ne (tgt := 27) hx hb dX1_writeTag_4 rfl (fun h1 => ?_) (fun h1 => ?_)
  · skip
    exact W.vret hx hb hr (fun t ht hW => ⟨⟨μ, rfl, by rw [g_wrT, if_pos h1], by rw [ht]; exact hP, va_K.moved hW.alike hK, hD⟩, hS.F ht⟩) hS.2.2 dX1_writeTag_27
  · skip
    have h1n : ¬ ¬ nOf μ = 0 := fun h => h h1
    refine lv_aload_n hx hb dX1_writeTag_7 rfl (lv_at hl 0 rfl) ?_
    refine lv_iload_n hx hb dX1_writeTag_8 rfl (lv_at hl 1 rfl) ?_
    refine ck1_tag hx hb hml hown hB hl.1 hP hK hw dX1_writeTag_9 (Nat.le_of_ble_eq_true rfl) (Nat.le_of_ble_eq_true rfl) ⟨Nat.zero_le _, Nat.zero_le _⟩ (Nat.le_of_ble_eq_true rfl) ?_
    refine lv_iload_n hx hb dX1_writeTag_12 rfl (lv_at hl 2 rfl) ?_
    refine lv_sipush (v := 128) hx hb dX1_writeTag_13 (by decide) ?_
    refine lv_iadd hx hb dX1_writeTag_16 ?_
    refine lv_icmp_eq (tgt := 27) hx hb dX1_writeTag_17 rfl (fun h3 => ?_) (fun h3 => ?_)
    · skip
      exact W.vret hx hb hr (fun t ht hW => ⟨⟨μ, rfl, by rw [g_wrT, if_neg h1n, if_pos h3], by rw [ht]; exact hP, va_K.moved hW.alike hK, hD⟩, hS.F ht⟩) hS.2.2 dX1_writeTag_27
    · skip
      refine lv_aload_n hx hb dX1_writeTag_20 rfl (lv_at hl 0 rfl) ?_
      refine ck1_mayWrite hx hb hml hown hB hl.1 hP hK hD hS hA  dX1_writeTag_21 (Nat.le_of_ble_eq_true rfl) (Nat.le_of_ble_eq_true rfl) ⟨Nat.zero_le _, Nat.zero_le _⟩ (Nat.le_of_ble_eq_true rfl) (fun H locs hP hD hS => ?_)
      refine lv_if_ne (tgt := 28) hx hb dX1_writeTag_24 rfl (fun h4 => ?_) (fun h4 => ?_)
      · skip
        refine lv_iconst (v := 0) hx hb dX1_writeTag_28 (by decide) ?_
        refine lv_istore_n hx hb dX1_writeTag_29 rfl hl (by decide) rfl (fun ls hl => ?_)
        have hl : lv_has ls 4 [(3, .int 0), (0, .ref (B 0)), (1, .int (nI w)), (2, .int key)] := hl
        have hl := lv_sub (l' := [(0, .ref (B 0)), (1, .int (nI w)), (2, .int key), (3, .int 0)]) hl [1, 2, 3, 0] rfl
        have loop : ∀ (n k : Nat) (τ : NS) (ls : Array Slot) (H : Heap) (locs : List Loc), k + n = 8 → lv_has ls 4 [(0, .ref (B 0)), (1, .int (nI w)), (2, .int key), (3, .int (nI k))] → va_P (dC, dI) vwCl (wN B cI cZ τ) H → va_D AA (wN B cI cZ τ) → va_S AA s.heap H locs → g_nT (key + 128) w n k τ = g_nT (key + 128) w 8 0 (g_may μ).2 → W p l e (headSpec wsX1_writeTag (rk 1)).room s m ([.ref (B 0), .int (nI w), .int key]).toArray below meth c H locs 0 0 (MQ below (va_Qv (fun u => u = g_wrT μ w key) (nB (dC, dI) B cI cZ AA) AA) ([.ref (B 0), .int (nI w), .int key]).toArray s 0 0 AA) (F0 m 30 ls []) := by
          intro n
          induction n with
          | zero =>
            intro k τ ls H locs hi hl hP hD hS hF
            have hi8 : k = 8 := by omega
            subst hi8
            refine lv_iload_n hx hb dX1_writeTag_30 rfl (lv_at hl 3 rfl) ?_
            refine lv_bipush (v := 8) hx hb dX1_writeTag_31 (by decide) ?_
            refine lv_icmp_ge (tgt := 71) hx hb dX1_writeTag_33 rfl (fun hc => ?_) (fun hc => ?_)
            · skip
              exact W.vret hx hb hr (fun t ht hW => ⟨⟨τ, rfl, by rw [g_wrT, if_neg h1n, if_neg h3, if_pos (bI_n0.mp h4)]; exact hF, by rw [ht]; exact hP, va_K.moved hW.alike hK, hD⟩, hS.F ht⟩) hS.2.2 dX1_writeTag_71
            · skip
              exact absurd (by decide) hc
          | succ n ih =>
            intro k τ ls H locs hi hl hP hD hS hF
            refine lv_iload_n hx hb dX1_writeTag_30 rfl (lv_at hl 3 rfl) ?_
            refine lv_bipush (v := 8) hx hb dX1_writeTag_31 (by decide) ?_
            refine lv_icmp_ge (tgt := 71) hx hb dX1_writeTag_33 rfl (fun hc => ?_) (fun hc => ?_)
            · skip
              exact absurd hc (nI_ge (b := 8) (by omega) (by decide))
            · skip
              refine lv_aload_n hx hb dX1_writeTag_36 rfl (lv_at hl 0 rfl) ?_
              refine va_get (D := (dC, dI)) (ci := 1) (v := .ref (B 2)) (C := RX1) (T := TX1) (N := 12) hx hb hB inX1 hown hK hP 0 rfl rfl 2 (by decide) (hB _ mX1_f_tagCells) (fun _ h9 => h9) rfl dX1_writeTag_37 ?_
              refine lv_bipush (v := 8) hx hb dX1_writeTag_40 (by decide) ?_
              refine lv_iload_n hx hb dX1_writeTag_42 rfl (lv_at hl 1 rfl) ?_
              refine lv_imul hx hb dX1_writeTag_43 ?_
              refine lv_iload_n hx hb dX1_writeTag_44 rfl (lv_at hl 3 rfl) ?_
              refine lv_iadd hx hb dX1_writeTag_45 ?_
              have hidx : 8 * nI w + nI k = nI (8 * w + k) := by rw [← nI_add, ← pk_mul]; rfl
              rw [hidx]
              refine lv_iload_n hx hb dX1_writeTag_46 rfl (lv_at hl 2 rfl) ?_
              refine lv_sipush (v := 128) hx hb dX1_writeTag_47 (by decide) ?_
              refine lv_iadd hx hb dX1_writeTag_50 ?_
              refine lv_iload_n hx hb dX1_writeTag_51 rfl (lv_at hl 3 rfl) ?_
              refine lv_ishr hx hb dX1_writeTag_52 ?_
              refine lv_iconst (v := 1) hx hb dX1_writeTag_53 (by decide) ?_
              refine lv_iand hx hb dX1_writeTag_54 ?_
              refine lv_iconst (v := 1) hx hb dX1_writeTag_55 (by decide) ?_
              refine lv_icmp_ne (tgt := 63) hx hb dX1_writeTag_56 rfl (fun h2 => ?_) (fun h2 => ?_)
              · skip
                refine lv_iconst (v := 0) hx hb dX1_writeTag_63 (by decide) ?_
                refine va_zast (D := (dC, dI)) (i := (nI (8 * w + k))) (x := 0) hx hb hK hP hD hS 2 1 rfl rfl (vp_in_nI (by omega) (by decide)) dX1_writeTag_64 (fun H locs hP hD hS => ?_)
                rw [show ((nI (8 * w + k))).toNatClampNeg = 8 * w + k from nI_clamp (by omega)] at hP hD
                have hP : va_P (dC, dI) vwCl (wN B cI cZ (mkN (nTh τ) (nWc τ) (upd (nTc τ) (8 * w + k) (0)) (nLc τ) (nWr τ) (nOf τ) (nUn τ) (nOp τ) (nSt τ) (nKs τ) (nVs τ) (nTs τ))) H := hP
                have hD : va_D AA (wN B cI cZ (mkN (nTh τ) (nWc τ) (upd (nTc τ) (8 * w + k) (0)) (nLc τ) (nWr τ) (nOf τ) (nUn τ) (nOp τ) (nSt τ) (nKs τ) (nVs τ) (nTs τ))) := hD
                have hP : va_P (dC, dI) vwCl (wN B cI cZ (wTc τ (upd (nTc τ) (8 * w + k) (g_b1 (key + 128) k)))) H := by rw [g_b1, if_neg h2]; exact hP
                have hD : va_D AA (wN B cI cZ (wTc τ (upd (nTc τ) (8 * w + k) (g_b1 (key + 128) k)))) := by rw [g_b1, if_neg h2]; exact hD
                refine lv_iinc (k := 3) (v := (nI (k + 1))) hx hb dX1_writeTag_65 hl rfl (nI_1 k) (by decide) rfl (fun ls hl => ?_)
                have hl : lv_has ls 4 [(3, .int (nI (k + 1))), (0, .ref (B 0)), (1, .int (nI w)), (2, .int key)] := hl
                refine lv_goto (tgt := 30) hx hb dX1_writeTag_68 rfl ?_
                exact ih (k + 1) _ ls H locs (by omega) (lv_sub hl [1, 2, 3, 0] rfl) hP hD hS hF
              · skip
                refine lv_iconst (v := 1) hx hb dX1_writeTag_59 (by decide) ?_
                refine lv_goto (tgt := 64) hx hb dX1_writeTag_60 rfl ?_
                refine va_zast (D := (dC, dI)) (i := (nI (8 * w + k))) (x := 1) hx hb hK hP hD hS 2 1 rfl rfl (vp_in_nI (by omega) (by decide)) dX1_writeTag_64 (fun H locs hP hD hS => ?_)
                rw [show ((nI (8 * w + k))).toNatClampNeg = 8 * w + k from nI_clamp (by omega)] at hP hD
                have hP : va_P (dC, dI) vwCl (wN B cI cZ (mkN (nTh τ) (nWc τ) (upd (nTc τ) (8 * w + k) (1)) (nLc τ) (nWr τ) (nOf τ) (nUn τ) (nOp τ) (nSt τ) (nKs τ) (nVs τ) (nTs τ))) H := hP
                have hD : va_D AA (wN B cI cZ (mkN (nTh τ) (nWc τ) (upd (nTc τ) (8 * w + k) (1)) (nLc τ) (nWr τ) (nOf τ) (nUn τ) (nOp τ) (nSt τ) (nKs τ) (nVs τ) (nTs τ))) := hD
                have hP : va_P (dC, dI) vwCl (wN B cI cZ (wTc τ (upd (nTc τ) (8 * w + k) (g_b1 (key + 128) k)))) H := by rw [g_b1, if_pos h2]; exact hP
                have hD : va_D AA (wN B cI cZ (wTc τ (upd (nTc τ) (8 * w + k) (g_b1 (key + 128) k)))) := by rw [g_b1, if_pos h2]; exact hD
                refine lv_iinc (k := 3) (v := (nI (k + 1))) hx hb dX1_writeTag_65 hl rfl (nI_1 k) (by decide) rfl (fun ls hl => ?_)
                have hl : lv_has ls 4 [(3, .int (nI (k + 1))), (0, .ref (B 0)), (1, .int (nI w)), (2, .int key)] := hl
                refine lv_goto (tgt := 30) hx hb dX1_writeTag_68 rfl ?_
                exact ih (k + 1) _ ls H locs (by omega) (lv_sub hl [1, 2, 3, 0] rfl) hP hD hS hF
        exact loop 8 0 _ ls H locs rfl hl hP hD hS rfl
      · skip
        exact W.vret hx hb hr (fun t ht hW => ⟨⟨(g_may μ).2, rfl, by rw [g_wrT, if_neg h1n, if_neg h3, if_neg (by rw [bI_0.mp h4]; decide)], by rw [ht]; exact hP, va_K.moved hW.alike hK, hD⟩, hS.F ht⟩) hS.2.2 dX1_writeTag_27
set_option maxRecDepth 100000 in
theorem ck1_writeTag {p : Program} {l : Launch} {e : Env} {R : Room} {s : State} {m : MethodId} {args : Array Value} {below : List Frame} {meth : Method} {c : Code} {H : Heap} {locs : List Loc} {cells slots : Nat} {Q : State → Prop} {cc : ByteArray} {nL pc : Nat} {ls : Array Slot} {rest : List Value} {A0 : Nat → Prop} {H0 : Heap} {dC : Nat → ClassId} {dI : Nat → Nat → Nat} {B : Nat → Nat} {cI : ClassId} {cZ : ClassId} {μ : NS} {w : Nat} {key : Int32} (hx : p.tables.exec = Jvm.exec) (hb : c.code = cc) (hml : c.maxLocals = nL) (hown : s.vm.findClass RX1 = some m.cls) (hB : ∀ w ∈ bX1, w.before args s = true) (hsz : ls.size = nL) (hP : va_P (dC, dI) vwCl (wN B cI cZ μ) H) (hK : va_K (dC, dI) vwCl [(cI, .int), (cZ, .boolean)] s) (hD : va_D A0 (wN B cI cZ μ)) (hS : va_S A0 H0 H locs) (hA : ∀ q, H0.size ≤ q → A0 q) (hw : w < 160) (hd : decode cc pc = .ok (.invokevirtual 99, 3)) (hF : 2 ≤ R.frames) (hLo : 53 ≤ R.locals) (hc : cells ≤ R.cells ∧ slots ≤ R.slots) (hst : (rest.map fun v => v.category).sum ≤ 8)
    (kk : ∀ (H1 : Heap) (locs1 : List Loc), va_P (dC, dI) vwCl (wN B cI cZ (g_wrT μ w key)) H1 → va_D A0 (wN B cI cZ (g_wrT μ w key)) → va_S A0 H0 H1 locs1 → W p l e R s m args below meth c H1 locs1 cells slots Q (F0 m (pc + 3) ls (rest))) : W p l e R s m args below meth c H locs cells slots Q (F0 m pc ls (.int key :: .int (nI w) :: .ref (B 0) :: rest)) := by
  have hFc := va_free (wc := wN B cI cZ μ) hD hS hA [0, 1, 2, 3, 4, 5, 6] rfl
  refine va_callv (va_runV (C := RX1) (As := [.int (nI w), .int key]) (rest := rest) ⟨hx, hb, hml, hown, hB⟩ (cm1_writeTag l dC dI B cI cZ μ H.size w key hw) (cwV 2 hB goX1_writeTag rfl rfl rfl ⟨rfl, by decide, by decide, by decide +kernel⟩ ⟨hF, hLo⟩) ⟨fun a U g mk q => by obtain ⟨q0, q1, qP, qK, qD⟩ := q; exact ⟨q0, q1, qP, va_K.moved (u := U) (U := U.calling g mk a) (Vm.Alike.refl U.vm) qK, qD⟩, va_recv (q := (RX1, TX1, 12)) hK hP rfl (q0 := 0) rfl, fun U hU hW => ⟨rfl, by rw [hU], by rw [hU]; exact hP, va_K.moved hW.alike hK, hD.weaken (fun _ _ _ _ => trivial)⟩⟩ rfl rfl hsz rfl (lv_room hst) hd hc) hS (fun q _ h => hFc q h) hFc (fun u t H1 locs1 ht hvm hw hBu hz1 hk1 hS1 => ?_)
  have hw : u = g_wrT μ w key := hw
  rw [hw] at hBu
  obtain ⟨hP1, hK1, hD1⟩ := hBu
  rw [ht] at hP1
  exact kk H1 locs1 hP1 (hD1.weaken (fun k q _ h => hFc q.1 h)) hS1
set_option maxHeartbeats 4000000 in
set_option maxRecDepth 100000 in
theorem cm1_writeLine (l : Launch) (dC : Nat → ClassId) (dI : Nat → Nat → Nat) (B : Nat → Nat) (cI : ClassId) (cZ : ClassId) (μ : NS) (sz : Nat) (b : Nat) (v : Int64) (hb360 : b < 360) : Met l yX1_writeLine wsX1_writeLine (rk 1) (va_Pc [.ref (B 0), .int (nI b), .long v] (nPre (dC, dI) B cI cZ μ sz)) (va_Qv (fun u => u = g_wrL μ b v) (nB (dC, dI) B cI cZ (nX B cI cZ μ sz)) (nX B cI cZ μ sz)) 0 0 (nX B cI cZ μ sz) := by
  refine Met.ofW (cc := cX1_writeLine) (maxL := 5) (ret := none) (by decide) rfl ?_
  intro p e s m args below meth c s₁ Bd hml hv
  obtain ⟨rfl, hsz, hP, hK, hD0⟩ := hv
  have hx := Bd.exec
  have hb := Bd.bytes
  have hr := Bd.returns
  have hB : ∀ w ∈ bX1, w.before _ s = true := fun w h => atoms_spec (ws := wsX1_writeLine) Bd.pre w (List.mem_cons_of_mem _ h)
  have hown : s.vm.findClass RX1 = some m.cls := findClass_of_methodNamed Bd.named
  have hlocks := Bd.notSynchronized
  subst hsz
  have hD : va_D (nX B cI cZ μ s.heap.size) (wN B cI cZ μ) := hD0.self (sz := s.heap.size)
  have hA : ∀ q : Nat, s.heap.size ≤ q → nX B cI cZ μ s.heap.size q := fun q h => Or.inr h
  generalize nX B cI cZ μ s.heap.size = AA at hD hA ⊢
  have hS : va_S AA s.heap s.heap [] := va_S.rf
  have hl := lv_entry ([.ref (B 0), .int (nI b), .long v]) (n := 5) (Nat.le_of_ble_eq_true rfl)
  rw [lg_entry_eq]
  generalize (lg_sl ([.ref (B 0), .int (nI b), .long v]) ++ List.replicate (5 - (lg_sl ([.ref (B 0), .int (nI b), .long v])).length) Slot.unset).toArray = ls at hl ⊢
  have hl : lv_has ls 5 [(0, .ref (B 0)), (1, .int (nI b)), (2, .long v)] := hl
  refine lv_aload_n hx hb dX1_writeLine_0 rfl (lv_at hl 0 rfl) ?_
  refine va_get (D := (dC, dI)) (ci := 1) (v := .int (nOf μ)) (C := RX1) (T := TX1) (N := 12) hx hb hB inX1 hown hK hP 0 rfl rfl 5 (by decide) (hB _ mX1_f_off) (fun _ h9 => h9) rfl dX1_writeLine_1 ?_
  refine lv_if_ne (tgt := 14) hx hb dX1_writeLine_4 rfl (fun h1 => ?_) (fun h1 => ?_)
  · skip
    exact W.vret hx hb hr (fun t ht hW => ⟨⟨μ, rfl, by rw [g_wrL, if_pos h1], by rw [ht]; exact hP, va_K.moved hW.alike hK, hD⟩, hS.F ht⟩) hS.2.2 dX1_writeLine_14
  · skip
    have h1n : ¬ ¬ nOf μ = 0 := fun h => h h1
    refine lv_aload_n hx hb dX1_writeLine_7 rfl (lv_at hl 0 rfl) ?_
    refine ck1_mayWrite hx hb hml hown hB hl.1 hP hK hD hS hA  dX1_writeLine_8 (Nat.le_of_ble_eq_true rfl) (Nat.le_of_ble_eq_true rfl) ⟨Nat.zero_le _, Nat.zero_le _⟩ (Nat.le_of_ble_eq_true rfl) (fun H locs hP hD hS => ?_)
    refine lv_if_ne (tgt := 15) hx hb dX1_writeLine_11 rfl (fun h4 => ?_) (fun h4 => ?_)
    · skip
      refine lv_iconst (v := 0) hx hb dX1_writeLine_15 (by decide) ?_
      refine lv_istore hx hb dX1_writeLine_16 hl (by decide) rfl (fun ls hl => ?_)
      have hl : lv_has ls 5 [(4, .int 0), (0, .ref (B 0)), (1, .int (nI b)), (2, .long v)] := hl
      have hl := lv_sub (l' := [(0, .ref (B 0)), (1, .int (nI b)), (2, .long v), (4, .int 0)]) hl [1, 2, 3, 0] rfl
      have loop : ∀ (n k : Nat) (τ : NS) (ls : Array Slot) (H : Heap) (locs : List Loc), k + n = 32 → lv_has ls 5 [(0, .ref (B 0)), (1, .int (nI b)), (2, .long v), (4, .int (nI k))] → va_P (dC, dI) vwCl (wN B cI cZ τ) H → va_D AA (wN B cI cZ τ) → va_S AA s.heap H locs → g_nL v b n k τ = g_nL v b 32 0 (g_may μ).2 → W p l e (headSpec wsX1_writeLine (rk 1)).room s m ([.ref (B 0), .int (nI b), .long v]).toArray below meth c H locs 0 0 (MQ below (va_Qv (fun u => u = g_wrL μ b v) (nB (dC, dI) B cI cZ AA) AA) ([.ref (B 0), .int (nI b), .long v]).toArray s 0 0 AA) (F0 m 18 ls []) := by
        intro n
        induction n with
        | zero =>
          intro k τ ls H locs hi hl hP hD hS hF
          have hi8 : k = 32 := by omega
          subst hi8
          refine lv_iload hx hb dX1_writeLine_18 (lv_at hl 3 rfl) ?_
          refine lv_bipush (v := 32) hx hb dX1_writeLine_20 (by decide) ?_
          refine lv_icmp_ge (tgt := 59) hx hb dX1_writeLine_22 rfl (fun hc => ?_) (fun hc => ?_)
          · skip
            exact W.vret hx hb hr (fun t ht hW => ⟨⟨τ, rfl, by rw [g_wrL, if_neg h1n, if_pos (bI_n0.mp h4)]; exact hF, by rw [ht]; exact hP, va_K.moved hW.alike hK, hD⟩, hS.F ht⟩) hS.2.2 dX1_writeLine_59
          · skip
            exact absurd (by decide) hc
        | succ n ih =>
          intro k τ ls H locs hi hl hP hD hS hF
          refine lv_iload hx hb dX1_writeLine_18 (lv_at hl 3 rfl) ?_
          refine lv_bipush (v := 32) hx hb dX1_writeLine_20 (by decide) ?_
          refine lv_icmp_ge (tgt := 59) hx hb dX1_writeLine_22 rfl (fun hc => ?_) (fun hc => ?_)
          · skip
            exact absurd hc (nI_ge (b := 32) (by omega) (by decide))
          · skip
            refine lv_aload_n hx hb dX1_writeLine_25 rfl (lv_at hl 0 rfl) ?_
            refine va_get (D := (dC, dI)) (ci := 1) (v := .ref (B 3)) (C := RX1) (T := TX1) (N := 12) hx hb hB inX1 hown hK hP 0 rfl rfl 3 (by decide) (hB _ mX1_f_lineCells) (fun _ h9 => h9) rfl dX1_writeLine_26 ?_
            refine lv_bipush (v := 32) hx hb dX1_writeLine_29 (by decide) ?_
            refine lv_iload_n hx hb dX1_writeLine_31 rfl (lv_at hl 1 rfl) ?_
            refine lv_imul hx hb dX1_writeLine_32 ?_
            refine lv_iload hx hb dX1_writeLine_33 (lv_at hl 3 rfl) ?_
            refine lv_iadd hx hb dX1_writeLine_35 ?_
            have hidx : 32 * nI b + nI k = nI (32 * b + k) := by rw [← nI_add, ← pk_mul]; rfl
            rw [hidx]
            refine lv_lload_n hx hb dX1_writeLine_36 rfl (lv_at hl 2 rfl) ?_
            refine lv_iload hx hb dX1_writeLine_37 (lv_at hl 3 rfl) ?_
            refine lv_lshr (v := (v >>> (((nI k)).toInt64 &&& 63))) hx hb dX1_writeLine_39 rfl ?_
            refine lv_lconst (v := 1) hx hb dX1_writeLine_40 (by decide) ?_
            refine lv_land hx hb dX1_writeLine_41 ?_
            refine lv_lconst (v := 1) hx hb dX1_writeLine_42 (by decide) ?_
            refine W.lcmp hx hb dX1_writeLine_43 ?_
            refine lv_if_ne (tgt := 51) hx hb dX1_writeLine_44 rfl (fun h2 => ?_) (fun h2 => ?_)
            · skip
              refine lv_iconst (v := 0) hx hb dX1_writeLine_51 (by decide) ?_
              refine va_zast (D := (dC, dI)) (i := (nI (32 * b + k))) (x := 0) hx hb hK hP hD hS 3 1 rfl rfl (vp_in_nI (by omega) (by decide)) dX1_writeLine_52 (fun H locs hP hD hS => ?_)
              rw [show ((nI (32 * b + k))).toNatClampNeg = 32 * b + k from nI_clamp (by omega)] at hP hD
              have hP : va_P (dC, dI) vwCl (wN B cI cZ (mkN (nTh τ) (nWc τ) (nTc τ) (upd (nLc τ) (32 * b + k) (0)) (nWr τ) (nOf τ) (nUn τ) (nOp τ) (nSt τ) (nKs τ) (nVs τ) (nTs τ))) H := hP
              have hD : va_D AA (wN B cI cZ (mkN (nTh τ) (nWc τ) (nTc τ) (upd (nLc τ) (32 * b + k) (0)) (nWr τ) (nOf τ) (nUn τ) (nOp τ) (nSt τ) (nKs τ) (nVs τ) (nTs τ))) := hD
              have hP : va_P (dC, dI) vwCl (wN B cI cZ (wLc τ (upd (nLc τ) (32 * b + k) (g_lb1 v k)))) H := by rw [g_lb1, if_neg (fun h => h2 ((lg_cmp_eq _ _).mpr h))]; exact hP
              have hD : va_D AA (wN B cI cZ (wLc τ (upd (nLc τ) (32 * b + k) (g_lb1 v k)))) := by rw [g_lb1, if_neg (fun h => h2 ((lg_cmp_eq _ _).mpr h))]; exact hD
              refine lv_iinc (k := 3) (v := (nI (k + 1))) hx hb dX1_writeLine_53 hl rfl (nI_1 k) (by decide) rfl (fun ls hl => ?_)
              have hl : lv_has ls 5 [(4, .int (nI (k + 1))), (0, .ref (B 0)), (1, .int (nI b)), (2, .long v)] := hl
              refine lv_goto (tgt := 18) hx hb dX1_writeLine_56 rfl ?_
              exact ih (k + 1) _ ls H locs (by omega) (lv_sub hl [1, 2, 3, 0] rfl) hP hD hS hF
            · skip
              refine lv_iconst (v := 1) hx hb dX1_writeLine_47 (by decide) ?_
              refine lv_goto (tgt := 52) hx hb dX1_writeLine_48 rfl ?_
              refine va_zast (D := (dC, dI)) (i := (nI (32 * b + k))) (x := 1) hx hb hK hP hD hS 3 1 rfl rfl (vp_in_nI (by omega) (by decide)) dX1_writeLine_52 (fun H locs hP hD hS => ?_)
              rw [show ((nI (32 * b + k))).toNatClampNeg = 32 * b + k from nI_clamp (by omega)] at hP hD
              have hP : va_P (dC, dI) vwCl (wN B cI cZ (mkN (nTh τ) (nWc τ) (nTc τ) (upd (nLc τ) (32 * b + k) (1)) (nWr τ) (nOf τ) (nUn τ) (nOp τ) (nSt τ) (nKs τ) (nVs τ) (nTs τ))) H := hP
              have hD : va_D AA (wN B cI cZ (mkN (nTh τ) (nWc τ) (nTc τ) (upd (nLc τ) (32 * b + k) (1)) (nWr τ) (nOf τ) (nUn τ) (nOp τ) (nSt τ) (nKs τ) (nVs τ) (nTs τ))) := hD
              have hP : va_P (dC, dI) vwCl (wN B cI cZ (wLc τ (upd (nLc τ) (32 * b + k) (g_lb1 v k)))) H := by rw [g_lb1, if_pos ((lg_cmp_eq _ _).mp h2)]; exact hP
              have hD : va_D AA (wN B cI cZ (wLc τ (upd (nLc τ) (32 * b + k) (g_lb1 v k)))) := by rw [g_lb1, if_pos ((lg_cmp_eq _ _).mp h2)]; exact hD
              refine lv_iinc (k := 3) (v := (nI (k + 1))) hx hb dX1_writeLine_53 hl rfl (nI_1 k) (by decide) rfl (fun ls hl => ?_)
              have hl : lv_has ls 5 [(4, .int (nI (k + 1))), (0, .ref (B 0)), (1, .int (nI b)), (2, .long v)] := hl
              refine lv_goto (tgt := 18) hx hb dX1_writeLine_56 rfl ?_
              exact ih (k + 1) _ ls H locs (by omega) (lv_sub hl [1, 2, 3, 0] rfl) hP hD hS hF
      exact loop 32 0 _ ls H locs rfl hl hP hD hS rfl
    · skip
      exact W.vret hx hb hr (fun t ht hW => ⟨⟨(g_may μ).2, rfl, by rw [g_wrL, if_neg h1n, if_neg (by rw [bI_0.mp h4]; decide)], by rw [ht]; exact hP, va_K.moved hW.alike hK, hD⟩, hS.F ht⟩) hS.2.2 dX1_writeLine_14
set_option maxRecDepth 100000 in
theorem ck1_writeLine {p : Program} {l : Launch} {e : Env} {R : Room} {s : State} {m : MethodId} {args : Array Value} {below : List Frame} {meth : Method} {c : Code} {H : Heap} {locs : List Loc} {cells slots : Nat} {Q : State → Prop} {cc : ByteArray} {nL pc : Nat} {ls : Array Slot} {rest : List Value} {A0 : Nat → Prop} {H0 : Heap} {dC : Nat → ClassId} {dI : Nat → Nat → Nat} {B : Nat → Nat} {cI : ClassId} {cZ : ClassId} {μ : NS} {b : Nat} {v : Int64} (hx : p.tables.exec = Jvm.exec) (hb : c.code = cc) (hml : c.maxLocals = nL) (hown : s.vm.findClass RX1 = some m.cls) (hB : ∀ w ∈ bX1, w.before args s = true) (hsz : ls.size = nL) (hP : va_P (dC, dI) vwCl (wN B cI cZ μ) H) (hK : va_K (dC, dI) vwCl [(cI, .int), (cZ, .boolean)] s) (hD : va_D A0 (wN B cI cZ μ)) (hS : va_S A0 H0 H locs) (hA : ∀ q, H0.size ≤ q → A0 q) (hb360 : b < 360) (hd : decode cc pc = .ok (.invokevirtual 141, 3)) (hF : 2 ≤ R.frames) (hLo : 54 ≤ R.locals) (hc : cells ≤ R.cells ∧ slots ≤ R.slots) (hst : (rest.map fun v => v.category).sum ≤ 8)
    (kk : ∀ (H1 : Heap) (locs1 : List Loc), va_P (dC, dI) vwCl (wN B cI cZ (g_wrL μ b v)) H1 → va_D A0 (wN B cI cZ (g_wrL μ b v)) → va_S A0 H0 H1 locs1 → W p l e R s m args below meth c H1 locs1 cells slots Q (F0 m (pc + 3) ls (rest))) : W p l e R s m args below meth c H locs cells slots Q (F0 m pc ls (.long v :: .int (nI b) :: .ref (B 0) :: rest)) := by
  have hFc := va_free (wc := wN B cI cZ μ) hD hS hA [0, 1, 2, 3, 4, 5, 6] rfl
  refine va_callv (va_runV (C := RX1) (As := [.int (nI b), .long v]) (rest := rest) ⟨hx, hb, hml, hown, hB⟩ (cm1_writeLine l dC dI B cI cZ μ H.size b v hb360) (cwV 2 hB goX1_writeLine rfl rfl rfl ⟨rfl, by decide, by decide, by decide +kernel⟩ ⟨hF, hLo⟩) ⟨fun a U g mk q => by obtain ⟨q0, q1, qP, qK, qD⟩ := q; exact ⟨q0, q1, qP, va_K.moved (u := U) (U := U.calling g mk a) (Vm.Alike.refl U.vm) qK, qD⟩, va_recv (q := (RX1, TX1, 12)) hK hP rfl (q0 := 0) rfl, fun U hU hW => ⟨rfl, by rw [hU], by rw [hU]; exact hP, va_K.moved hW.alike hK, hD.weaken (fun _ _ _ _ => trivial)⟩⟩ rfl rfl hsz rfl (lv_room hst) hd hc) hS (fun q _ h => hFc q h) hFc (fun u t H1 locs1 ht hvm hw hBu hz1 hk1 hS1 => ?_)
  have hw : u = g_wrL μ b v := hw
  rw [hw] at hBu
  obtain ⟨hP1, hK1, hD1⟩ := hBu
  rw [ht] at hP1
  exact kk H1 locs1 hP1 (hD1.weaken (fun k q _ h => hFc q.1 h)) hS1
set_option maxHeartbeats 4000000 in
set_option maxRecDepth 100000 in
theorem cm1_perform (l : Launch) (dC : Nat → ClassId) (dI : Nat → Nat → Nat) (B : Nat → Nat) (cI : ClassId) (cZ : ClassId) (μ : NS) (sz : Nat) (w : Nat) (key : Int32) (v : Int32) (hw : w < 160) : Met l yX1_perform wsX1_perform (rk 5) (va_Pc [.ref (B 0), .int (nI w), .int key, .int v] (nPre (dC, dI) B cI cZ μ sz)) (va_Qv (fun u => u = g_perf μ w key v) (nB (dC, dI) B cI cZ (nX B cI cZ μ sz)) (nX B cI cZ μ sz)) 0 0 (nX B cI cZ μ sz) := by
  refine Met.ofW (cc := cX1_perform) (maxL := 4) (ret := none) (by decide) rfl ?_
  intro p e s m args below meth c s₁ Bd hml hv
  obtain ⟨rfl, hsz, hP, hK, hD0⟩ := hv
  have hx := Bd.exec
  have hb := Bd.bytes
  have hr := Bd.returns
  have hB : ∀ w ∈ bX1, w.before _ s = true := fun w h => atoms_spec (ws := wsX1_perform) Bd.pre w (List.mem_cons_of_mem _ h)
  have hown : s.vm.findClass RX1 = some m.cls := findClass_of_methodNamed Bd.named
  have hlocks := Bd.notSynchronized
  subst hsz
  have hD : va_D (nX B cI cZ μ s.heap.size) (wN B cI cZ μ) := hD0.self (sz := s.heap.size)
  have hA : ∀ q : Nat, s.heap.size ≤ q → nX B cI cZ μ s.heap.size q := fun q h => Or.inr h
  generalize nX B cI cZ μ s.heap.size = AA at hD hA ⊢
  have hS : va_S AA s.heap s.heap [] := va_S.rf
  have hl := lv_entry ([.ref (B 0), .int (nI w), .int key, .int v]) (n := 4) (Nat.le_of_ble_eq_true rfl)
  rw [lg_entry_eq]
  generalize (lg_sl ([.ref (B 0), .int (nI w), .int key, .int v]) ++ List.replicate (4 - (lg_sl ([.ref (B 0), .int (nI w), .int key, .int v])).length) Slot.unset).toArray = ls at hl ⊢
  have hl : lv_has ls 4 [(0, .ref (B 0)), (1, .int (nI w)), (2, .int key), (3, .int v)] := hl
  refine lv_aload_n hx hb dX1_perform_0 rfl (lv_at hl 0 rfl) ?_
  refine lv_iload_n hx hb dX1_perform_1 rfl (lv_at hl 1 rfl) ?_
  refine lv_iload_n hx hb dX1_perform_2 rfl (lv_at hl 3 rfl) ?_
  refine ck1_writeWord hx hb hml hown hB hl.1 hP hK hD hS hA hw dX1_perform_3 (Nat.le_of_ble_eq_true rfl) (Nat.le_of_ble_eq_true rfl) ⟨Nat.zero_le _, Nat.zero_le _⟩ (Nat.le_of_ble_eq_true rfl) (fun H locs hP hD hS => ?_)
  refine lv_aload_n hx hb dX1_perform_6 rfl (lv_at hl 0 rfl) ?_
  refine lv_iload_n hx hb dX1_perform_7 rfl (lv_at hl 1 rfl) ?_
  refine lv_iload_n hx hb dX1_perform_8 rfl (lv_at hl 2 rfl) ?_
  refine ck1_writeTag hx hb hml hown hB hl.1 hP hK hD hS hA hw dX1_perform_9 (Nat.le_of_ble_eq_true rfl) (Nat.le_of_ble_eq_true rfl) ⟨Nat.zero_le _, Nat.zero_le _⟩ (Nat.le_of_ble_eq_true rfl) (fun H locs hP hD hS => ?_)
  exact W.vret hx hb hr (fun t ht hW => ⟨⟨g_perf μ w key v, rfl, rfl, by rw [ht]; exact hP, va_K.moved hW.alike hK, hD⟩, hS.F ht⟩) hS.2.2 dX1_perform_12
set_option maxRecDepth 100000 in
theorem ck1_perform {p : Program} {l : Launch} {e : Env} {R : Room} {s : State} {m : MethodId} {args : Array Value} {below : List Frame} {meth : Method} {c : Code} {H : Heap} {locs : List Loc} {cells slots : Nat} {Q : State → Prop} {cc : ByteArray} {nL pc : Nat} {ls : Array Slot} {rest : List Value} {A0 : Nat → Prop} {H0 : Heap} {dC : Nat → ClassId} {dI : Nat → Nat → Nat} {B : Nat → Nat} {cI : ClassId} {cZ : ClassId} {μ : NS} {w : Nat} {key : Int32} {v : Int32} (hx : p.tables.exec = Jvm.exec) (hb : c.code = cc) (hml : c.maxLocals = nL) (hown : s.vm.findClass RX1 = some m.cls) (hB : ∀ w ∈ bX1, w.before args s = true) (hsz : ls.size = nL) (hP : va_P (dC, dI) vwCl (wN B cI cZ μ) H) (hK : va_K (dC, dI) vwCl [(cI, .int), (cZ, .boolean)] s) (hD : va_D A0 (wN B cI cZ μ)) (hS : va_S A0 H0 H locs) (hA : ∀ q, H0.size ≤ q → A0 q) (hw : w < 160) (hd : decode cc pc = .ok (.invokevirtual 115, 3)) (hF : 6 ≤ R.frames) (hLo : 173 ≤ R.locals) (hc : cells ≤ R.cells ∧ slots ≤ R.slots) (hst : (rest.map fun v => v.category).sum ≤ 8)
    (kk : ∀ (H1 : Heap) (locs1 : List Loc), va_P (dC, dI) vwCl (wN B cI cZ (g_perf μ w key v)) H1 → va_D A0 (wN B cI cZ (g_perf μ w key v)) → va_S A0 H0 H1 locs1 → W p l e R s m args below meth c H1 locs1 cells slots Q (F0 m (pc + 3) ls (rest))) : W p l e R s m args below meth c H locs cells slots Q (F0 m pc ls (.int v :: .int key :: .int (nI w) :: .ref (B 0) :: rest)) := by
  have hFc := va_free (wc := wN B cI cZ μ) hD hS hA [0, 1, 2, 3, 4, 5, 6] rfl
  refine va_callv (va_runV (C := RX1) (As := [.int (nI w), .int key, .int v]) (rest := rest) ⟨hx, hb, hml, hown, hB⟩ (cm1_perform l dC dI B cI cZ μ H.size w key v hw) (cwV 3 hB goX1_perform rfl rfl rfl ⟨rfl, by decide, by decide, by decide +kernel⟩ ⟨hF, hLo⟩) ⟨fun a U g mk q => by obtain ⟨q0, q1, qP, qK, qD⟩ := q; exact ⟨q0, q1, qP, va_K.moved (u := U) (U := U.calling g mk a) (Vm.Alike.refl U.vm) qK, qD⟩, va_recv (q := (RX1, TX1, 12)) hK hP rfl (q0 := 0) rfl, fun U hU hW => ⟨rfl, by rw [hU], by rw [hU]; exact hP, va_K.moved hW.alike hK, hD.weaken (fun _ _ _ _ => trivial)⟩⟩ rfl rfl hsz rfl (lv_room hst) hd hc) hS (fun q _ h => hFc q h) hFc (fun u t H1 locs1 ht hvm hw hBu hz1 hk1 hS1 => ?_)
  have hw : u = g_perf μ w key v := hw
  rw [hw] at hBu
  obtain ⟨hP1, hK1, hD1⟩ := hBu
  rw [ht] at hP1
  exact kk H1 locs1 hP1 (hD1.weaken (fun k q _ h => hFc q.1 h)) hS1
