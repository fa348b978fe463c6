set_option maxHeartbeats 4000000 in
set_option maxRecDepth 100000 in
theorem cm0_closeBatch (l : Launch) (dC : Nat → ClassId) (dI : Nat → Nat → Nat) (A : Nat → Nat) (cI : ClassId) (σ : OS) (sz : Nat) : Met l yX0_closeBatch wsX0_closeBatch (rk 0) (va_Pc [.ref (A 0)] (oPre (dC, dI) A cI σ sz)) (va_Qv (fun u => u = f_close σ) (oB (dC, dI) A cI (oX A cI σ sz)) (oX A cI σ sz)) 0 0 (oX A cI σ sz) := by
  refine Met.ofW (cc := cX0_closeBatch) (maxL := 1) (ret := none) (by decide) rfl ?_
  intro p e s m args below meth c s₁ B hml hv
  obtain ⟨rfl, hsz, hP, hK, hD0⟩ := hv
  have hx := B.exec
  have hb := B.bytes
  have hr := B.returns
  have hB : ∀ w ∈ bX0, w.before _ s = true := fun w h => atoms_spec (ws := wsX0_closeBatch) B.pre w (List.mem_cons_of_mem _ h)
  have hown : s.vm.findClass RX0 = some m.cls := findClass_of_methodNamed B.named
  have hlocks := B.notSynchronized
  subst hsz
  have hD : va_D (oX A cI σ s.heap.size) (wO A cI σ) := hD0.self (sz := s.heap.size)
  have hA : ∀ q : Nat, s.heap.size ≤ q → oX A cI σ s.heap.size q := fun q h => Or.inr h
  generalize oX A cI σ s.heap.size = AA at hD hA ⊢
  have hS : va_S AA s.heap s.heap [] := va_S.rf
  have hl := lv_entry ([.ref (A 0)]) (n := 1) (Nat.le_of_ble_eq_true rfl)
  rw [lg_entry_eq]
  generalize (lg_sl ([.ref (A 0)]) ++ List.replicate (1 - (lg_sl ([.ref (A 0)])).length) Slot.unset).toArray = ls at hl ⊢
  have hl : lv_has ls 1 [(0, .ref (A 0))] := hl
  refine lv_aload_n hx hb dX0_closeBatch_0 rfl (lv_at hl 0 rfl) ?_
  refine lv_iconst (v := 0) hx hb dX0_closeBatch_1 (by decide) ?_
  refine va_put (D := (dC, dI)) (ci := 0) (v := .int 0) (ty := .boolean) (C := RX0) (T := TX0) (N := 12) hx hb hB inX0 tyX0 tyX0_ok nmX0 hown hK hP hD hS 0 rfl rfl 10 (by decide) (hB _ mX0_f_batchOpen) (fun _ h9 => h9) rfl (by decide +kernel) rfl rfl (Nat.le_of_ble_eq_true rfl) dX0_closeBatch_2 (fun H locs hP hD hS => ?_)
  have hP : va_P (dC, dI) vwCl (wO A cI (mkO (oW σ) (oT σ) (oL σ) (oSet σ) (oWr σ) (oOn σ) (oUn σ) (oK σ) (oV σ) (oP σ) (0) (oBs σ))) H := hP
  have hD : va_D AA (wO A cI (mkO (oW σ) (oT σ) (oL σ) (oSet σ) (oWr σ) (oOn σ) (oUn σ) (oK σ) (oV σ) (oP σ) (0) (oBs σ))) := hD
  refine lv_aload_n hx hb dX0_closeBatch_5 rfl (lv_at hl 0 rfl) ?_
  refine lv_iconst (v := 0) hx hb dX0_closeBatch_6 (by decide) ?_
  refine va_put (D := (dC, dI)) (ci := 0) (v := .int 0) (ty := .int) (C := RX0) (T := TX0) (N := 12) hx hb hB inX0 tyX0 tyX0_ok nmX0 hown hK hP hD hS 0 rfl rfl 11 (by decide) (hB _ mX0_f_batchSize) (fun _ h9 => h9) rfl (by decide +kernel) rfl rfl (Nat.le_of_ble_eq_true rfl) dX0_closeBatch_7 (fun H locs hP hD hS => ?_)
  have hP : va_P (dC, dI) vwCl (wO A cI (mkO (oW σ) (oT σ) (oL σ) (oSet σ) (oWr σ) (oOn σ) (oUn σ) (oK σ) (oV σ) (oP σ) (0) (0))) H := hP
  have hD : va_D AA (wO A cI (mkO (oW σ) (oT σ) (oL σ) (oSet σ) (oWr σ) (oOn σ) (oUn σ) (oK σ) (oV σ) (oP σ) (0) (0))) := hD
  exact W.vret hx hb hr (fun t ht hW => ⟨⟨mkO (oW σ) (oT σ) (oL σ) (oSet σ) (oWr σ) (oOn σ) (oUn σ) (oK σ) (oV σ) (oP σ) (0) (0), rfl, rfl, by rw [ht]; exact hP, va_K.moved hW.alike hK, hD⟩, hS.F ht⟩) hS.2.2 dX0_closeBatch_10
set_option maxRecDepth 100000 in
theorem ck0_closeBatch {p : Program} {l : Launch} {e : Env} {R : Room} {s : State} {m : MethodId} {args : Array Value} {below : List Frame} {meth : Method} {c : Code} {H : Heap} {locs : List Loc} {cells slots : Nat} {Q : State → Prop} {cc : ByteArray} {nL pc : Nat} {ls : Array Slot} {rest : List Value} {A0 : Nat → Prop} {H0 : Heap} {dC : Nat → ClassId} {dI : Nat → Nat → Nat} {A : Nat → Nat} {cI : ClassId} {σ : OS} (hx : p.tables.exec = Jvm.exec) (hb : c.code = cc) (hml : c.maxLocals = nL) (hown : s.vm.findClass RX0 = some m.cls) (hB : ∀ w ∈ bX0, w.before args s = true) (hsz : ls.size = nL) (hP : va_P (dC, dI) vwCl (wO A cI σ) H) (hK : va_K (dC, dI) vwCl [(cI, .int)] s) (hD : va_D A0 (wO A cI σ)) (hS : va_S A0 H0 H locs) (hA : ∀ q, H0.size ≤ q → A0 q)  (hd : decode cc pc = .ok (.invokevirtual 83, 3)) (hF : 1 ≤ R.frames) (hLo : 20 ≤ R.locals) (hc : cells ≤ R.cells ∧ slots ≤ R.slots) (hst : (rest.map fun v => v.category).sum ≤ 8)
    (kk : ∀ (H1 : Heap) (locs1 : List Loc), va_P (dC, dI) vwCl (wO A cI (f_close σ)) H1 → va_D A0 (wO A cI (f_close σ)) → va_S A0 H0 H1 locs1 → W p l e R s m args below meth c H1 locs1 cells slots Q (F0 m (pc + 3) ls (rest))) : W p l e R s m args below meth c H locs cells slots Q (F0 m pc ls (.ref (A 0) :: rest)) := by
  have hFc := va_free (wc := wO A cI σ) hD hS hA [0, 1, 2, 3, 4, 5, 6] rfl
  refine va_callv (va_runV (C := RX0) (As := []) (rest := rest) ⟨hx, hb, hml, hown, hB⟩ (cm0_closeBatch l dC dI A cI σ H.size ) (cwV 0 hB goX0_closeBatch rfl rfl rfl ⟨rfl, by decide, by decide, by decide +kernel⟩ ⟨hF, hLo⟩) ⟨fun a U g mk q => by obtain ⟨q0, q1, qP, qK, qD⟩ := q; exact ⟨q0, q1, qP, va_K.moved (u := U) (U := U.calling g mk a) (Vm.Alike.refl U.vm) qK, qD⟩, va_recv (q := (RX0, TX0, 12)) hK hP rfl (q0 := 0) rfl, fun U hU hW => ⟨rfl, by rw [hU], by rw [hU]; exact hP, va_K.moved hW.alike hK, hD.weaken (fun _ _ _ _ => trivial)⟩⟩ rfl rfl hsz rfl (lv_room hst) hd hc) hS (fun q _ h => hFc q h) hFc (fun u t H1 locs1 ht hvm hw hBu hz1 hk1 hS1 => ?_)
  obtain rfl := hw
  obtain ⟨hP1, hK1, hD1⟩ := hBu
  rw [ht] at hP1
  exact kk H1 locs1 hP1 (hD1.weaken (fun k q _ h => hFc q.1 h)) hS1
set_option maxHeartbeats 4000000 in
set_option maxRecDepth 100000 in
theorem cm0_write1 (l : Launch) (dC : Nat → ClassId) (dI : Nat → Nat → Nat) (A : Nat → Nat) (cI : ClassId) (σ : OS) (sz : Nat) (i : Nat) (x : Int32) (hi : i < 160) : Met l yX0_write wsX0_write (rk 1) (va_Pc [.ref (A 0), .ref (A 1), .int (nI i), .int x] (oPre (dC, dI) A cI σ sz)) (va_Qi (fun r u => r = bI (f_ok σ (f_add (oW σ i) x)) ∧ u = f_wr1 σ i x) (oB (dC, dI) A cI (oX A cI σ sz)) (oX A cI σ sz)) 0 0 (oX A cI σ sz) := by
  refine Met.ofW (cc := cX0_write) (maxL := 5) (ret := (some .boolean)) (by decide) rfl ?_
  intro p e s m args below meth c s₁ B hml hv
  obtain ⟨rfl, hsz, hP, hK, hD0⟩ := hv
  have hx := B.exec
  have hb := B.bytes
  have hr := B.returns
  have hB : ∀ w ∈ bX0, w.before _ s = true := fun w h => atoms_spec (ws := wsX0_write) B.pre w (List.mem_cons_of_mem _ h)
  have hown : s.vm.findClass RX0 = some m.cls := findClass_of_methodNamed B.named
  have hlocks := B.notSynchronized
  subst hsz
  have hD : va_D (oX A cI σ s.heap.size) (wO A cI σ) := hD0.self (sz := s.heap.size)
  have hA : ∀ q : Nat, s.heap.size ≤ q → oX A cI σ s.heap.size q := fun q h => Or.inr h
  generalize oX A cI σ s.heap.size = AA at hD hA ⊢
  have hS : va_S AA s.heap s.heap [] := va_S.rf
  have hl := lv_entry ([.ref (A 0), .ref (A 1), .int (nI i), .int x]) (n := 5) (Nat.le_of_ble_eq_true rfl)
  rw [lg_entry_eq]
  generalize (lg_sl ([.ref (A 0), .ref (A 1), .int (nI i), .int x]) ++ List.replicate (5 - (lg_sl ([.ref (A 0), .ref (A 1), .int (nI i), .int x])).length) Slot.unset).toArray = ls at hl ⊢
  have hl : lv_has ls 5 [(0, .ref (A 0)), (1, .ref (A 1)), (2, .int (nI i)), (3, .int x)] := hl
  refine lv_iload_n hx hb dX0_write_0 rfl (lv_at hl 3 rfl) ?_
  refine lv_aload_n hx hb dX0_write_1 rfl (lv_at hl 1 rfl) ?_
  refine lv_iload_n hx hb dX0_write_2 rfl (lv_at hl 2 rfl) ?_
  refine va_iald (D := (dC, dI)) (i := (nI i)) hx hb hK hP 1 0 rfl rfl (vp_in_nI hi (by decide)) dX0_write_3 ?_
  rw [show ((nI i)).toNatClampNeg = i from nI_clamp (by omega)]
  refine lv_iconst (v := (-1)) hx hb dX0_write_4 (by decide) ?_
  refine lv_ixor hx hb dX0_write_5 ?_
  refine lv_iand hx hb dX0_write_6 ?_
  refine lv_topi (fun a ea => ?_)
  have ea : a = f_add (oW σ i) x := ea
  refine lv_istore hx hb dX0_write_7 hl (by decide) rfl (fun ls hl => ?_)
  have hl : lv_has ls 5 [(4, .int a), (0, .ref (A 0)), (1, .ref (A 1)), (2, .int (nI i)), (3, .int x)] := hl
  refine lv_iload hx hb dX0_write_9 (lv_at hl 0 rfl) ?_
  refine lv_if_ne (tgt := 16) hx hb dX0_write_11 rfl (fun h1 => ?_) (fun h1 => ?_)
  · skip
    refine lv_aload_n hx hb dX0_write_16 rfl (lv_at hl 1 rfl) ?_
    refine va_get (D := (dC, dI)) (ci := 0) (v := .int (oUn σ)) (C := RX0) (T := TX0) (N := 12) hx hb hB inX0 hown hK hP 0 rfl rfl 6 (by decide) (hB _ mX0_f_writesToFailure) (fun _ h9 => h9) rfl dX0_write_17 ?_
    refine lv_if_ne (tgt := 30) hx hb dX0_write_20 rfl (fun h2 => ?_) (fun h2 => ?_)
    · skip
      refine lv_aload_n hx hb dX0_write_30 rfl (lv_at hl 1 rfl) ?_
      refine va_get (D := (dC, dI)) (ci := 0) (v := .int (oUn σ)) (C := RX0) (T := TX0) (N := 12) hx hb hB inX0 hown hK hP 0 rfl rfl 6 (by decide) (hB _ mX0_f_writesToFailure) (fun _ h9 => h9) rfl dX0_write_31 ?_
      refine lv_if_le (tgt := 47) hx hb dX0_write_34 rfl (fun h3 => ?_) (fun h3 => ?_)
      · skip
        refine lv_aload_n hx hb dX0_write_47 rfl (lv_at hl 2 rfl) ?_
        refine lv_iload_n hx hb dX0_write_48 rfl (lv_at hl 3 rfl) ?_
        refine lv_dup2_11 hx hb dX0_write_49 rfl rfl ?_
        refine va_iald (D := (dC, dI)) (i := (nI i)) hx hb hK hP 1 0 rfl rfl (vp_in_nI hi (by decide)) dX0_write_50 ?_
        rw [show ((nI i)).toNatClampNeg = i from nI_clamp (by omega)]
        refine lv_iload hx hb dX0_write_51 (lv_at hl 0 rfl) ?_
        refine lv_ior hx hb dX0_write_53 ?_
        refine va_iast (D := (dC, dI)) (i := (nI i)) (x := (((oW σ) (i)) ||| a)) hx hb hK hP hD hS 1 0 rfl rfl (vp_in_nI hi (by decide)) dX0_write_54 (fun H locs hP hD hS => ?_)
        rw [show ((nI i)).toNatClampNeg = i from nI_clamp (by omega)] at hP hD
        have hP : va_P (dC, dI) vwCl (wO A cI (mkO (upd (oW σ) (i) ((((oW σ) (i)) ||| a))) (oT σ) (oL σ) (oSet σ) (oWr σ) (oOn σ) (oUn σ) (oK σ) (oV σ) (oP σ) (oBo σ) (oBs σ))) H := hP
        have hD : va_D AA (wO A cI (mkO (upd (oW σ) (i) ((((oW σ) (i)) ||| a))) (oT σ) (oL σ) (oSet σ) (oWr σ) (oOn σ) (oUn σ) (oK σ) (oV σ) (oP σ) (oBo σ) (oBs σ))) := hD
        refine lv_aload_n hx hb dX0_write_55 rfl (lv_at hl 1 rfl) ?_
        refine lv_dup hx hb dX0_write_56 rfl ?_
        refine va_get (D := (dC, dI)) (ci := 0) (v := .int (oSet σ)) (C := RX0) (T := TX0) (N := 12) hx hb hB inX0 hown hK hP 0 rfl rfl 3 (by decide) (hB _ mX0_f_setCells) (fun _ h9 => h9) rfl dX0_write_57 ?_
        refine lv_iload hx hb dX0_write_60 (lv_at hl 0 rfl) ?_
        refine ck6_bitCount hx hb hml hown hB hl.1  dX0_write_62 (Nat.le_of_ble_eq_true rfl) (Nat.le_of_ble_eq_true rfl) ⟨Nat.zero_le _, Nat.zero_le _⟩ (Nat.le_of_ble_eq_true rfl) ?_
        refine lv_iadd hx hb dX0_write_65 ?_
        refine va_put (D := (dC, dI)) (ci := 0) (v := .int ((oSet σ) + (f_bc a))) (ty := .int) (C := RX0) (T := TX0) (N := 12) hx hb hB inX0 tyX0 tyX0_ok nmX0 hown hK hP hD hS 0 rfl rfl 3 (by decide) (hB _ mX0_f_setCells) (fun _ h9 => h9) rfl (by decide +kernel) rfl rfl (Nat.le_of_ble_eq_true rfl) dX0_write_66 (fun H locs hP hD hS => ?_)
        have hP : va_P (dC, dI) vwCl (wO A cI (mkO (upd (oW σ) (i) ((((oW σ) (i)) ||| a))) (oT σ) (oL σ) (((oSet σ) + (f_bc a))) (oWr σ) (oOn σ) (oUn σ) (oK σ) (oV σ) (oP σ) (oBo σ) (oBs σ))) H := hP
        have hD : va_D AA (wO A cI (mkO (upd (oW σ) (i) ((((oW σ) (i)) ||| a))) (oT σ) (oL σ) (((oSet σ) + (f_bc a))) (oWr σ) (oOn σ) (oUn σ) (oK σ) (oV σ) (oP σ) (oBo σ) (oBs σ))) := hD
        refine lv_aload_n hx hb dX0_write_69 rfl (lv_at hl 1 rfl) ?_
        refine lv_dup hx hb dX0_write_70 rfl ?_
        refine va_get (D := (dC, dI)) (ci := 0) (v := .int (oWr σ)) (C := RX0) (T := TX0) (N := 12) hx hb hB inX0 hown hK hP 0 rfl rfl 4 (by decide) (hB _ mX0_f_writes) (fun _ h9 => h9) rfl dX0_write_71 ?_
        refine lv_iconst (v := 1) hx hb dX0_write_74 (by decide) ?_
        refine lv_iadd hx hb dX0_write_75 ?_
        refine va_put (D := (dC, dI)) (ci := 0) (v := .int ((oWr σ) + 1)) (ty := .int) (C := RX0) (T := TX0) (N := 12) hx hb hB inX0 tyX0 tyX0_ok nmX0 hown hK hP hD hS 0 rfl rfl 4 (by decide) (hB _ mX0_f_writes) (fun _ h9 => h9) rfl (by decide +kernel) rfl rfl (Nat.le_of_ble_eq_true rfl) dX0_write_76 (fun H locs hP hD hS => ?_)
        have hP : va_P (dC, dI) vwCl (wO A cI (mkO (upd (oW σ) (i) ((((oW σ) (i)) ||| a))) (oT σ) (oL σ) (((oSet σ) + (f_bc a))) (((oWr σ) + 1)) (oOn σ) (oUn σ) (oK σ) (oV σ) (oP σ) (oBo σ) (oBs σ))) H := hP
        have hD : va_D AA (wO A cI (mkO (upd (oW σ) (i) ((((oW σ) (i)) ||| a))) (oT σ) (oL σ) (((oSet σ) + (f_bc a))) (((oWr σ) + 1)) (oOn σ) (oUn σ) (oK σ) (oV σ) (oP σ) (oBo σ) (oBs σ))) := hD
        refine lv_iconst (v := 1) hx hb dX0_write_79 (by decide) ?_
        exact W.zret (v := 1) hx hb hr (rfl) (fun t ht hW => ⟨⟨1, mkO (upd (oW σ) (i) ((((oW σ) (i)) ||| a))) (oT σ) (oL σ) (((oSet σ) + (f_bc a))) (((oWr σ) + 1)) (oOn σ) (oUn σ) (oK σ) (oV σ) (oP σ) (oBo σ) (oBs σ), rfl, ⟨by simp [f_ok, bI, h2], by unfold f_wr1; rw [if_neg (by rw [← ea]; exact h1), if_neg h2, ← ea, show f_dec (oUn σ) = _ from if_pos h3]⟩, by rw [ht]; exact hP, va_K.moved hW.alike hK, hD⟩, hS.F ht⟩) hS.2.2 dX0_write_80
      · skip
        refine lv_aload_n hx hb dX0_write_37 rfl (lv_at hl 1 rfl) ?_
        refine lv_dup hx hb dX0_write_38 rfl ?_
        refine va_get (D := (dC, dI)) (ci := 0) (v := .int (oUn σ)) (C := RX0) (T := TX0) (N := 12) hx hb hB inX0 hown hK hP 0 rfl rfl 6 (by decide) (hB _ mX0_f_writesToFailure) (fun _ h9 => h9) rfl dX0_write_39 ?_
        refine lv_iconst (v := 1) hx hb dX0_write_42 (by decide) ?_
        refine lv_isub hx hb dX0_write_43 ?_
        refine va_put (D := (dC, dI)) (ci := 0) (v := .int ((oUn σ) - 1)) (ty := .int) (C := RX0) (T := TX0) (N := 12) hx hb hB inX0 tyX0 tyX0_ok nmX0 hown hK hP hD hS 0 rfl rfl 6 (by decide) (hB _ mX0_f_writesToFailure) (fun _ h9 => h9) rfl (by decide +kernel) rfl rfl (Nat.le_of_ble_eq_true rfl) dX0_write_44 (fun H locs hP hD hS => ?_)
        have hP : va_P (dC, dI) vwCl (wO A cI (mkO (oW σ) (oT σ) (oL σ) (oSet σ) (oWr σ) (oOn σ) (((oUn σ) - 1)) (oK σ) (oV σ) (oP σ) (oBo σ) (oBs σ))) H := hP
        have hD : va_D AA (wO A cI (mkO (oW σ) (oT σ) (oL σ) (oSet σ) (oWr σ) (oOn σ) (((oUn σ) - 1)) (oK σ) (oV σ) (oP σ) (oBo σ) (oBs σ))) := hD
        refine lv_aload_n hx hb dX0_write_47 rfl (lv_at hl 2 rfl) ?_
        refine lv_iload_n hx hb dX0_write_48 rfl (lv_at hl 3 rfl) ?_
        refine lv_dup2_11 hx hb dX0_write_49 rfl rfl ?_
        refine va_iald (D := (dC, dI)) (i := (nI i)) hx hb hK hP 1 0 rfl rfl (vp_in_nI hi (by decide)) dX0_write_50 ?_
        rw [show ((nI i)).toNatClampNeg = i from nI_clamp (by omega)]
        refine lv_iload hx hb dX0_write_51 (lv_at hl 0 rfl) ?_
        refine lv_ior hx hb dX0_write_53 ?_
        refine va_iast (D := (dC, dI)) (i := (nI i)) (x := (((oW σ) (i)) ||| a)) hx hb hK hP hD hS 1 0 rfl rfl (vp_in_nI hi (by decide)) dX0_write_54 (fun H locs hP hD hS => ?_)
        rw [show ((nI i)).toNatClampNeg = i from nI_clamp (by omega)] at hP hD
        have hP : va_P (dC, dI) vwCl (wO A cI (mkO (upd (oW σ) (i) ((((oW σ) (i)) ||| a))) (oT σ) (oL σ) (oSet σ) (oWr σ) (oOn σ) (((oUn σ) - 1)) (oK σ) (oV σ) (oP σ) (oBo σ) (oBs σ))) H := hP
        have hD : va_D AA (wO A cI (mkO (upd (oW σ) (i) ((((oW σ) (i)) ||| a))) (oT σ) (oL σ) (oSet σ) (oWr σ) (oOn σ) (((oUn σ) - 1)) (oK σ) (oV σ) (oP σ) (oBo σ) (oBs σ))) := hD
        refine lv_aload_n hx hb dX0_write_55 rfl (lv_at hl 1 rfl) ?_
        refine lv_dup hx hb dX0_write_56 rfl ?_
        refine va_get (D := (dC, dI)) (ci := 0) (v := .int (oSet σ)) (C := RX0) (T := TX0) (N := 12) hx hb hB inX0 hown hK hP 0 rfl rfl 3 (by decide) (hB _ mX0_f_setCells) (fun _ h9 => h9) rfl dX0_write_57 ?_
        refine lv_iload hx hb dX0_write_60 (lv_at hl 0 rfl) ?_
        refine ck6_bitCount hx hb hml hown hB hl.1  dX0_write_62 (Nat.le_of_ble_eq_true rfl) (Nat.le_of_ble_eq_true rfl) ⟨Nat.zero_le _, Nat.zero_le _⟩ (Nat.le_of_ble_eq_true rfl) ?_
        refine lv_iadd hx hb dX0_write_65 ?_
        refine va_put (D := (dC, dI)) (ci := 0) (v := .int ((oSet σ) + (f_bc a))) (ty := .int) (C := RX0) (T := TX0) (N := 12) hx hb hB inX0 tyX0 tyX0_ok nmX0 hown hK hP hD hS 0 rfl rfl 3 (by decide) (hB _ mX0_f_setCells) (fun _ h9 => h9) rfl (by decide +kernel) rfl rfl (Nat.le_of_ble_eq_true rfl) dX0_write_66 (fun H locs hP hD hS => ?_)
        have hP : va_P (dC, dI) vwCl (wO A cI (mkO (upd (oW σ) (i) ((((oW σ) (i)) ||| a))) (oT σ) (oL σ) (((oSet σ) + (f_bc a))) (oWr σ) (oOn σ) (((oUn σ) - 1)) (oK σ) (oV σ) (oP σ) (oBo σ) (oBs σ))) H := hP
        have hD : va_D AA (wO A cI (mkO (upd (oW σ) (i) ((((oW σ) (i)) ||| a))) (oT σ) (oL σ) (((oSet σ) + (f_bc a))) (oWr σ) (oOn σ) (((oUn σ) - 1)) (oK σ) (oV σ) (oP σ) (oBo σ) (oBs σ))) := hD
        refine lv_aload_n hx hb dX0_write_69 rfl (lv_at hl 1 rfl) ?_
        refine lv_dup hx hb dX0_write_70 rfl ?_
        refine va_get (D := (dC, dI)) (ci := 0) (v := .int (oWr σ)) (C := RX0) (T := TX0) (N := 12) hx hb hB inX0 hown hK hP 0 rfl rfl 4 (by decide) (hB _ mX0_f_writes) (fun _ h9 => h9) rfl dX0_write_71 ?_
        refine lv_iconst (v := 1) hx hb dX0_write_74 (by decide) ?_
        refine lv_iadd hx hb dX0_write_75 ?_
        refine va_put (D := (dC, dI)) (ci := 0) (v := .int ((oWr σ) + 1)) (ty := .int) (C := RX0) (T := TX0) (N := 12) hx hb hB inX0 tyX0 tyX0_ok nmX0 hown hK hP hD hS 0 rfl rfl 4 (by decide) (hB _ mX0_f_writes) (fun _ h9 => h9) rfl (by decide +kernel) rfl rfl (Nat.le_of_ble_eq_true rfl) dX0_write_76 (fun H locs hP hD hS => ?_)
        have hP : va_P (dC, dI) vwCl (wO A cI (mkO (upd (oW σ) (i) ((((oW σ) (i)) ||| a))) (oT σ) (oL σ) (((oSet σ) + (f_bc a))) (((oWr σ) + 1)) (oOn σ) (((oUn σ) - 1)) (oK σ) (oV σ) (oP σ) (oBo σ) (oBs σ))) H := hP
        have hD : va_D AA (wO A cI (mkO (upd (oW σ) (i) ((((oW σ) (i)) ||| a))) (oT σ) (oL σ) (((oSet σ) + (f_bc a))) (((oWr σ) + 1)) (oOn σ) (((oUn σ) - 1)) (oK σ) (oV σ) (oP σ) (oBo σ) (oBs σ))) := hD
        refine lv_iconst (v := 1) hx hb dX0_write_79 (by decide) ?_
        exact W.zret (v := 1) hx hb hr (rfl) (fun t ht hW => ⟨⟨1, mkO (upd (oW σ) (i) ((((oW σ) (i)) ||| a))) (oT σ) (oL σ) (((oSet σ) + (f_bc a))) (((oWr σ) + 1)) (oOn σ) (((oUn σ) - 1)) (oK σ) (oV σ) (oP σ) (oBo σ) (oBs σ), rfl, ⟨by simp [f_ok, bI, h2], by unfold f_wr1; rw [if_neg (by rw [← ea]; exact h1), if_neg h2, ← ea, show f_dec (oUn σ) = _ from if_neg h3]⟩, by rw [ht]; exact hP, va_K.moved hW.alike hK, hD⟩, hS.F ht⟩) hS.2.2 dX0_write_80
    · skip
      refine lv_aload_n hx hb dX0_write_23 rfl (lv_at hl 1 rfl) ?_
      refine lv_iconst (v := 0) hx hb dX0_write_24 (by decide) ?_
      refine va_put (D := (dC, dI)) (ci := 0) (v := .int 0) (ty := .boolean) (C := RX0) (T := TX0) (N := 12) hx hb hB inX0 tyX0 tyX0_ok nmX0 hown hK hP hD hS 0 rfl rfl 5 (by decide) (hB _ mX0_f_powered) (fun _ h9 => h9) rfl (by decide +kernel) rfl rfl (Nat.le_of_ble_eq_true rfl) dX0_write_25 (fun H locs hP hD hS => ?_)
      have hP : va_P (dC, dI) vwCl (wO A cI (mkO (oW σ) (oT σ) (oL σ) (oSet σ) (oWr σ) (0) (oUn σ) (oK σ) (oV σ) (oP σ) (oBo σ) (oBs σ))) H := hP
      have hD : va_D AA (wO A cI (mkO (oW σ) (oT σ) (oL σ) (oSet σ) (oWr σ) (0) (oUn σ) (oK σ) (oV σ) (oP σ) (oBo σ) (oBs σ))) := hD
      refine lv_iconst (v := 0) hx hb dX0_write_28 (by decide) ?_
      exact W.zret (v := 0) hx hb hr (rfl) (fun t ht hW => ⟨⟨0, mkO (oW σ) (oT σ) (oL σ) (oSet σ) (oWr σ) (0) (oUn σ) (oK σ) (oV σ) (oP σ) (oBo σ) (oBs σ), rfl, ⟨by rw [← ea]; simp [f_ok, bI, h1, h2], by unfold f_wr1; rw [if_neg (by rw [← ea]; exact h1), if_pos (by simpa using h2)]⟩, by rw [ht]; exact hP, va_K.moved hW.alike hK, hD⟩, hS.F ht⟩) hS.2.2 dX0_write_29
  · skip
    refine lv_iconst (v := 1) hx hb dX0_write_14 (by decide) ?_
    exact W.zret (v := 1) hx hb hr (rfl) (fun t ht hW => ⟨⟨1, σ, rfl, ⟨by rw [← ea]; simp [f_ok, bI, h1], by unfold f_wr1; rw [if_pos (by rw [← ea]; simpa using h1)]⟩, by rw [ht]; exact hP, va_K.moved hW.alike hK, hD⟩, hS.F ht⟩) hS.2.2 dX0_write_15
set_option maxRecDepth 100000 in
theorem ck0_write1 {p : Program} {l : Launch} {e : Env} {R : Room} {s : State} {m : MethodId} {args : Array Value} {below : List Frame} {meth : Method} {c : Code} {H : Heap} {locs : List Loc} {cells slots : Nat} {Q : State → Prop} {cc : ByteArray} {nL pc : Nat} {ls : Array Slot} {rest : List Value} {A0 : Nat → Prop} {H0 : Heap} {dC : Nat → ClassId} {dI : Nat → Nat → Nat} {A : Nat → Nat} {cI : ClassId} {σ : OS} {i : Nat} {x : Int32} (hx : p.tables.exec = Jvm.exec) (hb : c.code = cc) (hml : c.maxLocals = nL) (hown : s.vm.findClass RX0 = some m.cls) (hB : ∀ w ∈ bX0, w.before args s = true) (hsz : ls.size = nL) (hP : va_P (dC, dI) vwCl (wO A cI σ) H) (hK : va_K (dC, dI) vwCl [(cI, .int)] s) (hD : va_D A0 (wO A cI σ)) (hS : va_S A0 H0 H locs) (hA : ∀ q, H0.size ≤ q → A0 q) (hi : i < 160) (hd : decode cc pc = .ok (.invokevirtual 152, 3)) (hF : 2 ≤ R.frames) (hLo : 54 ≤ R.locals) (hc : cells ≤ R.cells ∧ slots ≤ R.slots) (hst : (rest.map fun v => v.category).sum ≤ 8)
    (kk : ∀ (H1 : Heap) (locs1 : List Loc), va_P (dC, dI) vwCl (wO A cI (f_wr1 σ i x)) H1 → va_D A0 (wO A cI (f_wr1 σ i x)) → va_S A0 H0 H1 locs1 → W p l e R s m args below meth c H1 locs1 cells slots Q (F0 m (pc + 3) ls (.int (bI (f_ok σ (f_add (oW σ i) x))) :: rest))) : W p l e R s m args below meth c H locs cells slots Q (F0 m pc ls (.int x :: .int (nI i) :: .ref (A 1) :: .ref (A 0) :: rest)) := by
  have hFc := va_free (wc := wO A cI σ) hD hS hA [0, 1, 2, 3, 4, 5, 6] rfl
  refine va_calli (va_runV (C := RX0) (As := [.ref (A 1), .int (nI i), .int x]) (rest := rest) ⟨hx, hb, hml, hown, hB⟩ (cm0_write1 l dC dI A cI σ H.size i x hi) (cwV 3 hB goX0_write rfl rfl rfl ⟨rfl, by decide, by decide, by decide +kernel⟩ ⟨hF, hLo⟩) ⟨fun a U g mk q => by obtain ⟨q0, q1, qP, qK, qD⟩ := q; exact ⟨q0, q1, qP, va_K.moved (u := U) (U := U.calling g mk a) (Vm.Alike.refl U.vm) qK, qD⟩, va_recv (q := (RX0, TX0, 12)) hK hP rfl (q0 := 0) rfl, fun U hU hW => ⟨rfl, by rw [hU], by rw [hU]; exact hP, va_K.moved hW.alike hK, hD.weaken (fun _ _ _ _ => trivial)⟩⟩ rfl rfl hsz rfl (lv_room hst) hd hc) hS (fun q _ h => hFc q h) hFc (fun r u t H1 locs1 ht hvm hw hBu hz1 hk1 hS1 => ?_)
  obtain ⟨rfl, rfl⟩ := hw
  obtain ⟨hP1, hK1, hD1⟩ := hBu
  rw [ht] at hP1
  exact kk H1 locs1 hP1 (hD1.weaken (fun k q _ h => hFc q.1 h)) hS1
set_option maxHeartbeats 4000000 in
set_option maxRecDepth 100000 in
theorem cm0_write2 (l : Launch) (dC : Nat → ClassId) (dI : Nat → Nat → Nat) (A : Nat → Nat) (cI : ClassId) (σ : OS) (sz : Nat) (i : Nat) (x : Int32) (hi : i < 160) : Met l yX0_write wsX0_write (rk 1) (va_Pc [.ref (A 0), .ref (A 2), .int (nI i), .int x] (oPre (dC, dI) A cI σ sz)) (va_Qi (fun r u => r = bI (f_ok σ (f_add (oT σ i) x)) ∧ u = f_wr2 σ i x) (oB (dC, dI) A cI (oX A cI σ sz)) (oX A cI σ sz)) 0 0 (oX A cI σ sz) := by
  refine Met.ofW (cc := cX0_write) (maxL := 5) (ret := (some .boolean)) (by decide) rfl ?_
  intro p e s m args below meth c s₁ B hml hv
  obtain ⟨rfl, hsz, hP, hK, hD0⟩ := hv
  have hx := B.exec
  have hb := B.bytes
  have hr := B.returns
  have hB : ∀ w ∈ bX0, w.before _ s = true := fun w h => atoms_spec (ws := wsX0_write) B.pre w (List.mem_cons_of_mem _ h)
  have hown : s.vm.findClass RX0 = some m.cls := findClass_of_methodNamed B.named
  have hlocks := B.notSynchronized
  subst hsz
  have hD : va_D (oX A cI σ s.heap.size) (wO A cI σ) := hD0.self (sz := s.heap.size)
  have hA : ∀ q : Nat, s.heap.size ≤ q → oX A cI σ s.heap.size q := fun q h => Or.inr h
  generalize oX A cI σ s.heap.size = AA at hD hA ⊢
  have hS : va_S AA s.heap s.heap [] := va_S.rf
  have hl := lv_entry ([.ref (A 0), .ref (A 2), .int (nI i), .int x]) (n := 5) (Nat.le_of_ble_eq_true rfl)
  rw [lg_entry_eq]
  generalize (lg_sl ([.ref (A 0), .ref (A 2), .int (nI i), .int x]) ++ List.replicate (5 - (lg_sl ([.ref (A 0), .ref (A 2), .int (nI i), .int x])).length) Slot.unset).toArray = ls at hl ⊢
  have hl : lv_has ls 5 [(0, .ref (A 0)), (1, .ref (A 2)), (2, .int (nI i)), (3, .int x)] := hl
  refine lv_iload_n hx hb dX0_write_0 rfl (lv_at hl 3 rfl) ?_
  refine lv_aload_n hx hb dX0_write_1 rfl (lv_at hl 1 rfl) ?_
  refine lv_iload_n hx hb dX0_write_2 rfl (lv_at hl 2 rfl) ?_
  refine va_iald (D := (dC, dI)) (i := (nI i)) hx hb hK hP 2 0 rfl rfl (vp_in_nI hi (by decide)) dX0_write_3 ?_
  rw [show ((nI i)).toNatClampNeg = i from nI_clamp (by omega)]
  refine lv_iconst (v := (-1)) hx hb dX0_write_4 (by decide) ?_
  refine lv_ixor hx hb dX0_write_5 ?_
  refine lv_iand hx hb dX0_write_6 ?_
  refine lv_topi (fun a ea => ?_)
  have ea : a = f_add (oT σ i) x := ea
  refine lv_istore hx hb dX0_write_7 hl (by decide) rfl (fun ls hl => ?_)
  have hl : lv_has ls 5 [(4, .int a), (0, .ref (A 0)), (1, .ref (A 2)), (2, .int (nI i)), (3, .int x)] := hl
  refine lv_iload hx hb dX0_write_9 (lv_at hl 0 rfl) ?_
  refine lv_if_ne (tgt := 16) hx hb dX0_write_11 rfl (fun h1 => ?_) (fun h1 => ?_)
  · skip
    refine lv_aload_n hx hb dX0_write_16 rfl (lv_at hl 1 rfl) ?_
    refine va_get (D := (dC, dI)) (ci := 0) (v := .int (oUn σ)) (C := RX0) (T := TX0) (N := 12) hx hb hB inX0 hown hK hP 0 rfl rfl 6 (by decide) (hB _ mX0_f_writesToFailure) (fun _ h9 => h9) rfl dX0_write_17 ?_
    refine lv_if_ne (tgt := 30) hx hb dX0_write_20 rfl (fun h2 => ?_) (fun h2 => ?_)
    · skip
      refine lv_aload_n hx hb dX0_write_30 rfl (lv_at hl 1 rfl) ?_
      refine va_get (D := (dC, dI)) (ci := 0) (v := .int (oUn σ)) (C := RX0) (T := TX0) (N := 12) hx hb hB inX0 hown hK hP 0 rfl rfl 6 (by decide) (hB _ mX0_f_writesToFailure) (fun _ h9 => h9) rfl dX0_write_31 ?_
      refine lv_if_le (tgt := 47) hx hb dX0_write_34 rfl (fun h3 => ?_) (fun h3 => ?_)
      · skip
        refine lv_aload_n hx hb dX0_write_47 rfl (lv_at hl 2 rfl) ?_
        refine lv_iload_n hx hb dX0_write_48 rfl (lv_at hl 3 rfl) ?_
        refine lv_dup2_11 hx hb dX0_write_49 rfl rfl ?_
        refine va_iald (D := (dC, dI)) (i := (nI i)) hx hb hK hP 2 0 rfl rfl (vp_in_nI hi (by decide)) dX0_write_50 ?_
        rw [show ((nI i)).toNatClampNeg = i from nI_clamp (by omega)]
        refine lv_iload hx hb dX0_write_51 (lv_at hl 0 rfl) ?_
        refine lv_ior hx hb dX0_write_53 ?_
        refine va_iast (D := (dC, dI)) (i := (nI i)) (x := (((oT σ) (i)) ||| a)) hx hb hK hP hD hS 2 0 rfl rfl (vp_in_nI hi (by decide)) dX0_write_54 (fun H locs hP hD hS => ?_)
        rw [show ((nI i)).toNatClampNeg = i from nI_clamp (by omega)] at hP hD
        have hP : va_P (dC, dI) vwCl (wO A cI (mkO (oW σ) (upd (oT σ) (i) ((((oT σ) (i)) ||| a))) (oL σ) (oSet σ) (oWr σ) (oOn σ) (oUn σ) (oK σ) (oV σ) (oP σ) (oBo σ) (oBs σ))) H := hP
        have hD : va_D AA (wO A cI (mkO (oW σ) (upd (oT σ) (i) ((((oT σ) (i)) ||| a))) (oL σ) (oSet σ) (oWr σ) (oOn σ) (oUn σ) (oK σ) (oV σ) (oP σ) (oBo σ) (oBs σ))) := hD
        refine lv_aload_n hx hb dX0_write_55 rfl (lv_at hl 1 rfl) ?_
        refine lv_dup hx hb dX0_write_56 rfl ?_
        refine va_get (D := (dC, dI)) (ci := 0) (v := .int (oSet σ)) (C := RX0) (T := TX0) (N := 12) hx hb hB inX0 hown hK hP 0 rfl rfl 3 (by decide) (hB _ mX0_f_setCells) (fun _ h9 => h9) rfl dX0_write_57 ?_
        refine lv_iload hx hb dX0_write_60 (lv_at hl 0 rfl) ?_
        refine ck6_bitCount hx hb hml hown hB hl.1  dX0_write_62 (Nat.le_of_ble_eq_true rfl) (Nat.le_of_ble_eq_true rfl) ⟨Nat.zero_le _, Nat.zero_le _⟩ (Nat.le_of_ble_eq_true rfl) ?_
        refine lv_iadd hx hb dX0_write_65 ?_
        refine va_put (D := (dC, dI)) (ci := 0) (v := .int ((oSet σ) + (f_bc a))) (ty := .int) (C := RX0) (T := TX0) (N := 12) hx hb hB inX0 tyX0 tyX0_ok nmX0 hown hK hP hD hS 0 rfl rfl 3 (by decide) (hB _ mX0_f_setCells) (fun _ h9 => h9) rfl (by decide +kernel) rfl rfl (Nat.le_of_ble_eq_true rfl) dX0_write_66 (fun H locs hP hD hS => ?_)
        have hP : va_P (dC, dI) vwCl (wO A cI (mkO (oW σ) (upd (oT σ) (i) ((((oT σ) (i)) ||| a))) (oL σ) (((oSet σ) + (f_bc a))) (oWr σ) (oOn σ) (oUn σ) (oK σ) (oV σ) (oP σ) (oBo σ) (oBs σ))) H := hP
        have hD : va_D AA (wO A cI (mkO (oW σ) (upd (oT σ) (i) ((((oT σ) (i)) ||| a))) (oL σ) (((oSet σ) + (f_bc a))) (oWr σ) (oOn σ) (oUn σ) (oK σ) (oV σ) (oP σ) (oBo σ) (oBs σ))) := hD
        refine lv_aload_n hx hb dX0_write_69 rfl (lv_at hl 1 rfl) ?_
        refine lv_dup hx hb dX0_write_70 rfl ?_
        refine va_get (D := (dC, dI)) (ci := 0) (v := .int (oWr σ)) (C := RX0) (T := TX0) (N := 12) hx hb hB inX0 hown hK hP 0 rfl rfl 4 (by decide) (hB _ mX0_f_writes) (fun _ h9 => h9) rfl dX0_write_71 ?_
        refine lv_iconst (v := 1) hx hb dX0_write_74 (by decide) ?_
        refine lv_iadd hx hb dX0_write_75 ?_
        refine va_put (D := (dC, dI)) (ci := 0) (v := .int ((oWr σ) + 1)) (ty := .int) (C := RX0) (T := TX0) (N := 12) hx hb hB inX0 tyX0 tyX0_ok nmX0 hown hK hP hD hS 0 rfl rfl 4 (by decide) (hB _ mX0_f_writes) (fun _ h9 => h9) rfl (by decide +kernel) rfl rfl (Nat.le_of_ble_eq_true rfl) dX0_write_76 (fun H locs hP hD hS => ?_)
        have hP : va_P (dC, dI) vwCl (wO A cI (mkO (oW σ) (upd (oT σ) (i) ((((oT σ) (i)) ||| a))) (oL σ) (((oSet σ) + (f_bc a))) (((oWr σ) + 1)) (oOn σ) (oUn σ) (oK σ) (oV σ) (oP σ) (oBo σ) (oBs σ))) H := hP
        have hD : va_D AA (wO A cI (mkO (oW σ) (upd (oT σ) (i) ((((oT σ) (i)) ||| a))) (oL σ) (((oSet σ) + (f_bc a))) (((oWr σ) + 1)) (oOn σ) (oUn σ) (oK σ) (oV σ) (oP σ) (oBo σ) (oBs σ))) := hD
        refine lv_iconst (v := 1) hx hb dX0_write_79 (by decide) ?_
        exact W.zret (v := 1) hx hb hr (rfl) (fun t ht hW => ⟨⟨1, mkO (oW σ) (upd (oT σ) (i) ((((oT σ) (i)) ||| a))) (oL σ) (((oSet σ) + (f_bc a))) (((oWr σ) + 1)) (oOn σ) (oUn σ) (oK σ) (oV σ) (oP σ) (oBo σ) (oBs σ), rfl, ⟨by simp [f_ok, bI, h2], by unfold f_wr2; rw [if_neg (by rw [← ea]; exact h1), if_neg h2, ← ea, show f_dec (oUn σ) = _ from if_pos h3]⟩, by rw [ht]; exact hP, va_K.moved hW.alike hK, hD⟩, hS.F ht⟩) hS.2.2 dX0_write_80
      · skip
        refine lv_aload_n hx hb dX0_write_37 rfl (lv_at hl 1 rfl) ?_
        refine lv_dup hx hb dX0_write_38 rfl ?_
        refine va_get (D := (dC, dI)) (ci := 0) (v := .int (oUn σ)) (C := RX0) (T := TX0) (N := 12) hx hb hB inX0 hown hK hP 0 rfl rfl 6 (by decide) (hB _ mX0_f_writesToFailure) (fun _ h9 => h9) rfl dX0_write_39 ?_
        refine lv_iconst (v := 1) hx hb dX0_write_42 (by decide) ?_
        refine lv_isub hx hb dX0_write_43 ?_
        refine va_put (D := (dC, dI)) (ci := 0) (v := .int ((oUn σ) - 1)) (ty := .int) (C := RX0) (T := TX0) (N := 12) hx hb hB inX0 tyX0 tyX0_ok nmX0 hown hK hP hD hS 0 rfl rfl 6 (by decide) (hB _ mX0_f_writesToFailure) (fun _ h9 => h9) rfl (by decide +kernel) rfl rfl (Nat.le_of_ble_eq_true rfl) dX0_write_44 (fun H locs hP hD hS => ?_)
        have hP : va_P (dC, dI) vwCl (wO A cI (mkO (oW σ) (oT σ) (oL σ) (oSet σ) (oWr σ) (oOn σ) (((oUn σ) - 1)) (oK σ) (oV σ) (oP σ) (oBo σ) (oBs σ))) H := hP
        have hD : va_D AA (wO A cI (mkO (oW σ) (oT σ) (oL σ) (oSet σ) (oWr σ) (oOn σ) (((oUn σ) - 1)) (oK σ) (oV σ) (oP σ) (oBo σ) (oBs σ))) := hD
        refine lv_aload_n hx hb dX0_write_47 rfl (lv_at hl 2 rfl) ?_
        refine lv_iload_n hx hb dX0_write_48 rfl (lv_at hl 3 rfl) ?_
        refine lv_dup2_11 hx hb dX0_write_49 rfl rfl ?_
        refine va_iald (D := (dC, dI)) (i := (nI i)) hx hb hK hP 2 0 rfl rfl (vp_in_nI hi (by decide)) dX0_write_50 ?_
        rw [show ((nI i)).toNatClampNeg = i from nI_clamp (by omega)]
        refine lv_iload hx hb dX0_write_51 (lv_at hl 0 rfl) ?_
        refine lv_ior hx hb dX0_write_53 ?_
        refine va_iast (D := (dC, dI)) (i := (nI i)) (x := (((oT σ) (i)) ||| a)) hx hb hK hP hD hS 2 0 rfl rfl (vp_in_nI hi (by decide)) dX0_write_54 (fun H locs hP hD hS => ?_)
        rw [show ((nI i)).toNatClampNeg = i from nI_clamp (by omega)] at hP hD
        have hP : va_P (dC, dI) vwCl (wO A cI (mkO (oW σ) (upd (oT σ) (i) ((((oT σ) (i)) ||| a))) (oL σ) (oSet σ) (oWr σ) (oOn σ) (((oUn σ) - 1)) (oK σ) (oV σ) (oP σ) (oBo σ) (oBs σ))) H := hP
        have hD : va_D AA (wO A cI (mkO (oW σ) (upd (oT σ) (i) ((((oT σ) (i)) ||| a))) (oL σ) (oSet σ) (oWr σ) (oOn σ) (((oUn σ) - 1)) (oK σ) (oV σ) (oP σ) (oBo σ) (oBs σ))) := hD
        refine lv_aload_n hx hb dX0_write_55 rfl (lv_at hl 1 rfl) ?_
        refine lv_dup hx hb dX0_write_56 rfl ?_
        refine va_get (D := (dC, dI)) (ci := 0) (v := .int (oSet σ)) (C := RX0) (T := TX0) (N := 12) hx hb hB inX0 hown hK hP 0 rfl rfl 3 (by decide) (hB _ mX0_f_setCells) (fun _ h9 => h9) rfl dX0_write_57 ?_
        refine lv_iload hx hb dX0_write_60 (lv_at hl 0 rfl) ?_
        refine ck6_bitCount hx hb hml hown hB hl.1  dX0_write_62 (Nat.le_of_ble_eq_true rfl) (Nat.le_of_ble_eq_true rfl) ⟨Nat.zero_le _, Nat.zero_le _⟩ (Nat.le_of_ble_eq_true rfl) ?_
        refine lv_iadd hx hb dX0_write_65 ?_
        refine va_put (D := (dC, dI)) (ci := 0) (v := .int ((oSet σ) + (f_bc a))) (ty := .int) (C := RX0) (T := TX0) (N := 12) hx hb hB inX0 tyX0 tyX0_ok nmX0 hown hK hP hD hS 0 rfl rfl 3 (by decide) (hB _ mX0_f_setCells) (fun _ h9 => h9) rfl (by decide +kernel) rfl rfl (Nat.le_of_ble_eq_true rfl) dX0_write_66 (fun H locs hP hD hS => ?_)
        have hP : va_P (dC, dI) vwCl (wO A cI (mkO (oW σ) (upd (oT σ) (i) ((((oT σ) (i)) ||| a))) (oL σ) (((oSet σ) + (f_bc a))) (oWr σ) (oOn σ) (((oUn σ) - 1)) (oK σ) (oV σ) (oP σ) (oBo σ) (oBs σ))) H := hP
        have hD : va_D AA (wO A cI (mkO (oW σ) (upd (oT σ) (i) ((((oT σ) (i)) ||| a))) (oL σ) (((oSet σ) + (f_bc a))) (oWr σ) (oOn σ) (((oUn σ) - 1)) (oK σ) (oV σ) (oP σ) (oBo σ) (oBs σ))) := hD
        refine lv_aload_n hx hb dX0_write_69 rfl (lv_at hl 1 rfl) ?_
        refine lv_dup hx hb dX0_write_70 rfl ?_
        refine va_get (D := (dC, dI)) (ci := 0) (v := .int (oWr σ)) (C := RX0) (T := TX0) (N := 12) hx hb hB inX0 hown hK hP 0 rfl rfl 4 (by decide) (hB _ mX0_f_writes) (fun _ h9 => h9) rfl dX0_write_71 ?_
        refine lv_iconst (v := 1) hx hb dX0_write_74 (by decide) ?_
        refine lv_iadd hx hb dX0_write_75 ?_
        refine va_put (D := (dC, dI)) (ci := 0) (v := .int ((oWr σ) + 1)) (ty := .int) (C := RX0) (T := TX0) (N := 12) hx hb hB inX0 tyX0 tyX0_ok nmX0 hown hK hP hD hS 0 rfl rfl 4 (by decide) (hB _ mX0_f_writes) (fun _ h9 => h9) rfl (by decide +kernel) rfl rfl (Nat.le_of_ble_eq_true rfl) dX0_write_76 (fun H locs hP hD hS => ?_)
        have hP : va_P (dC, dI) vwCl (wO A cI (mkO (oW σ) (upd (oT σ) (i) ((((oT σ) (i)) ||| a))) (oL σ) (((oSet σ) + (f_bc a))) (((oWr σ) + 1)) (oOn σ) (((oUn σ) - 1)) (oK σ) (oV σ) (oP σ) (oBo σ) (oBs σ))) H := hP
        have hD : va_D AA (wO A cI (mkO (oW σ) (upd (oT σ) (i) ((((oT σ) (i)) ||| a))) (oL σ) (((oSet σ) + (f_bc a))) (((oWr σ) + 1)) (oOn σ) (((oUn σ) - 1)) (oK σ) (oV σ) (oP σ) (oBo σ) (oBs σ))) := hD
        refine lv_iconst (v := 1) hx hb dX0_write_79 (by decide) ?_
        exact W.zret (v := 1) hx hb hr (rfl) (fun t ht hW => ⟨⟨1, mkO (oW σ) (upd (oT σ) (i) ((((oT σ) (i)) ||| a))) (oL σ) (((oSet σ) + (f_bc a))) (((oWr σ) + 1)) (oOn σ) (((oUn σ) - 1)) (oK σ) (oV σ) (oP σ) (oBo σ) (oBs σ), rfl, ⟨by simp [f_ok, bI, h2], by unfold f_wr2; rw [if_neg (by rw [← ea]; exact h1), if_neg h2, ← ea, show f_dec (oUn σ) = _ from if_neg h3]⟩, by rw [ht]; exact hP, va_K.moved hW.alike hK, hD⟩, hS.F ht⟩) hS.2.2 dX0_write_80
    · skip
      refine lv_aload_n hx hb dX0_write_23 rfl (lv_at hl 1 rfl) ?_
      refine lv_iconst (v := 0) hx hb dX0_write_24 (by decide) ?_
      refine va_put (D := (dC, dI)) (ci := 0) (v := .int 0) (ty := .boolean) (C := RX0) (T := TX0) (N := 12) hx hb hB inX0 tyX0 tyX0_ok nmX0 hown hK hP hD hS 0 rfl rfl 5 (by decide) (hB _ mX0_f_powered) (fun _ h9 => h9) rfl (by decide +kernel) rfl rfl (Nat.le_of_ble_eq_true rfl) dX0_write_25 (fun H locs hP hD hS => ?_)
      have hP : va_P (dC, dI) vwCl (wO A cI (mkO (oW σ) (oT σ) (oL σ) (oSet σ) (oWr σ) (0) (oUn σ) (oK σ) (oV σ) (oP σ) (oBo σ) (oBs σ))) H := hP
      have hD : va_D AA (wO A cI (mkO (oW σ) (oT σ) (oL σ) (oSet σ) (oWr σ) (0) (oUn σ) (oK σ) (oV σ) (oP σ) (oBo σ) (oBs σ))) := hD
      refine lv_iconst (v := 0) hx hb dX0_write_28 (by decide) ?_
      exact W.zret (v := 0) hx hb hr (rfl) (fun t ht hW => ⟨⟨0, mkO (oW σ) (oT σ) (oL σ) (oSet σ) (oWr σ) (0) (oUn σ) (oK σ) (oV σ) (oP σ) (oBo σ) (oBs σ), rfl, ⟨by rw [← ea]; simp [f_ok, bI, h1, h2], by unfold f_wr2; rw [if_neg (by rw [← ea]; exact h1), if_pos (by simpa using h2)]⟩, by rw [ht]; exact hP, va_K.moved hW.alike hK, hD⟩, hS.F ht⟩) hS.2.2 dX0_write_29
  · skip
    refine lv_iconst (v := 1) hx hb dX0_write_14 (by decide) ?_
    exact W.zret (v := 1) hx hb hr (rfl) (fun t ht hW => ⟨⟨1, σ, rfl, ⟨by rw [← ea]; simp [f_ok, bI, h1], by unfold f_wr2; rw [if_pos (by rw [← ea]; simpa using h1)]⟩, by rw [ht]; exact hP, va_K.moved hW.alike hK, hD⟩, hS.F ht⟩) hS.2.2 dX0_write_15
set_option maxRecDepth 100000 in
theorem ck0_write2 {p : Program} {l : Launch} {e : Env} {R : Room} {s : State} {m : MethodId} {args : Array Value} {below : List Frame} {meth : Method} {c : Code} {H : Heap} {locs : List Loc} {cells slots : Nat} {Q : State → Prop} {cc : ByteArray} {nL pc : Nat} {ls : Array Slot} {rest : List Value} {A0 : Nat → Prop} {H0 : Heap} {dC : Nat → ClassId} {dI : Nat → Nat → Nat} {A : Nat → Nat} {cI : ClassId} {σ : OS} {i : Nat} {x : Int32} (hx : p.tables.exec = Jvm.exec) (hb : c.code = cc) (hml : c.maxLocals = nL) (hown : s.vm.findClass RX0 = some m.cls) (hB : ∀ w ∈ bX0, w.before args s = true) (hsz : ls.size = nL) (hP : va_P (dC, dI) vwCl (wO A cI σ) H) (hK : va_K (dC, dI) vwCl [(cI, .int)] s) (hD : va_D A0 (wO A cI σ)) (hS : va_S A0 H0 H locs) (hA : ∀ q, H0.size ≤ q → A0 q) (hi : i < 160) (hd : decode cc pc = .ok (.invokevirtual 152, 3)) (hF : 2 ≤ R.frames) (hLo : 54 ≤ R.locals) (hc : cells ≤ R.cells ∧ slots ≤ R.slots) (hst : (rest.map fun v => v.category).sum ≤ 8)
    (kk : ∀ (H1 : Heap) (locs1 : List Loc), va_P (dC, dI) vwCl (wO A cI (f_wr2 σ i x)) H1 → va_D A0 (wO A cI (f_wr2 σ i x)) → va_S A0 H0 H1 locs1 → W p l e R s m args below meth c H1 locs1 cells slots Q (F0 m (pc + 3) ls (.int (bI (f_ok σ (f_add (oT σ i) x))) :: rest))) : W p l e R s m args below meth c H locs cells slots Q (F0 m pc ls (.int x :: .int (nI i) :: .ref (A 2) :: .ref (A 0) :: rest)) := by
  have hFc := va_free (wc := wO A cI σ) hD hS hA [0, 1, 2, 3, 4, 5, 6] rfl
  refine va_calli (va_runV (C := RX0) (As := [.ref (A 2), .int (nI i), .int x]) (rest := rest) ⟨hx, hb, hml, hown, hB⟩ (cm0_write2 l dC dI A cI σ H.size i x hi) (cwV 3 hB goX0_write rfl rfl rfl ⟨rfl, by decide, by decide, by decide +kernel⟩ ⟨hF, hLo⟩) ⟨fun a U g mk q => by obtain ⟨q0, q1, qP, qK, qD⟩ := q; exact ⟨q0, q1, qP, va_K.moved (u := U) (U := U.calling g mk a) (Vm.Alike.refl U.vm) qK, qD⟩, va_recv (q := (RX0, TX0, 12)) hK hP rfl (q0 := 0) rfl, fun U hU hW => ⟨rfl, by rw [hU], by rw [hU]; exact hP, va_K.moved hW.alike hK, hD.weaken (fun _ _ _ _ => trivial)⟩⟩ rfl rfl hsz rfl (lv_room hst) hd hc) hS (fun q _ h => hFc q h) hFc (fun r u t H1 locs1 ht hvm hw hBu hz1 hk1 hS1 => ?_)
  obtain ⟨rfl, rfl⟩ := hw
  obtain ⟨hP1, hK1, hD1⟩ := hBu
  rw [ht] at hP1
  exact kk H1 locs1 hP1 (hD1.weaken (fun k q _ h => hFc q.1 h)) hS1
set_option maxHeartbeats 4000000 in
set_option maxRecDepth 100000 in
theorem cm0_write3 (l : Launch) (dC : Nat → ClassId) (dI : Nat → Nat → Nat) (A : Nat → Nat) (cI : ClassId) (σ : OS) (sz : Nat) (i : Nat) (x : Int32) (hi : i < 360) : Met l yX0_write wsX0_write (rk 1) (va_Pc [.ref (A 0), .ref (A 3), .int (nI i), .int x] (oPre (dC, dI) A cI σ sz)) (va_Qi (fun r u => r = bI (f_ok σ (f_add (oL σ i) x)) ∧ u = f_wr3 σ i x) (oB (dC, dI) A cI (oX A cI σ sz)) (oX A cI σ sz)) 0 0 (oX A cI σ sz) := by
  refine Met.ofW (cc := cX0_write) (maxL := 5) (ret := (some .boolean)) (by decide) rfl ?_
  intro p e s m args below meth c s₁ B hml hv
  obtain ⟨rfl, hsz, hP, hK, hD0⟩ := hv
  have hx := B.exec
  have hb := B.bytes
  have hr := B.returns
  have hB : ∀ w ∈ bX0, w.before _ s = true := fun w h => atoms_spec (ws := wsX0_write) B.pre w (List.mem_cons_of_mem _ h)
  have hown : s.vm.findClass RX0 = some m.cls := findClass_of_methodNamed B.named
  have hlocks := B.notSynchronized
  subst hsz
  have hD : va_D (oX A cI σ s.heap.size) (wO A cI σ) := hD0.self (sz := s.heap.size)
  have hA : ∀ q : Nat, s.heap.size ≤ q → oX A cI σ s.heap.size q := fun q h => Or.inr h
  generalize oX A cI σ s.heap.size = AA at hD hA ⊢
  have hS : va_S AA s.heap s.heap [] := va_S.rf
  have hl := lv_entry ([.ref (A 0), .ref (A 3), .int (nI i), .int x]) (n := 5) (Nat.le_of_ble_eq_true rfl)
  rw [lg_entry_eq]
  generalize (lg_sl ([.ref (A 0), .ref (A 3), .int (nI i), .int x]) ++ List.replicate (5 - (lg_sl ([.ref (A 0), .ref (A 3), .int (nI i), .int x])).length) Slot.unset).toArray = ls at hl ⊢
  have hl : lv_has ls 5 [(0, .ref (A 0)), (1, .ref (A 3)), (2, .int (nI i)), (3, .int x)] := hl
  refine lv_iload_n hx hb dX0_write_0 rfl (lv_at hl 3 rfl) ?_
  refine lv_aload_n hx hb dX0_write_1 rfl (lv_at hl 1 rfl) ?_
  refine lv_iload_n hx hb dX0_write_2 rfl (lv_at hl 2 rfl) ?_
  refine va_iald (D := (dC, dI)) (i := (nI i)) hx hb hK hP 3 0 rfl rfl (vp_in_nI hi (by decide)) dX0_write_3 ?_
  rw [show ((nI i)).toNatClampNeg = i from nI_clamp (by omega)]
  refine lv_iconst (v := (-1)) hx hb dX0_write_4 (by decide) ?_
  refine lv_ixor hx hb dX0_write_5 ?_
  refine lv_iand hx hb dX0_write_6 ?_
  refine lv_topi (fun a ea => ?_)
  have ea : a = f_add (oL σ i) x := ea
  refine lv_istore hx hb dX0_write_7 hl (by decide) rfl (fun ls hl => ?_)
  have hl : lv_has ls 5 [(4, .int a), (0, .ref (A 0)), (1, .ref (A 3)), (2, .int (nI i)), (3, .int x)] := hl
  refine lv_iload hx hb dX0_write_9 (lv_at hl 0 rfl) ?_
  refine lv_if_ne (tgt := 16) hx hb dX0_write_11 rfl (fun h1 => ?_) (fun h1 => ?_)
  · skip
    refine lv_aload_n hx hb dX0_write_16 rfl (lv_at hl 1 rfl) ?_
    refine va_get (D := (dC, dI)) (ci := 0) (v := .int (oUn σ)) (C := RX0) (T := TX0) (N := 12) hx hb hB inX0 hown hK hP 0 rfl rfl 6 (by decide) (hB _ mX0_f_writesToFailure) (fun _ h9 => h9) rfl dX0_write_17 ?_
    refine lv_if_ne (tgt := 30) hx hb dX0_write_20 rfl (fun h2 => ?_) (fun h2 => ?_)
    · skip
      refine lv_aload_n hx hb dX0_write_30 rfl (lv_at hl 1 rfl) ?_
      refine va_get (D := (dC, dI)) (ci := 0) (v := .int (oUn σ)) (C := RX0) (T := TX0) (N := 12) hx hb hB inX0 hown hK hP 0 rfl rfl 6 (by decide) (hB _ mX0_f_writesToFailure) (fun _ h9 => h9) rfl dX0_write_31 ?_
      refine lv_if_le (tgt := 47) hx hb dX0_write_34 rfl (fun h3 => ?_) (fun h3 => ?_)
      · skip
        refine lv_aload_n hx hb dX0_write_47 rfl (lv_at hl 2 rfl) ?_
        refine lv_iload_n hx hb dX0_write_48 rfl (lv_at hl 3 rfl) ?_
        refine lv_dup2_11 hx hb dX0_write_49 rfl rfl ?_
        refine va_iald (D := (dC, dI)) (i := (nI i)) hx hb hK hP 3 0 rfl rfl (vp_in_nI hi (by decide)) dX0_write_50 ?_
        rw [show ((nI i)).toNatClampNeg = i from nI_clamp (by omega)]
        refine lv_iload hx hb dX0_write_51 (lv_at hl 0 rfl) ?_
        refine lv_ior hx hb dX0_write_53 ?_
        refine va_iast (D := (dC, dI)) (i := (nI i)) (x := (((oL σ) (i)) ||| a)) hx hb hK hP hD hS 3 0 rfl rfl (vp_in_nI hi (by decide)) dX0_write_54 (fun H locs hP hD hS => ?_)
        rw [show ((nI i)).toNatClampNeg = i from nI_clamp (by omega)] at hP hD
        have hP : va_P (dC, dI) vwCl (wO A cI (mkO (oW σ) (oT σ) (upd (oL σ) (i) ((((oL σ) (i)) ||| a))) (oSet σ) (oWr σ) (oOn σ) (oUn σ) (oK σ) (oV σ) (oP σ) (oBo σ) (oBs σ))) H := hP
        have hD : va_D AA (wO A cI (mkO (oW σ) (oT σ) (upd (oL σ) (i) ((((oL σ) (i)) ||| a))) (oSet σ) (oWr σ) (oOn σ) (oUn σ) (oK σ) (oV σ) (oP σ) (oBo σ) (oBs σ))) := hD
        refine lv_aload_n hx hb dX0_write_55 rfl (lv_at hl 1 rfl) ?_
        refine lv_dup hx hb dX0_write_56 rfl ?_
        refine va_get (D := (dC, dI)) (ci := 0) (v := .int (oSet σ)) (C := RX0) (T := TX0) (N := 12) hx hb hB inX0 hown hK hP 0 rfl rfl 3 (by decide) (hB _ mX0_f_setCells) (fun _ h9 => h9) rfl dX0_write_57 ?_
        refine lv_iload hx hb dX0_write_60 (lv_at hl 0 rfl) ?_
        refine ck6_bitCount hx hb hml hown hB hl.1  dX0_write_62 (Nat.le_of_ble_eq_true rfl) (Nat.le_of_ble_eq_true rfl) ⟨Nat.zero_le _, Nat.zero_le _⟩ (Nat.le_of_ble_eq_true rfl) ?_
        refine lv_iadd hx hb dX0_write_65 ?_
        refine va_put (D := (dC, dI)) (ci := 0) (v := .int ((oSet σ) + (f_bc a))) (ty := .int) (C := RX0) (T := TX0) (N := 12) hx hb hB inX0 tyX0 tyX0_ok nmX0 hown hK hP hD hS 0 rfl rfl 3 (by decide) (hB _ mX0_f_setCells) (fun _ h9 => h9) rfl (by decide +kernel) rfl rfl (Nat.le_of_ble_eq_true rfl) dX0_write_66 (fun H locs hP hD hS => ?_)
        have hP : va_P (dC, dI) vwCl (wO A cI (mkO (oW σ) (oT σ) (upd (oL σ) (i) ((((oL σ) (i)) ||| a))) (((oSet σ) + (f_bc a))) (oWr σ) (oOn σ) (oUn σ) (oK σ) (oV σ) (oP σ) (oBo σ) (oBs σ))) H := hP
        have hD : va_D AA (wO A cI (mkO (oW σ) (oT σ) (upd (oL σ) (i) ((((oL σ) (i)) ||| a))) (((oSet σ) + (f_bc a))) (oWr σ) (oOn σ) (oUn σ) (oK σ) (oV σ) (oP σ) (oBo σ) (oBs σ))) := hD
        refine lv_aload_n hx hb dX0_write_69 rfl (lv_at hl 1 rfl) ?_
        refine lv_dup hx hb dX0_write_70 rfl ?_
        refine va_get (D := (dC, dI)) (ci := 0) (v := .int (oWr σ)) (C := RX0) (T := TX0) (N := 12) hx hb hB inX0 hown hK hP 0 rfl rfl 4 (by decide) (hB _ mX0_f_writes) (fun _ h9 => h9) rfl dX0_write_71 ?_
        refine lv_iconst (v := 1) hx hb dX0_write_74 (by decide) ?_
        refine lv_iadd hx hb dX0_write_75 ?_
        refine va_put (D := (dC, dI)) (ci := 0) (v := .int ((oWr σ) + 1)) (ty := .int) (C := RX0) (T := TX0) (N := 12) hx hb hB inX0 tyX0 tyX0_ok nmX0 hown hK hP hD hS 0 rfl rfl 4 (by decide) (hB _ mX0_f_writes) (fun _ h9 => h9) rfl (by decide +kernel) rfl rfl (Nat.le_of_ble_eq_true rfl) dX0_write_76 (fun H locs hP hD hS => ?_)
        have hP : va_P (dC, dI) vwCl (wO A cI (mkO (oW σ) (oT σ) (upd (oL σ) (i) ((((oL σ) (i)) ||| a))) (((oSet σ) + (f_bc a))) (((oWr σ) + 1)) (oOn σ) (oUn σ) (oK σ) (oV σ) (oP σ) (oBo σ) (oBs σ))) H := hP
        have hD : va_D AA (wO A cI (mkO (oW σ) (oT σ) (upd (oL σ) (i) ((((oL σ) (i)) ||| a))) (((oSet σ) + (f_bc a))) (((oWr σ) + 1)) (oOn σ) (oUn σ) (oK σ) (oV σ) (oP σ) (oBo σ) (oBs σ))) := hD
        refine lv_iconst (v := 1) hx hb dX0_write_79 (by decide) ?_
        exact W.zret (v := 1) hx hb hr (rfl) (fun t ht hW => ⟨⟨1, mkO (oW σ) (oT σ) (upd (oL σ) (i) ((((oL σ) (i)) ||| a))) (((oSet σ) + (f_bc a))) (((oWr σ) + 1)) (oOn σ) (oUn σ) (oK σ) (oV σ) (oP σ) (oBo σ) (oBs σ), rfl, ⟨by simp [f_ok, bI, h2], by unfold f_wr3; rw [if_neg (by rw [← ea]; exact h1), if_neg h2, ← ea, show f_dec (oUn σ) = _ from if_pos h3]⟩, by rw [ht]; exact hP, va_K.moved hW.alike hK, hD⟩, hS.F ht⟩) hS.2.2 dX0_write_80
      · skip
        refine lv_aload_n hx hb dX0_write_37 rfl (lv_at hl 1 rfl) ?_
        refine lv_dup hx hb dX0_write_38 rfl ?_
        refine va_get (D := (dC, dI)) (ci := 0) (v := .int (oUn σ)) (C := RX0) (T := TX0) (N := 12) hx hb hB inX0 hown hK hP 0 rfl rfl 6 (by decide) (hB _ mX0_f_writesToFailure) (fun _ h9 => h9) rfl dX0_write_39 ?_
        refine lv_iconst (v := 1) hx hb dX0_write_42 (by decide) ?_
        refine lv_isub hx hb dX0_write_43 ?_
        refine va_put (D := (dC, dI)) (ci := 0) (v := .int ((oUn σ) - 1)) (ty := .int) (C := RX0) (T := TX0) (N := 12) hx hb hB inX0 tyX0 tyX0_ok nmX0 hown hK hP hD hS 0 rfl rfl 6 (by decide) (hB _ mX0_f_writesToFailure) (fun _ h9 => h9) rfl (by decide +kernel) rfl rfl (Nat.le_of_ble_eq_true rfl) dX0_write_44 (fun H locs hP hD hS => ?_)
        have hP : va_P (dC, dI) vwCl (wO A cI (mkO (oW σ) (oT σ) (oL σ) (oSet σ) (oWr σ) (oOn σ) (((oUn σ) - 1)) (oK σ) (oV σ) (oP σ) (oBo σ) (oBs σ))) H := hP
        have hD : va_D AA (wO A cI (mkO (oW σ) (oT σ) (oL σ) (oSet σ) (oWr σ) (oOn σ) (((oUn σ) - 1)) (oK σ) (oV σ) (oP σ) (oBo σ) (oBs σ))) := hD
        refine lv_aload_n hx hb dX0_write_47 rfl (lv_at hl 2 rfl) ?_
        refine lv_iload_n hx hb dX0_write_48 rfl (lv_at hl 3 rfl) ?_
        refine lv_dup2_11 hx hb dX0_write_49 rfl rfl ?_
        refine va_iald (D := (dC, dI)) (i := (nI i)) hx hb hK hP 3 0 rfl rfl (vp_in_nI hi (by decide)) dX0_write_50 ?_
        rw [show ((nI i)).toNatClampNeg = i from nI_clamp (by omega)]
        refine lv_iload hx hb dX0_write_51 (lv_at hl 0 rfl) ?_
        refine lv_ior hx hb dX0_write_53 ?_
        refine va_iast (D := (dC, dI)) (i := (nI i)) (x := (((oL σ) (i)) ||| a)) hx hb hK hP hD hS 3 0 rfl rfl (vp_in_nI hi (by decide)) dX0_write_54 (fun H locs hP hD hS => ?_)
        rw [show ((nI i)).toNatClampNeg = i from nI_clamp (by omega)] at hP hD
        have hP : va_P (dC, dI) vwCl (wO A cI (mkO (oW σ) (oT σ) (upd (oL σ) (i) ((((oL σ) (i)) ||| a))) (oSet σ) (oWr σ) (oOn σ) (((oUn σ) - 1)) (oK σ) (oV σ) (oP σ) (oBo σ) (oBs σ))) H := hP
        have hD : va_D AA (wO A cI (mkO (oW σ) (oT σ) (upd (oL σ) (i) ((((oL σ) (i)) ||| a))) (oSet σ) (oWr σ) (oOn σ) (((oUn σ) - 1)) (oK σ) (oV σ) (oP σ) (oBo σ) (oBs σ))) := hD
        refine lv_aload_n hx hb dX0_write_55 rfl (lv_at hl 1 rfl) ?_
        refine lv_dup hx hb dX0_write_56 rfl ?_
        refine va_get (D := (dC, dI)) (ci := 0) (v := .int (oSet σ)) (C := RX0) (T := TX0) (N := 12) hx hb hB inX0 hown hK hP 0 rfl rfl 3 (by decide) (hB _ mX0_f_setCells) (fun _ h9 => h9) rfl dX0_write_57 ?_
        refine lv_iload hx hb dX0_write_60 (lv_at hl 0 rfl) ?_
        refine ck6_bitCount hx hb hml hown hB hl.1  dX0_write_62 (Nat.le_of_ble_eq_true rfl) (Nat.le_of_ble_eq_true rfl) ⟨Nat.zero_le _, Nat.zero_le _⟩ (Nat.le_of_ble_eq_true rfl) ?_
        refine lv_iadd hx hb dX0_write_65 ?_
        refine va_put (D := (dC, dI)) (ci := 0) (v := .int ((oSet σ) + (f_bc a))) (ty := .int) (C := RX0) (T := TX0) (N := 12) hx hb hB inX0 tyX0 tyX0_ok nmX0 hown hK hP hD hS 0 rfl rfl 3 (by decide) (hB _ mX0_f_setCells) (fun _ h9 => h9) rfl (by decide +kernel) rfl rfl (Nat.le_of_ble_eq_true rfl) dX0_write_66 (fun H locs hP hD hS => ?_)
        have hP : va_P (dC, dI) vwCl (wO A cI (mkO (oW σ) (oT σ) (upd (oL σ) (i) ((((oL σ) (i)) ||| a))) (((oSet σ) + (f_bc a))) (oWr σ) (oOn σ) (((oUn σ) - 1)) (oK σ) (oV σ) (oP σ) (oBo σ) (oBs σ))) H := hP
        have hD : va_D AA (wO A cI (mkO (oW σ) (oT σ) (upd (oL σ) (i) ((((oL σ) (i)) ||| a))) (((oSet σ) + (f_bc a))) (oWr σ) (oOn σ) (((oUn σ) - 1)) (oK σ) (oV σ) (oP σ) (oBo σ) (oBs σ))) := hD
        refine lv_aload_n hx hb dX0_write_69 rfl (lv_at hl 1 rfl) ?_
        refine lv_dup hx hb dX0_write_70 rfl ?_
        refine va_get (D := (dC, dI)) (ci := 0) (v := .int (oWr σ)) (C := RX0) (T := TX0) (N := 12) hx hb hB inX0 hown hK hP 0 rfl rfl 4 (by decide) (hB _ mX0_f_writes) (fun _ h9 => h9) rfl dX0_write_71 ?_
        refine lv_iconst (v := 1) hx hb dX0_write_74 (by decide) ?_
        refine lv_iadd hx hb dX0_write_75 ?_
        refine va_put (D := (dC, dI)) (ci := 0) (v := .int ((oWr σ) + 1)) (ty := .int) (C := RX0) (T := TX0) (N := 12) hx hb hB inX0 tyX0 tyX0_ok nmX0 hown hK hP hD hS 0 rfl rfl 4 (by decide) (hB _ mX0_f_writes) (fun _ h9 => h9) rfl (by decide +kernel) rfl rfl (Nat.le_of_ble_eq_true rfl) dX0_write_76 (fun H locs hP hD hS => ?_)
        have hP : va_P (dC, dI) vwCl (wO A cI (mkO (oW σ) (oT σ) (upd (oL σ) (i) ((((oL σ) (i)) ||| a))) (((oSet σ) + (f_bc a))) (((oWr σ) + 1)) (oOn σ) (((oUn σ) - 1)) (oK σ) (oV σ) (oP σ) (oBo σ) (oBs σ))) H := hP
        have hD : va_D AA (wO A cI (mkO (oW σ) (oT σ) (upd (oL σ) (i) ((((oL σ) (i)) ||| a))) (((oSet σ) + (f_bc a))) (((oWr σ) + 1)) (oOn σ) (((oUn σ) - 1)) (oK σ) (oV σ) (oP σ) (oBo σ) (oBs σ))) := hD
        refine lv_iconst (v := 1) hx hb dX0_write_79 (by decide) ?_
        exact W.zret (v := 1) hx hb hr (rfl) (fun t ht hW => ⟨⟨1, mkO (oW σ) (oT σ) (upd (oL σ) (i) ((((oL σ) (i)) ||| a))) (((oSet σ) + (f_bc a))) (((oWr σ) + 1)) (oOn σ) (((oUn σ) - 1)) (oK σ) (oV σ) (oP σ) (oBo σ) (oBs σ), rfl, ⟨by simp [f_ok, bI, h2], by unfold f_wr3; rw [if_neg (by rw [← ea]; exact h1), if_neg h2, ← ea, show f_dec (oUn σ) = _ from if_neg h3]⟩, by rw [ht]; exact hP, va_K.moved hW.alike hK, hD⟩, hS.F ht⟩) hS.2.2 dX0_write_80
    · skip
      refine lv_aload_n hx hb dX0_write_23 rfl (lv_at hl 1 rfl) ?_
      refine lv_iconst (v := 0) hx hb dX0_write_24 (by decide) ?_
      refine va_put (D := (dC, dI)) (ci := 0) (v := .int 0) (ty := .boolean) (C := RX0) (T := TX0) (N := 12) hx hb hB inX0 tyX0 tyX0_ok nmX0 hown hK hP hD hS 0 rfl rfl 5 (by decide) (hB _ mX0_f_powered) (fun _ h9 => h9) rfl (by decide +kernel) rfl rfl (Nat.le_of_ble_eq_true rfl) dX0_write_25 (fun H locs hP hD hS => ?_)
      have hP : va_P (dC, dI) vwCl (wO A cI (mkO (oW σ) (oT σ) (oL σ) (oSet σ) (oWr σ) (0) (oUn σ) (oK σ) (oV σ) (oP σ) (oBo σ) (oBs σ))) H := hP
      have hD : va_D AA (wO A cI (mkO (oW σ) (oT σ) (oL σ) (oSet σ) (oWr σ) (0) (oUn σ) (oK σ) (oV σ) (oP σ) (oBo σ) (oBs σ))) := hD
      refine lv_iconst (v := 0) hx hb dX0_write_28 (by decide) ?_
      exact W.zret (v := 0) hx hb hr (rfl) (fun t ht hW => ⟨⟨0, mkO (oW σ) (oT σ) (oL σ) (oSet σ) (oWr σ) (0) (oUn σ) (oK σ) (oV σ) (oP σ) (oBo σ) (oBs σ), rfl, ⟨by rw [← ea]; simp [f_ok, bI, h1, h2], by unfold f_wr3; rw [if_neg (by rw [← ea]; exact h1), if_pos (by simpa using h2)]⟩, by rw [ht]; exact hP, va_K.moved hW.alike hK, hD⟩, hS.F ht⟩) hS.2.2 dX0_write_29
  · skip
    refine lv_iconst (v := 1) hx hb dX0_write_14 (by decide) ?_
    exact W.zret (v := 1) hx hb hr (rfl) (fun t ht hW => ⟨⟨1, σ, rfl, ⟨by rw [← ea]; simp [f_ok, bI, h1], by unfold f_wr3; rw [if_pos (by rw [← ea]; simpa using h1)]⟩, by rw [ht]; exact hP, va_K.moved hW.alike hK, hD⟩, hS.F ht⟩) hS.2.2 dX0_write_15
set_option maxRecDepth 100000 in
theorem ck0_write3 {p : Program} {l : Launch} {e : Env} {R : Room} {s : State} {m : MethodId} {args : Array Value} {below : List Frame} {meth : Method} {c : Code} {H : Heap} {locs : List Loc} {cells slots : Nat} {Q : State → Prop} {cc : ByteArray} {nL pc : Nat} {ls : Array Slot} {rest : List Value} {A0 : Nat → Prop} {H0 : Heap} {dC : Nat → ClassId} {dI : Nat → Nat → Nat} {A : Nat → Nat} {cI : ClassId} {σ : OS} {i : Nat} {x : Int32} (hx : p.tables.exec = Jvm.exec) (hb : c.code = cc) (hml : c.maxLocals = nL) (hown : s.vm.findClass RX0 = some m.cls) (hB : ∀ w ∈ bX0, w.before args s = true) (hsz : ls.size = nL) (hP : va_P (dC, dI) vwCl (wO A cI σ) H) (hK : va_K (dC, dI) vwCl [(cI, .int)] s) (hD : va_D A0 (wO A cI σ)) (hS : va_S A0 H0 H locs) (hA : ∀ q, H0.size ≤ q → A0 q) (hi : i < 360) (hd : decode cc pc = .ok (.invokevirtual 152, 3)) (hF : 2 ≤ R.frames) (hLo : 54 ≤ R.locals) (hc : cells ≤ R.cells ∧ slots ≤ R.slots) (hst : (rest.map fun v => v.category).sum ≤ 8)
    (kk : ∀ (H1 : Heap) (locs1 : List Loc), va_P (dC, dI) vwCl (wO A cI (f_wr3 σ i x)) H1 → va_D A0 (wO A cI (f_wr3 σ i x)) → va_S A0 H0 H1 locs1 → W p l e R s m args below meth c H1 locs1 cells slots Q (F0 m (pc + 3) ls (.int (bI (f_ok σ (f_add (oL σ i) x))) :: rest))) : W p l e R s m args below meth c H locs cells slots Q (F0 m pc ls (.int x :: .int (nI i) :: .ref (A 3) :: .ref (A 0) :: rest)) := by
  have hFc := va_free (wc := wO A cI σ) hD hS hA [0, 1, 2, 3, 4, 5, 6] rfl
  refine va_calli (va_runV (C := RX0) (As := [.ref (A 3), .int (nI i), .int x]) (rest := rest) ⟨hx, hb, hml, hown, hB⟩ (cm0_write3 l dC dI A cI σ H.size i x hi) (cwV 3 hB goX0_write rfl rfl rfl ⟨rfl, by decide, by decide, by decide +kernel⟩ ⟨hF, hLo⟩) ⟨fun a U g mk q => by obtain ⟨q0, q1, qP, qK, qD⟩ := q; exact ⟨q0, q1, qP, va_K.moved (u := U) (U := U.calling g mk a) (Vm.Alike.refl U.vm) qK, qD⟩, va_recv (q := (RX0, TX0, 12)) hK hP rfl (q0 := 0) rfl, fun U hU hW => ⟨rfl, by rw [hU], by rw [hU]; exact hP, va_K.moved hW.alike hK, hD.weaken (fun _ _ _ _ => trivial)⟩⟩ rfl rfl hsz rfl (lv_room hst) hd hc) hS (fun q _ h => hFc q h) hFc (fun r u t H1 locs1 ht hvm hw hBu hz1 hk1 hS1 => ?_)
  obtain ⟨rfl, rfl⟩ := hw
  obtain ⟨hP1, hK1, hD1⟩ := hBu
  rw [ht] at hP1
  exact kk H1 locs1 hP1 (hD1.weaken (fun k q _ h => hFc q.1 h)) hS1
set_option maxHeartbeats 4000000 in
set_option maxRecDepth 100000 in
theorem cm0_writePut (l : Launch) (dC : Nat → ClassId) (dI : Nat → Nat → Nat) (A : Nat → Nat) (cI : ClassId) (σ : OS) (sz : Nat) (key : Int32) (v : Int32) (i : Nat) (hi : i < 160) : Met l yX0_writePut wsX0_writePut (rk 2) (va_Pc [.ref (A 0), .int key, .int v, .int (nI i)] (oPre (dC, dI) A cI σ sz)) (va_Qi (fun r u => r = bI (f_put σ i key v).1 ∧ u = (f_put σ i key v).2) (oB (dC, dI) A cI (oX A cI σ sz)) (oX A cI σ sz)) 0 0 (oX A cI σ sz) := by
  refine Met.ofW (cc := cX0_writePut) (maxL := 4) (ret := (some .boolean)) (by decide) rfl ?_
  intro p e s m args below meth c s₁ B hml hv
  obtain ⟨rfl, hsz, hP, hK, hD0⟩ := hv
  have hx := B.exec
  have hb := B.bytes
  have hr := B.returns
  have hB : ∀ w ∈ bX0, w.before _ s = true := fun w h => atoms_spec (ws := wsX0_writePut) B.pre w (List.mem_cons_of_mem _ h)
  have hown : s.vm.findClass RX0 = some m.cls := findClass_of_methodNamed B.named
  have hlocks := B.notSynchronized
  subst hsz
  have hD : va_D (oX A cI σ s.heap.size) (wO A cI σ) := hD0.self (sz := s.heap.size)
  have hA : ∀ q : Nat, s.heap.size ≤ q → oX A cI σ s.heap.size q := fun q h => Or.inr h
  generalize oX A cI σ s.heap.size = AA at hD hA ⊢
  have hS : va_S AA s.heap s.heap [] := va_S.rf
  have hl := lv_entry ([.ref (A 0), .int key, .int v, .int (nI i)]) (n := 4) (Nat.le_of_ble_eq_true rfl)
  rw [lg_entry_eq]
  generalize (lg_sl ([.ref (A 0), .int key, .int v, .int (nI i)]) ++ List.replicate (4 - (lg_sl ([.ref (A 0), .int key, .int v, .int (nI i)])).length) Slot.unset).toArray = ls at hl ⊢
  have hl : lv_has ls 4 [(0, .ref (A 0)), (1, .int key), (2, .int v), (3, .int (nI i))] := hl
  refine lv_aload_n hx hb dX0_writePut_0 rfl (lv_at hl 0 rfl) ?_
  refine lv_aload_n hx hb dX0_writePut_1 rfl (lv_at hl 0 rfl) ?_
  refine va_get (D := (dC, dI)) (ci := 0) (v := .ref (A 1)) (C := RX0) (T := TX0) (N := 12) hx hb hB inX0 hown hK hP 0 rfl rfl 0 (by decide) (hB _ mX0_f_wordRow) (fun _ h9 => h9) rfl dX0_writePut_2 ?_
  refine lv_iload_n hx hb dX0_writePut_5 rfl (lv_at hl 3 rfl) ?_
  refine lv_aload_n hx hb dX0_writePut_6 rfl (lv_at hl 0 rfl) ?_
  refine va_get (D := (dC, dI)) (ci := 0) (v := .ref (A 1)) (C := RX0) (T := TX0) (N := 12) hx hb hB inX0 hown hK hP 0 rfl rfl 0 (by decide) (hB _ mX0_f_wordRow) (fun _ h9 => h9) rfl dX0_writePut_7 ?_
  refine lv_iload_n hx hb dX0_writePut_10 rfl (lv_at hl 3 rfl) ?_
  refine va_iald (D := (dC, dI)) (i := (nI i)) hx hb hK hP 1 0 rfl rfl (vp_in_nI hi (by decide)) dX0_writePut_11 ?_
  rw [show ((nI i)).toNatClampNeg = i from nI_clamp (by omega)]
  refine lv_iload_n hx hb dX0_writePut_12 rfl (lv_at hl 2 rfl) ?_
  refine ck0_patternOfWord hx hb hml hown hB hl.1  dX0_writePut_13 (Nat.le_of_ble_eq_true rfl) (Nat.le_of_ble_eq_true rfl) ⟨Nat.zero_le _, Nat.zero_le _⟩ (Nat.le_of_ble_eq_true rfl) ?_
  refine ck0_write1 hx hb hml hown hB hl.1 hP hK hD hS hA hi dX0_writePut_16 (Nat.le_of_ble_eq_true rfl) (Nat.le_of_ble_eq_true rfl) ⟨Nat.zero_le _, Nat.zero_le _⟩ (Nat.le_of_ble_eq_true rfl) (fun H locs hP hD hS => ?_)
  refine lv_if_eq (tgt := 42) hx hb dX0_writePut_19 rfl (fun h1 => ?_) (fun h1 => ?_)
  · skip
    refine lv_iconst (v := 0) hx hb dX0_writePut_42 (by decide) ?_
    exact W.zret (v := 0) hx hb hr (rfl) (fun t ht hW => ⟨⟨0, f_wr1 σ i (f_pw (oW σ i) v), rfl, ⟨by rw [f_put, if_neg (by rw [bI_0.mp h1]; decide)]; rfl, by rw [f_put, if_neg (by rw [bI_0.mp h1]; decide)]⟩, by rw [ht]; exact hP, va_K.moved hW.alike hK, hD⟩, hS.F ht⟩) hS.2.2 dX0_writePut_43
  · skip
    refine lv_aload_n hx hb dX0_writePut_22 rfl (lv_at hl 0 rfl) ?_
    refine lv_aload_n hx hb dX0_writePut_23 rfl (lv_at hl 0 rfl) ?_
    refine va_get (D := (dC, dI)) (ci := 0) (v := .ref (A 2)) (C := RX0) (T := TX0) (N := 12) hx hb hB inX0 hown hK hP 0 rfl rfl 1 (by decide) (hB _ mX0_f_tagRow) (fun _ h9 => h9) rfl dX0_writePut_24 ?_
    refine lv_iload_n hx hb dX0_writePut_27 rfl (lv_at hl 3 rfl) ?_
    refine lv_iload_n hx hb dX0_writePut_28 rfl (lv_at hl 1 rfl) ?_
    refine ck0_tagOf hx hb hml hown hB hl.1  dX0_writePut_29 (Nat.le_of_ble_eq_true rfl) (Nat.le_of_ble_eq_true rfl) ⟨Nat.zero_le _, Nat.zero_le _⟩ (Nat.le_of_ble_eq_true rfl) ?_
    refine ck0_write2 hx hb hml hown hB hl.1 hP hK hD hS hA hi dX0_writePut_32 (Nat.le_of_ble_eq_true rfl) (Nat.le_of_ble_eq_true rfl) ⟨Nat.zero_le _, Nat.zero_le _⟩ (Nat.le_of_ble_eq_true rfl) (fun H locs hP hD hS => ?_)
    refine lv_if_eq (tgt := 42) hx hb dX0_writePut_35 rfl (fun h2 => ?_) (fun h2 => ?_)
    · skip
      refine lv_iconst (v := 0) hx hb dX0_writePut_42 (by decide) ?_
      exact W.zret (v := 0) hx hb hr (rfl) (fun t ht hW => ⟨⟨0, f_wr2 (f_wr1 σ i (f_pw (oW σ i) v)) i (key + 128), rfl, ⟨by rw [f_put, if_pos (bI_n0.mp h1)]; exact h2.symm, by rw [f_put, if_pos (bI_n0.mp h1)]⟩, by rw [ht]; exact hP, va_K.moved hW.alike hK, hD⟩, hS.F ht⟩) hS.2.2 dX0_writePut_43
    · skip
      refine lv_iconst (v := 1) hx hb dX0_writePut_38 (by decide) ?_
      refine lv_goto (tgt := 43) hx hb dX0_writePut_39 rfl ?_
      exact W.zret (v := 1) hx hb hr (rfl) (fun t ht hW => ⟨⟨1, f_wr2 (f_wr1 σ i (f_pw (oW σ i) v)) i (key + 128), rfl, ⟨by rw [f_put, if_pos (bI_n0.mp h1)]; exact (congrArg bI (bI_n0.mp h2)).symm, by rw [f_put, if_pos (bI_n0.mp h1)]⟩, by rw [ht]; exact hP, va_K.moved hW.alike hK, hD⟩, hS.F ht⟩) hS.2.2 dX0_writePut_43
set_option maxRecDepth 100000 in
theorem ck0_writePut {p : Program} {l : Launch} {e : Env} {R : Room} {s : State} {m : MethodId} {args : Array Value} {below : List Frame} {meth : Method} {c : Code} {H : Heap} {locs : List Loc} {cells slots : Nat} {Q : State → Prop} {cc : ByteArray} {nL pc : Nat} {ls : Array Slot} {rest : List Value} {A0 : Nat → Prop} {H0 : Heap} {dC : Nat → ClassId} {dI : Nat → Nat → Nat} {A : Nat → Nat} {cI : ClassId} {σ : OS} {key : Int32} {v : Int32} {i : Nat} (hx : p.tables.exec = Jvm.exec) (hb : c.code = cc) (hml : c.maxLocals = nL) (hown : s.vm.findClass RX0 = some m.cls) (hB : ∀ w ∈ bX0, w.before args s = true) (hsz : ls.size = nL) (hP : va_P (dC, dI) vwCl (wO A cI σ) H) (hK : va_K (dC, dI) vwCl [(cI, .int)] s) (hD : va_D A0 (wO A cI σ)) (hS : va_S A0 H0 H locs) (hA : ∀ q, H0.size ≤ q → A0 q) (hi : i < 160) (hd : decode cc pc = .ok (.invokevirtual 65, 3)) (hF : 3 ≤ R.frames) (hLo : 83 ≤ R.locals) (hc : cells ≤ R.cells ∧ slots ≤ R.slots) (hst : (rest.map fun v => v.category).sum ≤ 8)
    (kk : ∀ (H1 : Heap) (locs1 : List Loc), va_P (dC, dI) vwCl (wO A cI ((f_put σ i key v).2)) H1 → va_D A0 (wO A cI ((f_put σ i key v).2)) → va_S A0 H0 H1 locs1 → W p l e R s m args below meth c H1 locs1 cells slots Q (F0 m (pc + 3) ls (.int (bI (f_put σ i key v).1) :: rest))) : W p l e R s m args below meth c H locs cells slots Q (F0 m pc ls (.int (nI i) :: .int v :: .int key :: .ref (A 0) :: rest)) := by
  have hFc := va_free (wc := wO A cI σ) hD hS hA [0, 1, 2, 3, 4, 5, 6] rfl
  refine va_calli (va_runV (C := RX0) (As := [.int key, .int v, .int (nI i)]) (rest := rest) ⟨hx, hb, hml, hown, hB⟩ (cm0_writePut l dC dI A cI σ H.size key v i hi) (cwV 3 hB goX0_writePut rfl rfl rfl ⟨rfl, by decide, by decide, by decide +kernel⟩ ⟨hF, hLo⟩) ⟨fun a U g mk q => by obtain ⟨q0, q1, qP, qK, qD⟩ := q; exact ⟨q0, q1, qP, va_K.moved (u := U) (U := U.calling g mk a) (Vm.Alike.refl U.vm) qK, qD⟩, va_recv (q := (RX0, TX0, 12)) hK hP rfl (q0 := 0) rfl, fun U hU hW => ⟨rfl, by rw [hU], by rw [hU]; exact hP, va_K.moved hW.alike hK, hD.weaken (fun _ _ _ _ => trivial)⟩⟩ rfl rfl hsz rfl (lv_room hst) hd hc) hS (fun q _ h => hFc q h) hFc (fun r u t H1 locs1 ht hvm hw hBu hz1 hk1 hS1 => ?_)
  obtain ⟨rfl, rfl⟩ := hw
  obtain ⟨hP1, hK1, hD1⟩ := hBu
  rw [ht] at hP1
  exact kk H1 locs1 hP1 (hD1.weaken (fun k q _ h => hFc q.1 h)) hS1
