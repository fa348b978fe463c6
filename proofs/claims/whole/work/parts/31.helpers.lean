set_option maxHeartbeats 4000000 in
set_option maxRecDepth 100000 in
theorem ch_put (l : Launch) (hlt : l.stackTraces = false) (dC : Nat → ClassId) (dI : Nat → Nat → Nat) (A : Nat → Nat) (cI : ClassId) (σ : OS) (O : Nat) (cJ : ClassId) (g : Nat → Int64) (sz : Nat) (key : Int32) (v : Int32) : Met l yL_put wsL_put (rkx 8) (va_Pc [.ref (A 0), .int key, .int v, .ref O] (hPre (dC, dI) A cI σ O cJ g sz)) (va_Qi (fun r u => r = nI (k_put σ key v) ∧ u = hU (k_put σ key v) σ (s_put σ key v) g ((r_put σ key v).toInt64)) (hBo (dC, dI) A cI O cJ (hX A cI σ O cJ g sz)) (hX A cI σ O cJ g sz)) 1 6 (hX A cI σ O cJ g sz) := by
  refine va_MetW (cc := cL_put) (maxL := 5) (ret := some .int) (hh := hh_put) (by decide) rfl ?_
  intro p e s m args below meth c s₁ Bd hml hv
  obtain ⟨rfl, hsz, hP, hK, hD0, hN, hZ, hC⟩ := hv
  have hx := Bd.exec
  have hb := Bd.bytes
  have hr := Bd.returns
  have hts := atoms_spec (ws := wsL_put) Bd.pre
  have htab : c.exceptionTable.toList = tableOf hh_put := vx_table (x := yL_put) Bd (hts _ List.mem_cons_self)
  have hB : ∀ w ∈ bL, w.before _ s = true := fun w h => hts w (List.mem_cons_of_mem _ h)
  have hown : s.vm.findClass RL = some m.cls := findClass_of_methodNamed Bd.named
  have hlocks := Bd.notSynchronized
  subst hsz
  have hD : va_D (hX A cI σ O cJ g s.heap.size) (wH A cI σ O cJ g) := hD0.self (sz := s.heap.size)
  have hA : ∀ q : Nat, s.heap.size ≤ q → hX A cI σ O cJ g s.heap.size q := fun q h => Or.inr h
  generalize hX A cI σ O cJ g s.heap.size = AA at hD hA hZ ⊢
  have hS : va_S AA s.heap s.heap [] := va_S.rf
  have hl := lv_entry ([.ref (A 0), .int key, .int v, .ref O]) (n := 5) (Nat.le_of_ble_eq_true rfl)
  rw [lg_entry_eq]
  generalize (lg_sl ([.ref (A 0), .int key, .int v, .ref O]) ++ List.replicate (5 - (lg_sl ([.ref (A 0), .int key, .int v, .ref O])).length) Slot.unset).toArray = ls at hl ⊢
  have hl : lv_has ls 5 [(0, .ref (A 0)), (1, .int key), (2, .int v), (3, .ref O)] := hl
  refine lv_aload_n hx hb dL_put_0 rfl (lv_at hl 3 rfl) ?_
  refine lv_iconst (v := 0) hx hb dL_put_1 (by decide) ?_
  refine lv_aload_n hx hb dL_put_2 rfl (lv_at hl 0 rfl) ?_
  refine lv_iload_n hx hb dL_put_3 rfl (lv_at hl 1 rfl) ?_
  refine lv_iload_n hx hb dL_put_4 rfl (lv_at hl 2 rfl) ?_
  have hFc := va_free (wc := wO A cI σ) hD hS hA [0, 1, 2, 3, 4, 5, 6] rfl
  have hPc := hP.sub (ws' := wO A cI σ) [0, 1, 2, 3, 4, 5, 6] rfl
  have hDc := hD.sub (ws' := wO A cI σ) [0, 1, 2, 3, 4, 5, 6] (by decide) rfl
  have hKc := hK.sub (tys' := [(cI, .int)]) [0] rfl
  refine vx_calli (vx_runV (C := RX0) (As := [.int key, .int v]) (rest := [.int 0, .ref O]) ⟨hx, hb, hml, hown, hB⟩ (cx0_put l hlt dC dI A cI σ s.heap.size key v) (cwV 2 hB goL_put rfl rfl rfl ⟨rfl, by decide, by decide, by decide +kernel⟩ ⟨Nat.le_of_ble_eq_true rfl, Nat.le_of_ble_eq_true rfl⟩) ⟨fun a U gg mk q => by obtain ⟨q0, ⟨q1, qP, qK, qD⟩, qN, qZ⟩ := q; exact ⟨q0, ⟨q1, qP, va_K.moved (u := U) (U := U.calling gg mk a) (Vm.Alike.refl U.vm) qK, qD⟩, qN.same rfl, qZ.to (U := U.calling gg mk a) (Vm.Alike.refl U.vm) rfl (fun _ h => h)⟩, va_recv (q := (RX0, TX0, 12)) hK hP rfl (q0 := 0) rfl, fun U hU hW => ⟨rfl, ⟨by rw [hU], by rw [hU]; exact hPc, va_K.moved hW.alike hKc, hDc.weaken (fun _ _ _ _ => trivial)⟩, hN.warm hW, hZ.to hW.alike hU (fun q h => hFc q h)⟩⟩ rfl rfl hl.1 rfl (lv_room (Nat.le_of_ble_eq_true rfl)) dL_put_5 ⟨Nat.le_of_ble_eq_true rfl, Nat.le_of_ble_eq_true rfl⟩) hS (fun q _ h => hFc q h) hFc (fun q h1 h2 => absurd h2 (Nat.not_le.mpr h1)) (fun E ce q9 u t H locs ht hvm _ hBX hz1 hk1 hS hce hcv hcl => ?_) (fun r u t H locs ht hvm hw hBu hz1 hk1 hS => ?_)
  · have hP : va_P (dC, dI) vwCl (wH A cI σ O cJ g) H := hP.kept (fun k x hx9 => hk1 x.1 ((hP k x hx9).lt) (Nat.not_le.mpr ((hP k x hx9).lt)))
    rcases hBX with ⟨rfl, hkk⟩ | ⟨rfl, hkk⟩
    · skip
      refine vx_catch hown (E := "java/lang/IllegalArgumentException") (name := "java/lang/IllegalArgumentException") ([] : List ExceptionTableEntry) ⟨0, 10, 13, 13⟩ ([⟨0, 10, 17, 15⟩] : List ExceptionTableEntry) htab (fun z hz => by cases hz) rfl (by decide) (hB _ mL_cl_IAE) (va_Nw.use rfl hN.2.2.2.1) hce hcv hcl ?_
      refine lv_astore hx hb dL_put_13 hl (by decide) rfl (fun ls hl => ?_)
      have hl : lv_has ls 5 [(4, .ref q9), (0, .ref (A 0)), (1, .int key), (2, .int v), (3, .ref O)] := hl
      refine lv_iconst (v := 1) hx hb dL_put_15 (by decide) ?_
      exact W.iret (v := 1) hx hb hr (fun t ht hW => ⟨⟨1, (σ, g), rfl, ⟨by rw [hkk]; rfl, by rw [hU, hkk, if_neg (by decide)]⟩, by rw [ht]; exact hP, va_K.moved hW.alike hK, hD⟩, hS.F ht⟩) hS.2.2 dL_put_16
    · skip
      refine vx_catch hown (E := "java/lang/IllegalStateException") (name := "java/lang/IllegalStateException") ([⟨0, 10, 13, 13⟩] : List ExceptionTableEntry) ⟨0, 10, 17, 15⟩ ([] : List ExceptionTableEntry) htab (fun z hz => by rw [List.mem_singleton.mp hz]; exact Or.inr ⟨by decide, "java/lang/IllegalArgumentException", hB _ mL_cl_IAE, hC.1⟩) rfl (by decide) (hB _ mL_cl_ISE) (va_Nw.use rfl hN.2.2.2.2.1) hce hcv hcl ?_
      refine lv_astore hx hb dL_put_17 hl (by decide) rfl (fun ls hl => ?_)
      have hl : lv_has ls 5 [(4, .ref q9), (0, .ref (A 0)), (1, .int key), (2, .int v), (3, .ref O)] := hl
      refine lv_iconst (v := 2) hx hb dL_put_19 (by decide) ?_
      exact W.iret (v := 2) hx hb hr (fun t ht hW => ⟨⟨2, (σ, g), rfl, ⟨by rw [hkk]; rfl, by rw [hU, hkk, if_neg (by decide)]⟩, by rw [ht]; exact hP, va_K.moved hW.alike hK, hD⟩, hS.F ht⟩) hS.2.2 dL_put_20
  · obtain ⟨hkk, hw1, hw2⟩ := hw
    obtain ⟨hP1, hK1, hD1⟩ := hBu
    rw [ht, hw2] at hP1
    rw [hw2] at hD1
    rw [hw1]
    obtain ⟨hP, hD⟩ := va_join (wr := [(O, .inl (cJ, 1, .inr (.inl g)))]) (w1 := wO A cI (s_put σ key v)) hP hD [0, 1, 2, 3, 4, 5, 6] [7] rfl rfl (by decide) (by decide) hk1 hFc hP1 hD1
    have hP := hP.sub (ws' := wH A cI (s_put σ key v) O cJ g) [1, 2, 3, 4, 5, 6, 7, 0] rfl
    have hD := hD.sub (ws' := wH A cI (s_put σ key v) O cJ g) [1, 2, 3, 4, 5, 6, 7, 0] (by decide) rfl
    refine lv_i2l (v := (r_put σ key v).toInt64) hx hb dL_put_8 rfl ?_
    refine va_last (D := (dC, dI)) (i := nI 0) (x := (r_put σ key v).toInt64) hx hb hK hP hD hS 7 1 rfl rfl (vp_in_nI (n := 0) (by decide) (by decide)) dL_put_9 (fun H locs hP hD hS => ?_)
    have hP : va_P (dC, dI) vwCl (wH A cI (s_put σ key v) O cJ (vp_updL g 0 ((r_put σ key v).toInt64))) H := hP
    have hD : va_D AA (wH A cI (s_put σ key v) O cJ (vp_updL g 0 ((r_put σ key v).toInt64))) := hD
    refine lv_goto (tgt := 21) hx hb dL_put_10 rfl ?_
    refine lv_iconst (v := 0) hx hb dL_put_21 (by decide) ?_
    exact W.iret (v := 0) hx hb hr (fun t ht hW => ⟨⟨0, (s_put σ key v, vp_updL g 0 ((r_put σ key v).toInt64)), rfl, ⟨by rw [hkk]; rfl, by rw [hU, hkk, if_pos rfl]⟩, by rw [ht]; exact hP, va_K.moved hW.alike hK, hD⟩, hS.F ht⟩) hS.2.2 dL_put_22
set_option maxHeartbeats 4000000 in
set_option maxRecDepth 100000 in
theorem ch_get (l : Launch) (hlt : l.stackTraces = false) (dC : Nat → ClassId) (dI : Nat → Nat → Nat) (A : Nat → Nat) (cI : ClassId) (σ : OS) (O : Nat) (cJ : ClassId) (g : Nat → Int64) (sz : Nat) (key : Int32) : Met l yL_get wsL_get (rkx 8) (va_Pc [.ref (A 0), .int key, .ref O] (hPre (dC, dI) A cI σ O cJ g sz)) (va_Qi (fun r u => r = nI (k_get σ key) ∧ u = hU (k_get σ key) σ (σ) g ((r_get σ key).toInt64)) (hBo (dC, dI) A cI O cJ (hX A cI σ O cJ g sz)) (hX A cI σ O cJ g sz)) 1 6 (hX A cI σ O cJ g sz) := by
  refine va_MetW (cc := cL_get) (maxL := 4) (ret := some .int) (hh := hh_get) (by decide) rfl ?_
  intro p e s m args below meth c s₁ Bd hml hv
  obtain ⟨rfl, hsz, hP, hK, hD0, hN, hZ, hC⟩ := hv
  have hx := Bd.exec
  have hb := Bd.bytes
  have hr := Bd.returns
  have hts := atoms_spec (ws := wsL_get) Bd.pre
  have htab : c.exceptionTable.toList = tableOf hh_get := vx_table (x := yL_get) Bd (hts _ List.mem_cons_self)
  have hB : ∀ w ∈ bL, w.before _ s = true := fun w h => hts w (List.mem_cons_of_mem _ h)
  have hown : s.vm.findClass RL = some m.cls := findClass_of_methodNamed Bd.named
  have hlocks := Bd.notSynchronized
  subst hsz
  have hD : va_D (hX A cI σ O cJ g s.heap.size) (wH A cI σ O cJ g) := hD0.self (sz := s.heap.size)
  have hA : ∀ q : Nat, s.heap.size ≤ q → hX A cI σ O cJ g s.heap.size q := fun q h => Or.inr h
  generalize hX A cI σ O cJ g s.heap.size = AA at hD hA hZ ⊢
  have hS : va_S AA s.heap s.heap [] := va_S.rf
  have hl := lv_entry ([.ref (A 0), .int key, .ref O]) (n := 4) (Nat.le_of_ble_eq_true rfl)
  rw [lg_entry_eq]
  generalize (lg_sl ([.ref (A 0), .int key, .ref O]) ++ List.replicate (4 - (lg_sl ([.ref (A 0), .int key, .ref O])).length) Slot.unset).toArray = ls at hl ⊢
  have hl : lv_has ls 4 [(0, .ref (A 0)), (1, .int key), (2, .ref O)] := hl
  refine lv_aload_n hx hb dL_get_0 rfl (lv_at hl 2 rfl) ?_
  refine lv_iconst (v := 0) hx hb dL_get_1 (by decide) ?_
  refine lv_aload_n hx hb dL_get_2 rfl (lv_at hl 0 rfl) ?_
  refine lv_iload_n hx hb dL_get_3 rfl (lv_at hl 1 rfl) ?_
  have hFc := va_free (wc := wO A cI σ) hD hS hA [0, 1, 2, 3, 4, 5, 6] rfl
  have hPc := hP.sub (ws' := wO A cI σ) [0, 1, 2, 3, 4, 5, 6] rfl
  have hDc := hD.sub (ws' := wO A cI σ) [0, 1, 2, 3, 4, 5, 6] (by decide) rfl
  have hKc := hK.sub (tys' := [(cI, .int)]) [0] rfl
  refine vx_calli (vx_runV (C := RX0) (As := [.int key]) (rest := [.int 0, .ref O]) ⟨hx, hb, hml, hown, hB⟩ (cx0_get l hlt dC dI A cI σ s.heap.size key) (cwV 1 hB goL_get rfl rfl rfl ⟨rfl, by decide, by decide, by decide +kernel⟩ ⟨Nat.le_of_ble_eq_true rfl, Nat.le_of_ble_eq_true rfl⟩) ⟨fun a U gg mk q => by obtain ⟨q0, ⟨q1, qP, qK, qD⟩, qN, qZ⟩ := q; exact ⟨q0, ⟨q1, qP, va_K.moved (u := U) (U := U.calling gg mk a) (Vm.Alike.refl U.vm) qK, qD⟩, qN.same rfl, qZ.to (U := U.calling gg mk a) (Vm.Alike.refl U.vm) rfl (fun _ h => h)⟩, va_recv (q := (RX0, TX0, 12)) hK hP rfl (q0 := 0) rfl, fun U hU hW => ⟨rfl, ⟨by rw [hU], by rw [hU]; exact hPc, va_K.moved hW.alike hKc, hDc.weaken (fun _ _ _ _ => trivial)⟩, hN.warm hW, hZ.to hW.alike hU (fun q h => hFc q h)⟩⟩ rfl rfl hl.1 rfl (lv_room (Nat.le_of_ble_eq_true rfl)) dL_get_4 ⟨Nat.le_of_ble_eq_true rfl, Nat.le_of_ble_eq_true rfl⟩) hS (fun q _ h => hFc q h) hFc (fun q h1 h2 => absurd h2 (Nat.not_le.mpr h1)) (fun E ce q9 u t H locs ht hvm _ hBX hz1 hk1 hS hce hcv hcl => ?_) (fun r u t H locs ht hvm hw hBu hz1 hk1 hS => ?_)
  · have hP : va_P (dC, dI) vwCl (wH A cI σ O cJ g) H := hP.kept (fun k x hx9 => hk1 x.1 ((hP k x hx9).lt) (Nat.not_le.mpr ((hP k x hx9).lt)))
    rcases hBX with ⟨rfl, hkk⟩ | ⟨rfl, hkk⟩
    · skip
      refine vx_catch hown (E := "java/lang/IllegalArgumentException") (name := "java/lang/IllegalArgumentException") ([] : List ExceptionTableEntry) ⟨0, 9, 12, 13⟩ ([⟨0, 9, 15, 15⟩] : List ExceptionTableEntry) htab (fun z hz => by cases hz) rfl (by decide) (hB _ mL_cl_IAE) (va_Nw.use rfl hN.2.2.2.1) hce hcv hcl ?_
      refine lv_astore_n hx hb dL_get_12 rfl hl (by decide) rfl (fun ls hl => ?_)
      have hl : lv_has ls 4 [(3, .ref q9), (0, .ref (A 0)), (1, .int key), (2, .ref O)] := hl
      refine lv_iconst (v := 1) hx hb dL_get_13 (by decide) ?_
      exact W.iret (v := 1) hx hb hr (fun t ht hW => ⟨⟨1, (σ, g), rfl, ⟨by rw [hkk]; rfl, by rw [hU, hkk, if_neg (by decide)]⟩, by rw [ht]; exact hP, va_K.moved hW.alike hK, hD⟩, hS.F ht⟩) hS.2.2 dL_get_14
    · skip
      refine vx_catch hown (E := "java/lang/IllegalStateException") (name := "java/lang/IllegalStateException") ([⟨0, 9, 12, 13⟩] : List ExceptionTableEntry) ⟨0, 9, 15, 15⟩ ([] : List ExceptionTableEntry) htab (fun z hz => by rw [List.mem_singleton.mp hz]; exact Or.inr ⟨by decide, "java/lang/IllegalArgumentException", hB _ mL_cl_IAE, hC.1⟩) rfl (by decide) (hB _ mL_cl_ISE) (va_Nw.use rfl hN.2.2.2.2.1) hce hcv hcl ?_
      refine lv_astore_n hx hb dL_get_15 rfl hl (by decide) rfl (fun ls hl => ?_)
      have hl : lv_has ls 4 [(3, .ref q9), (0, .ref (A 0)), (1, .int key), (2, .ref O)] := hl
      refine lv_iconst (v := 2) hx hb dL_get_16 (by decide) ?_
      exact W.iret (v := 2) hx hb hr (fun t ht hW => ⟨⟨2, (σ, g), rfl, ⟨by rw [hkk]; rfl, by rw [hU, hkk, if_neg (by decide)]⟩, by rw [ht]; exact hP, va_K.moved hW.alike hK, hD⟩, hS.F ht⟩) hS.2.2 dL_get_17
  · obtain ⟨hkk, hw1, hw2⟩ := hw
    obtain ⟨hP1, hK1, hD1⟩ := hBu
    rw [ht, hw2] at hP1
    rw [hw2] at hD1
    rw [hw1]
    obtain ⟨hP, hD⟩ := va_join (wr := [(O, .inl (cJ, 1, .inr (.inl g)))]) (w1 := wO A cI (σ)) hP hD [0, 1, 2, 3, 4, 5, 6] [7] rfl rfl (by decide) (by decide) hk1 hFc hP1 hD1
    have hP := hP.sub (ws' := wH A cI (σ) O cJ g) [1, 2, 3, 4, 5, 6, 7, 0] rfl
    have hD := hD.sub (ws' := wH A cI (σ) O cJ g) [1, 2, 3, 4, 5, 6, 7, 0] (by decide) rfl
    refine lv_i2l (v := (r_get σ key).toInt64) hx hb dL_get_7 rfl ?_
    refine va_last (D := (dC, dI)) (i := nI 0) (x := (r_get σ key).toInt64) hx hb hK hP hD hS 7 1 rfl rfl (vp_in_nI (n := 0) (by decide) (by decide)) dL_get_8 (fun H locs hP hD hS => ?_)
    have hP : va_P (dC, dI) vwCl (wH A cI (σ) O cJ (vp_updL g 0 ((r_get σ key).toInt64))) H := hP
    have hD : va_D AA (wH A cI (σ) O cJ (vp_updL g 0 ((r_get σ key).toInt64))) := hD
    refine lv_goto (tgt := 18) hx hb dL_get_9 rfl ?_
    refine lv_iconst (v := 0) hx hb dL_get_18 (by decide) ?_
    exact W.iret (v := 0) hx hb hr (fun t ht hW => ⟨⟨0, (σ, vp_updL g 0 ((r_get σ key).toInt64)), rfl, ⟨by rw [hkk]; rfl, by rw [hU, hkk, if_pos rfl]⟩, by rw [ht]; exact hP, va_K.moved hW.alike hK, hD⟩, hS.F ht⟩) hS.2.2 dL_get_19
set_option maxHeartbeats 4000000 in
set_option maxRecDepth 100000 in
theorem ch_wouldMove (l : Launch) (hlt : l.stackTraces = false) (dC : Nat → ClassId) (dI : Nat → Nat → Nat) (A : Nat → Nat) (cI : ClassId) (σ : OS) (O : Nat) (cJ : ClassId) (g : Nat → Int64) (sz : Nat) (key : Int32) (v : Int32) : Met l yL_wouldMove wsL_wouldMove (rkx 8) (va_Pc [.ref (A 0), .int key, .int v, .ref O] (hPre (dC, dI) A cI σ O cJ g sz)) (va_Qi (fun r u => r = nI (k_wm σ key v) ∧ u = hU (k_wm σ key v) σ (σ) g ((if r_wm σ key v = true then 1 else 0))) (hBo (dC, dI) A cI O cJ (hX A cI σ O cJ g sz)) (hX A cI σ O cJ g sz)) 1 6 (hX A cI σ O cJ g sz) := by
  refine va_MetW (cc := cL_wouldMove) (maxL := 5) (ret := some .int) (hh := hh_wouldMove) (by decide) rfl ?_
  intro p e s m args below meth c s₁ Bd hml hv
  obtain ⟨rfl, hsz, hP, hK, hD0, hN, hZ, hC⟩ := hv
  have hx := Bd.exec
  have hb := Bd.bytes
  have hr := Bd.returns
  have hts := atoms_spec (ws := wsL_wouldMove) Bd.pre
  have htab : c.exceptionTable.toList = tableOf hh_wouldMove := vx_table (x := yL_wouldMove) Bd (hts _ List.mem_cons_self)
  have hB : ∀ w ∈ bL, w.before _ s = true := fun w h => hts w (List.mem_cons_of_mem _ h)
  have hown : s.vm.findClass RL = some m.cls := findClass_of_methodNamed Bd.named
  have hlocks := Bd.notSynchronized
  subst hsz
  have hD : va_D (hX A cI σ O cJ g s.heap.size) (wH A cI σ O cJ g) := hD0.self (sz := s.heap.size)
  have hA : ∀ q : Nat, s.heap.size ≤ q → hX A cI σ O cJ g s.heap.size q := fun q h => Or.inr h
  generalize hX A cI σ O cJ g s.heap.size = AA at hD hA hZ ⊢
  have hS : va_S AA s.heap s.heap [] := va_S.rf
  have hl := lv_entry ([.ref (A 0), .int key, .int v, .ref O]) (n := 5) (Nat.le_of_ble_eq_true rfl)
  rw [lg_entry_eq]
  generalize (lg_sl ([.ref (A 0), .int key, .int v, .ref O]) ++ List.replicate (5 - (lg_sl ([.ref (A 0), .int key, .int v, .ref O])).length) Slot.unset).toArray = ls at hl ⊢
  have hl : lv_has ls 5 [(0, .ref (A 0)), (1, .int key), (2, .int v), (3, .ref O)] := hl
  refine lv_aload_n hx hb dL_wouldMove_0 rfl (lv_at hl 3 rfl) ?_
  refine lv_iconst (v := 0) hx hb dL_wouldMove_1 (by decide) ?_
  refine lv_aload_n hx hb dL_wouldMove_2 rfl (lv_at hl 0 rfl) ?_
  refine lv_iload_n hx hb dL_wouldMove_3 rfl (lv_at hl 1 rfl) ?_
  refine lv_iload_n hx hb dL_wouldMove_4 rfl (lv_at hl 2 rfl) ?_
  have hFc := va_free (wc := wO A cI σ) hD hS hA [0, 1, 2, 3, 4, 5, 6] rfl
  have hPc := hP.sub (ws' := wO A cI σ) [0, 1, 2, 3, 4, 5, 6] rfl
  have hDc := hD.sub (ws' := wO A cI σ) [0, 1, 2, 3, 4, 5, 6] (by decide) rfl
  have hKc := hK.sub (tys' := [(cI, .int)]) [0] rfl
  refine vx_calli (vx_runV (C := RX0) (As := [.int key, .int v]) (rest := [.int 0, .ref O]) ⟨hx, hb, hml, hown, hB⟩ (cx0_wouldMove l hlt dC dI A cI σ s.heap.size key v) (cwV 2 hB goL_wouldMove rfl rfl rfl ⟨rfl, by decide, by decide, by decide +kernel⟩ ⟨Nat.le_of_ble_eq_true rfl, Nat.le_of_ble_eq_true rfl⟩) ⟨fun a U gg mk q => by obtain ⟨q0, ⟨q1, qP, qK, qD⟩, qN, qZ⟩ := q; exact ⟨q0, ⟨q1, qP, va_K.moved (u := U) (U := U.calling gg mk a) (Vm.Alike.refl U.vm) qK, qD⟩, qN.same rfl, qZ.to (U := U.calling gg mk a) (Vm.Alike.refl U.vm) rfl (fun _ h => h)⟩, va_recv (q := (RX0, TX0, 12)) hK hP rfl (q0 := 0) rfl, fun U hU hW => ⟨rfl, ⟨by rw [hU], by rw [hU]; exact hPc, va_K.moved hW.alike hKc, hDc.weaken (fun _ _ _ _ => trivial)⟩, hN.warm hW, hZ.to hW.alike hU (fun q h => hFc q h)⟩⟩ rfl rfl hl.1 rfl (lv_room (Nat.le_of_ble_eq_true rfl)) dL_wouldMove_5 ⟨Nat.le_of_ble_eq_true rfl, Nat.le_of_ble_eq_true rfl⟩) hS (fun q _ h => hFc q h) hFc (fun q h1 h2 => absurd h2 (Nat.not_le.mpr h1)) (fun E ce q9 u t H locs ht hvm _ hBX hz1 hk1 hS hce hcv hcl => ?_) (fun r u t H locs ht hvm hw hBu hz1 hk1 hS => ?_)
  · have hP : va_P (dC, dI) vwCl (wH A cI σ O cJ g) H := hP.kept (fun k x hx9 => hk1 x.1 ((hP k x hx9).lt) (Nat.not_le.mpr ((hP k x hx9).lt)))
    rcases hBX with ⟨rfl, hkk⟩ | ⟨rfl, hkk⟩
    · skip
      refine vx_catch hown (E := "java/lang/IllegalArgumentException") (name := "java/lang/IllegalArgumentException") ([] : List ExceptionTableEntry) ⟨0, 17, 20, 13⟩ ([⟨0, 17, 24, 15⟩] : List ExceptionTableEntry) htab (fun z hz => by cases hz) rfl (by decide) (hB _ mL_cl_IAE) (va_Nw.use rfl hN.2.2.2.1) hce hcv hcl ?_
      refine lv_astore hx hb dL_wouldMove_20 hl (by decide) rfl (fun ls hl => ?_)
      have hl : lv_has ls 5 [(4, .ref q9), (0, .ref (A 0)), (1, .int key), (2, .int v), (3, .ref O)] := hl
      refine lv_iconst (v := 1) hx hb dL_wouldMove_22 (by decide) ?_
      exact W.iret (v := 1) hx hb hr (fun t ht hW => ⟨⟨1, (σ, g), rfl, ⟨by rw [hkk]; rfl, by rw [hU, hkk, if_neg (by decide)]⟩, by rw [ht]; exact hP, va_K.moved hW.alike hK, hD⟩, hS.F ht⟩) hS.2.2 dL_wouldMove_23
    · skip
      refine vx_catch hown (E := "java/lang/IllegalStateException") (name := "java/lang/IllegalStateException") ([⟨0, 17, 20, 13⟩] : List ExceptionTableEntry) ⟨0, 17, 24, 15⟩ ([] : List ExceptionTableEntry) htab (fun z hz => by rw [List.mem_singleton.mp hz]; exact Or.inr ⟨by decide, "java/lang/IllegalArgumentException", hB _ mL_cl_IAE, hC.1⟩) rfl (by decide) (hB _ mL_cl_ISE) (va_Nw.use rfl hN.2.2.2.2.1) hce hcv hcl ?_
      refine lv_astore hx hb dL_wouldMove_24 hl (by decide) rfl (fun ls hl => ?_)
      have hl : lv_has ls 5 [(4, .ref q9), (0, .ref (A 0)), (1, .int key), (2, .int v), (3, .ref O)] := hl
      refine lv_iconst (v := 2) hx hb dL_wouldMove_26 (by decide) ?_
      exact W.iret (v := 2) hx hb hr (fun t ht hW => ⟨⟨2, (σ, g), rfl, ⟨by rw [hkk]; rfl, by rw [hU, hkk, if_neg (by decide)]⟩, by rw [ht]; exact hP, va_K.moved hW.alike hK, hD⟩, hS.F ht⟩) hS.2.2 dL_wouldMove_27
  · obtain ⟨hkk, hw1, hw2⟩ := hw
    obtain ⟨hP1, hK1, hD1⟩ := hBu
    rw [ht, hw2] at hP1
    rw [hw2] at hD1
    rw [hw1]
    obtain ⟨hP, hD⟩ := va_join (wr := [(O, .inl (cJ, 1, .inr (.inl g)))]) (w1 := wO A cI (σ)) hP hD [0, 1, 2, 3, 4, 5, 6] [7] rfl rfl (by decide) (by decide) hk1 hFc hP1 hD1
    have hP := hP.sub (ws' := wH A cI (σ) O cJ g) [1, 2, 3, 4, 5, 6, 7, 0] rfl
    have hD := hD.sub (ws' := wH A cI (σ) O cJ g) [1, 2, 3, 4, 5, 6, 7, 0] (by decide) rfl
    refine lv_if_eq (tgt := 15) hx hb dL_wouldMove_8 rfl (fun hz => ?_) (fun hz => ?_)
    · skip
      refine lv_lconst (v := 0) hx hb dL_wouldMove_15 (by decide) ?_
      refine va_last (D := (dC, dI)) (i := nI 0) (x := 0) hx hb hK hP hD hS 7 1 rfl rfl (vp_in_nI (n := 0) (by decide) (by decide)) dL_wouldMove_16 (fun H locs hP hD hS => ?_)
      have hP : va_P (dC, dI) vwCl (wH A cI (σ) O cJ (vp_updL g 0 (0))) H := hP
      have hD : va_D AA (wH A cI (σ) O cJ (vp_updL g 0 (0))) := hD
      refine lv_goto (tgt := 28) hx hb dL_wouldMove_17 rfl ?_
      refine lv_iconst (v := 0) hx hb dL_wouldMove_28 (by decide) ?_
      exact W.iret (v := 0) hx hb hr (fun t ht hW => ⟨⟨0, (σ, vp_updL g 0 0), rfl, ⟨by rw [hkk]; rfl, by rw [hU, hkk, bI_0.mp hz, if_pos rfl]; rfl⟩, by rw [ht]; exact hP, va_K.moved hW.alike hK, hD⟩, hS.F ht⟩) hS.2.2 dL_wouldMove_29
    · skip
      refine lv_lconst (v := 1) hx hb dL_wouldMove_11 (by decide) ?_
      refine lv_goto (tgt := 16) hx hb dL_wouldMove_12 rfl ?_
      refine va_last (D := (dC, dI)) (i := nI 0) (x := 1) hx hb hK hP hD hS 7 1 rfl rfl (vp_in_nI (n := 0) (by decide) (by decide)) dL_wouldMove_16 (fun H locs hP hD hS => ?_)
      have hP : va_P (dC, dI) vwCl (wH A cI (σ) O cJ (vp_updL g 0 (1))) H := hP
      have hD : va_D AA (wH A cI (σ) O cJ (vp_updL g 0 (1))) := hD
      refine lv_goto (tgt := 28) hx hb dL_wouldMove_17 rfl ?_
      refine lv_iconst (v := 0) hx hb dL_wouldMove_28 (by decide) ?_
      exact W.iret (v := 0) hx hb hr (fun t ht hW => ⟨⟨0, (σ, vp_updL g 0 1), rfl, ⟨by rw [hkk]; rfl, by rw [hU, hkk, bI_n0.mp hz, if_pos rfl]; rfl⟩, by rw [ht]; exact hP, va_K.moved hW.alike hK, hD⟩, hS.F ht⟩) hS.2.2 dL_wouldMove_29
set_option maxHeartbeats 4000000 in
set_option maxRecDepth 100000 in
theorem ch_begin (l : Launch) (hlt : l.stackTraces = false) (dC : Nat → ClassId) (dI : Nat → Nat → Nat) (A : Nat → Nat) (cI : ClassId) (σ : OS) (O : Nat) (cJ : ClassId) (g : Nat → Int64) (sz : Nat) : Met l yL_begin wsL_begin (rkx 8) (va_Pc [.ref (A 0)] (hPre (dC, dI) A cI σ O cJ g sz)) (va_Qi (fun r u => r = nI (k_begin σ) ∧ u = hV (k_begin σ) σ (s_begin σ) g) (hBo (dC, dI) A cI O cJ (hX A cI σ O cJ g sz)) (hX A cI σ O cJ g sz)) 1 6 (hX A cI σ O cJ g sz) := by
  refine va_MetW (cc := cL_begin) (maxL := 2) (ret := some .int) (hh := hh_begin) (by decide) rfl ?_
  intro p e s m args below meth c s₁ Bd hml hv
  obtain ⟨rfl, hsz, hP, hK, hD0, hN, hZ, hC⟩ := hv
  have hx := Bd.exec
  have hb := Bd.bytes
  have hr := Bd.returns
  have hts := atoms_spec (ws := wsL_begin) Bd.pre
  have htab : c.exceptionTable.toList = tableOf hh_begin := vx_table (x := yL_begin) Bd (hts _ List.mem_cons_self)
  have hB : ∀ w ∈ bL, w.before _ s = true := fun w h => hts w (List.mem_cons_of_mem _ h)
  have hown : s.vm.findClass RL = some m.cls := findClass_of_methodNamed Bd.named
  have hlocks := Bd.notSynchronized
  subst hsz
  have hD : va_D (hX A cI σ O cJ g s.heap.size) (wH A cI σ O cJ g) := hD0.self (sz := s.heap.size)
  have hA : ∀ q : Nat, s.heap.size ≤ q → hX A cI σ O cJ g s.heap.size q := fun q h => Or.inr h
  generalize hX A cI σ O cJ g s.heap.size = AA at hD hA hZ ⊢
  have hS : va_S AA s.heap s.heap [] := va_S.rf
  have hl := lv_entry ([.ref (A 0)]) (n := 2) (Nat.le_of_ble_eq_true rfl)
  rw [lg_entry_eq]
  generalize (lg_sl ([.ref (A 0)]) ++ List.replicate (2 - (lg_sl ([.ref (A 0)])).length) Slot.unset).toArray = ls at hl ⊢
  have hl : lv_has ls 2 [(0, .ref (A 0))] := hl
  refine lv_aload_n hx hb dL_begin_0 rfl (lv_at hl 0 rfl) ?_
  have hFc := va_free (wc := wO A cI σ) hD hS hA [0, 1, 2, 3, 4, 5, 6] rfl
  have hPc := hP.sub (ws' := wO A cI σ) [0, 1, 2, 3, 4, 5, 6] rfl
  have hDc := hD.sub (ws' := wO A cI σ) [0, 1, 2, 3, 4, 5, 6] (by decide) rfl
  have hKc := hK.sub (tys' := [(cI, .int)]) [0] rfl
  refine vx_callv (vx_runV (C := RX0) (As := []) (rest := []) ⟨hx, hb, hml, hown, hB⟩ (cx0_begin l hlt dC dI A cI σ s.heap.size ) (cwV 0 hB goL_begin rfl rfl rfl ⟨rfl, by decide, by decide, by decide +kernel⟩ ⟨Nat.le_of_ble_eq_true rfl, Nat.le_of_ble_eq_true rfl⟩) ⟨fun a U gg mk q => by obtain ⟨q0, ⟨q1, qP, qK, qD⟩, qN, qZ⟩ := q; exact ⟨q0, ⟨q1, qP, va_K.moved (u := U) (U := U.calling gg mk a) (Vm.Alike.refl U.vm) qK, qD⟩, qN.same rfl, qZ.to (U := U.calling gg mk a) (Vm.Alike.refl U.vm) rfl (fun _ h => h)⟩, va_recv (q := (RX0, TX0, 12)) hK hP rfl (q0 := 0) rfl, fun U hU hW => ⟨rfl, ⟨by rw [hU], by rw [hU]; exact hPc, va_K.moved hW.alike hKc, hDc.weaken (fun _ _ _ _ => trivial)⟩, hN.warm hW, hZ.to hW.alike hU (fun q h => hFc q h)⟩⟩ rfl rfl hl.1 rfl (lv_room (Nat.le_of_ble_eq_true rfl)) dL_begin_1 ⟨Nat.le_of_ble_eq_true rfl, Nat.le_of_ble_eq_true rfl⟩) hS (fun q _ h => hFc q h) hFc (fun q h1 h2 => absurd h2 (Nat.not_le.mpr h1)) (fun E ce q9 u t H locs ht hvm _ hBX hz1 hk1 hS hce hcv hcl => ?_) (fun u t H locs ht hvm hw hBu hz1 hk1 hS => ?_)
  · have hP : va_P (dC, dI) vwCl (wH A cI σ O cJ g) H := hP.kept (fun k x hx9 => hk1 x.1 ((hP k x hx9).lt) (Nat.not_le.mpr ((hP k x hx9).lt)))
    obtain ⟨rfl, hkk⟩ := hBX
    refine vx_catch hown (E := "java/lang/IllegalStateException") (name := "java/lang/IllegalStateException") ([] : List ExceptionTableEntry) ⟨0, 4, 7, 15⟩ ([] : List ExceptionTableEntry) htab (fun z hz => by cases hz) rfl (by decide) (hB _ mL_cl_ISE) (va_Nw.use rfl hN.2.2.2.2.1) hce hcv hcl ?_
    refine lv_astore_n hx hb dL_begin_7 rfl hl (by decide) rfl (fun ls hl => ?_)
    have hl : lv_has ls 2 [(1, .ref q9), (0, .ref (A 0))] := hl
    refine lv_iconst (v := 1) hx hb dL_begin_8 (by decide) ?_
    exact W.iret (v := 1) hx hb hr (fun t ht hW => ⟨⟨1, (σ, g), rfl, ⟨by rw [hkk]; rfl, by rw [hV, hkk, if_neg (by decide)]⟩, by rw [ht]; exact hP, va_K.moved hW.alike hK, hD⟩, hS.F ht⟩) hS.2.2 dL_begin_9
  · obtain ⟨hkk, hw2⟩ := hw
    obtain ⟨hP1, hK1, hD1⟩ := hBu
    rw [ht, hw2] at hP1
    rw [hw2] at hD1
    obtain ⟨hP, hD⟩ := va_join (wr := [(O, .inl (cJ, 1, .inr (.inl g)))]) (w1 := wO A cI (s_begin σ)) hP hD [0, 1, 2, 3, 4, 5, 6] [7] rfl rfl (by decide) (by decide) hk1 hFc hP1 hD1
    have hP := hP.sub (ws' := wH A cI (s_begin σ) O cJ g) [1, 2, 3, 4, 5, 6, 7, 0] rfl
    have hD := hD.sub (ws' := wH A cI (s_begin σ) O cJ g) [1, 2, 3, 4, 5, 6, 7, 0] (by decide) rfl
    refine lv_goto (tgt := 10) hx hb dL_begin_4 rfl ?_
    refine lv_iconst (v := 0) hx hb dL_begin_10 (by decide) ?_
    exact W.iret (v := 0) hx hb hr (fun t ht hW => ⟨⟨0, (s_begin σ, g), rfl, ⟨by rw [hkk]; rfl, by rw [hV, hkk, if_pos rfl]⟩, by rw [ht]; exact hP, va_K.moved hW.alike hK, hD⟩, hS.F ht⟩) hS.2.2 dL_begin_11
set_option maxHeartbeats 4000000 in
set_option maxRecDepth 100000 in
theorem ch_stage (l : Launch) (hlt : l.stackTraces = false) (dC : Nat → ClassId) (dI : Nat → Nat → Nat) (A : Nat → Nat) (cI : ClassId) (σ : OS) (O : Nat) (cJ : ClassId) (g : Nat → Int64) (sz : Nat) (key : Int32) (v : Int32) (nb : Nat) (hnb : oBs σ = nI nb) (hnb8 : nb ≤ 8) : Met l yL_stage wsL_stage (rkx 8) (va_Pc [.ref (A 0), .int key, .int v, .ref O] (hPre (dC, dI) A cI σ O cJ g sz)) (va_Qi (fun r u => r = nI (k_stage σ nb key v) ∧ u = hU (k_stage σ nb key v) σ (s_stage σ nb key v) g ((nI (nb + 1)).toInt64)) (hBo (dC, dI) A cI O cJ (hX A cI σ O cJ g sz)) (hX A cI σ O cJ g sz)) 1 6 (hX A cI σ O cJ g sz) := by
  refine va_MetW (cc := cL_stage) (maxL := 5) (ret := some .int) (hh := hh_stage) (by decide) rfl ?_
  intro p e s m args below meth c s₁ Bd hml hv
  obtain ⟨rfl, hsz, hP, hK, hD0, hN, hZ, hC⟩ := hv
  have hx := Bd.exec
  have hb := Bd.bytes
  have hr := Bd.returns
  have hts := atoms_spec (ws := wsL_stage) Bd.pre
  have htab : c.exceptionTable.toList = tableOf hh_stage := vx_table (x := yL_stage) Bd (hts _ List.mem_cons_self)
  have hB : ∀ w ∈ bL, w.before _ s = true := fun w h => hts w (List.mem_cons_of_mem _ h)
  have hown : s.vm.findClass RL = some m.cls := findClass_of_methodNamed Bd.named
  have hlocks := Bd.notSynchronized
  subst hsz
  have hD : va_D (hX A cI σ O cJ g s.heap.size) (wH A cI σ O cJ g) := hD0.self (sz := s.heap.size)
  have hA : ∀ q : Nat, s.heap.size ≤ q → hX A cI σ O cJ g s.heap.size q := fun q h => Or.inr h
  generalize hX A cI σ O cJ g s.heap.size = AA at hD hA hZ ⊢
  have hS : va_S AA s.heap s.heap [] := va_S.rf
  have hl := lv_entry ([.ref (A 0), .int key, .int v, .ref O]) (n := 5) (Nat.le_of_ble_eq_true rfl)
  rw [lg_entry_eq]
  generalize (lg_sl ([.ref (A 0), .int key, .int v, .ref O]) ++ List.replicate (5 - (lg_sl ([.ref (A 0), .int key, .int v, .ref O])).length) Slot.unset).toArray = ls at hl ⊢
  have hl : lv_has ls 5 [(0, .ref (A 0)), (1, .int key), (2, .int v), (3, .ref O)] := hl
  refine lv_aload_n hx hb dL_stage_0 rfl (lv_at hl 3 rfl) ?_
  refine lv_iconst (v := 0) hx hb dL_stage_1 (by decide) ?_
  refine lv_aload_n hx hb dL_stage_2 rfl (lv_at hl 0 rfl) ?_
  refine lv_iload_n hx hb dL_stage_3 rfl (lv_at hl 1 rfl) ?_
  refine lv_iload_n hx hb dL_stage_4 rfl (lv_at hl 2 rfl) ?_
  have hFc := va_free (wc := wO A cI σ) hD hS hA [0, 1, 2, 3, 4, 5, 6] rfl
  have hPc := hP.sub (ws' := wO A cI σ) [0, 1, 2, 3, 4, 5, 6] rfl
  have hDc := hD.sub (ws' := wO A cI σ) [0, 1, 2, 3, 4, 5, 6] (by decide) rfl
  have hKc := hK.sub (tys' := [(cI, .int)]) [0] rfl
  refine vx_calli (vx_runV (C := RX0) (As := [.int key, .int v]) (rest := [.int 0, .ref O]) ⟨hx, hb, hml, hown, hB⟩ (cx0_stage l hlt dC dI A cI σ s.heap.size key v nb hnb hnb8) (cwV 2 hB goL_stage rfl rfl rfl ⟨rfl, by decide, by decide, by decide +kernel⟩ ⟨Nat.le_of_ble_eq_true rfl, Nat.le_of_ble_eq_true rfl⟩) ⟨fun a U gg mk q => by obtain ⟨q0, ⟨q1, qP, qK, qD⟩, qN, qZ⟩ := q; exact ⟨q0, ⟨q1, qP, va_K.moved (u := U) (U := U.calling gg mk a) (Vm.Alike.refl U.vm) qK, qD⟩, qN.same rfl, qZ.to (U := U.calling gg mk a) (Vm.Alike.refl U.vm) rfl (fun _ h => h)⟩, va_recv (q := (RX0, TX0, 12)) hK hP rfl (q0 := 0) rfl, fun U hU hW => ⟨rfl, ⟨by rw [hU], by rw [hU]; exact hPc, va_K.moved hW.alike hKc, hDc.weaken (fun _ _ _ _ => trivial)⟩, hN.warm hW, hZ.to hW.alike hU (fun q h => hFc q h)⟩⟩ rfl rfl hl.1 rfl (lv_room (Nat.le_of_ble_eq_true rfl)) dL_stage_5 ⟨Nat.le_of_ble_eq_true rfl, Nat.le_of_ble_eq_true rfl⟩) hS (fun q _ h => hFc q h) hFc (fun q h1 h2 => absurd h2 (Nat.not_le.mpr h1)) (fun E ce q9 u t H locs ht hvm _ hBX hz1 hk1 hS hce hcv hcl => ?_) (fun r u t H locs ht hvm hw hBu hz1 hk1 hS => ?_)
  · have hP : va_P (dC, dI) vwCl (wH A cI σ O cJ g) H := hP.kept (fun k x hx9 => hk1 x.1 ((hP k x hx9).lt) (Nat.not_le.mpr ((hP k x hx9).lt)))
    rcases hBX with ⟨rfl, hkk⟩ | ⟨rfl, hkk⟩
    · skip
      refine vx_catch hown (E := "java/lang/IllegalArgumentException") (name := "java/lang/IllegalArgumentException") ([] : List ExceptionTableEntry) ⟨0, 10, 13, 13⟩ ([⟨0, 10, 17, 15⟩] : List ExceptionTableEntry) htab (fun z hz => by cases hz) rfl (by decide) (hB _ mL_cl_IAE) (va_Nw.use rfl hN.2.2.2.1) hce hcv hcl ?_
      refine lv_astore hx hb dL_stage_13 hl (by decide) rfl (fun ls hl => ?_)
      have hl : lv_has ls 5 [(4, .ref q9), (0, .ref (A 0)), (1, .int key), (2, .int v), (3, .ref O)] := hl
      refine lv_iconst (v := 1) hx hb dL_stage_15 (by decide) ?_
      exact W.iret (v := 1) hx hb hr (fun t ht hW => ⟨⟨1, (σ, g), rfl, ⟨by rw [hkk]; rfl, by rw [hU, hkk, if_neg (by decide)]⟩, by rw [ht]; exact hP, va_K.moved hW.alike hK, hD⟩, hS.F ht⟩) hS.2.2 dL_stage_16
    · skip
      refine vx_catch hown (E := "java/lang/IllegalStateException") (name := "java/lang/IllegalStateException") ([⟨0, 10, 13, 13⟩] : List ExceptionTableEntry) ⟨0, 10, 17, 15⟩ ([] : List ExceptionTableEntry) htab (fun z hz => by rw [List.mem_singleton.mp hz]; exact Or.inr ⟨by decide, "java/lang/IllegalArgumentException", hB _ mL_cl_IAE, hC.1⟩) rfl (by decide) (hB _ mL_cl_ISE) (va_Nw.use rfl hN.2.2.2.2.1) hce hcv hcl ?_
      refine lv_astore hx hb dL_stage_17 hl (by decide) rfl (fun ls hl => ?_)
      have hl : lv_has ls 5 [(4, .ref q9), (0, .ref (A 0)), (1, .int key), (2, .int v), (3, .ref O)] := hl
      refine lv_iconst (v := 2) hx hb dL_stage_19 (by decide) ?_
      exact W.iret (v := 2) hx hb hr (fun t ht hW => ⟨⟨2, (σ, g), rfl, ⟨by rw [hkk]; rfl, by rw [hU, hkk, if_neg (by decide)]⟩, by rw [ht]; exact hP, va_K.moved hW.alike hK, hD⟩, hS.F ht⟩) hS.2.2 dL_stage_20
  · obtain ⟨hkk, hw1, hw2⟩ := hw
    obtain ⟨hP1, hK1, hD1⟩ := hBu
    rw [ht, hw2] at hP1
    rw [hw2] at hD1
    rw [hw1]
    obtain ⟨hP, hD⟩ := va_join (wr := [(O, .inl (cJ, 1, .inr (.inl g)))]) (w1 := wO A cI (s_stage σ nb key v)) hP hD [0, 1, 2, 3, 4, 5, 6] [7] rfl rfl (by decide) (by decide) hk1 hFc hP1 hD1
    have hP := hP.sub (ws' := wH A cI (s_stage σ nb key v) O cJ g) [1, 2, 3, 4, 5, 6, 7, 0] rfl
    have hD := hD.sub (ws' := wH A cI (s_stage σ nb key v) O cJ g) [1, 2, 3, 4, 5, 6, 7, 0] (by decide) rfl
    refine lv_i2l (v := (nI (nb + 1)).toInt64) hx hb dL_stage_8 rfl ?_
    refine va_last (D := (dC, dI)) (i := nI 0) (x := (nI (nb + 1)).toInt64) hx hb hK hP hD hS 7 1 rfl rfl (vp_in_nI (n := 0) (by decide) (by decide)) dL_stage_9 (fun H locs hP hD hS => ?_)
    have hP : va_P (dC, dI) vwCl (wH A cI (s_stage σ nb key v) O cJ (vp_updL g 0 ((nI (nb + 1)).toInt64))) H := hP
    have hD : va_D AA (wH A cI (s_stage σ nb key v) O cJ (vp_updL g 0 ((nI (nb + 1)).toInt64))) := hD
    refine lv_goto (tgt := 21) hx hb dL_stage_10 rfl ?_
    refine lv_iconst (v := 0) hx hb dL_stage_21 (by decide) ?_
    exact W.iret (v := 0) hx hb hr (fun t ht hW => ⟨⟨0, (s_stage σ nb key v, vp_updL g 0 ((nI (nb + 1)).toInt64)), rfl, ⟨by rw [hkk]; rfl, by rw [hU, hkk, if_pos rfl]⟩, by rw [ht]; exact hP, va_K.moved hW.alike hK, hD⟩, hS.F ht⟩) hS.2.2 dL_stage_22
set_option maxHeartbeats 4000000 in
set_option maxRecDepth 100000 in
theorem ch_commit (l : Launch) (hlt : l.stackTraces = false) (dC : Nat → ClassId) (dI : Nat → Nat → Nat) (A : Nat → Nat) (cI : ClassId) (σ : OS) (O : Nat) (cJ : ClassId) (g : Nat → Int64) (sz : Nat) (nb : Nat) (hnb : oBs σ = nI nb) (hnb8 : nb ≤ 8) : Met l yL_commit wsL_commit (rkx 8) (va_Pc [.ref (A 0), .ref O] (hPre (dC, dI) A cI σ O cJ g sz)) (va_Qi (fun r u => r = nI (k_open σ) ∧ u = hU (k_open σ) σ (s_commit σ nb) g ((r_commit σ nb).toInt64)) (hBo (dC, dI) A cI O cJ (hX A cI σ O cJ g sz)) (hX A cI σ O cJ g sz)) 1 6 (hX A cI σ O cJ g sz) := by
  refine va_MetW (cc := cL_commit) (maxL := 3) (ret := some .int) (hh := hh_commit) (by decide) rfl ?_
  intro p e s m args below meth c s₁ Bd hml hv
  obtain ⟨rfl, hsz, hP, hK, hD0, hN, hZ, hC⟩ := hv
  have hx := Bd.exec
  have hb := Bd.bytes
  have hr := Bd.returns
  have hts := atoms_spec (ws := wsL_commit) Bd.pre
  have htab : c.exceptionTable.toList = tableOf hh_commit := vx_table (x := yL_commit) Bd (hts _ List.mem_cons_self)
  have hB : ∀ w ∈ bL, w.before _ s = true := fun w h => hts w (List.mem_cons_of_mem _ h)
  have hown : s.vm.findClass RL = some m.cls := findClass_of_methodNamed Bd.named
  have hlocks := Bd.notSynchronized
  subst hsz
  have hD : va_D (hX A cI σ O cJ g s.heap.size) (wH A cI σ O cJ g) := hD0.self (sz := s.heap.size)
  have hA : ∀ q : Nat, s.heap.size ≤ q → hX A cI σ O cJ g s.heap.size q := fun q h => Or.inr h
  generalize hX A cI σ O cJ g s.heap.size = AA at hD hA hZ ⊢
  have hS : va_S AA s.heap s.heap [] := va_S.rf
  have hl := lv_entry ([.ref (A 0), .ref O]) (n := 3) (Nat.le_of_ble_eq_true rfl)
  rw [lg_entry_eq]
  generalize (lg_sl ([.ref (A 0), .ref O]) ++ List.replicate (3 - (lg_sl ([.ref (A 0), .ref O])).length) Slot.unset).toArray = ls at hl ⊢
  have hl : lv_has ls 3 [(0, .ref (A 0)), (1, .ref O)] := hl
  refine lv_aload_n hx hb dL_commit_0 rfl (lv_at hl 1 rfl) ?_
  refine lv_iconst (v := 0) hx hb dL_commit_1 (by decide) ?_
  refine lv_aload_n hx hb dL_commit_2 rfl (lv_at hl 0 rfl) ?_
  have hFc := va_free (wc := wO A cI σ) hD hS hA [0, 1, 2, 3, 4, 5, 6] rfl
  have hPc := hP.sub (ws' := wO A cI σ) [0, 1, 2, 3, 4, 5, 6] rfl
  have hDc := hD.sub (ws' := wO A cI σ) [0, 1, 2, 3, 4, 5, 6] (by decide) rfl
  have hKc := hK.sub (tys' := [(cI, .int)]) [0] rfl
  refine vx_calli (vx_runV (C := RX0) (As := []) (rest := [.int 0, .ref O]) ⟨hx, hb, hml, hown, hB⟩ (cx0_commit l hlt dC dI A cI σ s.heap.size nb hnb hnb8) (cwV 0 hB goL_commit rfl rfl rfl ⟨rfl, by decide, by decide, by decide +kernel⟩ ⟨Nat.le_of_ble_eq_true rfl, Nat.le_of_ble_eq_true rfl⟩) ⟨fun a U gg mk q => by obtain ⟨q0, ⟨q1, qP, qK, qD⟩, qN, qZ⟩ := q; exact ⟨q0, ⟨q1, qP, va_K.moved (u := U) (U := U.calling gg mk a) (Vm.Alike.refl U.vm) qK, qD⟩, qN.same rfl, qZ.to (U := U.calling gg mk a) (Vm.Alike.refl U.vm) rfl (fun _ h => h)⟩, va_recv (q := (RX0, TX0, 12)) hK hP rfl (q0 := 0) rfl, fun U hU hW => ⟨rfl, ⟨by rw [hU], by rw [hU]; exact hPc, va_K.moved hW.alike hKc, hDc.weaken (fun _ _ _ _ => trivial)⟩, hN.warm hW, hZ.to hW.alike hU (fun q h => hFc q h)⟩⟩ rfl rfl hl.1 rfl (lv_room (Nat.le_of_ble_eq_true rfl)) dL_commit_3 ⟨Nat.le_of_ble_eq_true rfl, Nat.le_of_ble_eq_true rfl⟩) hS (fun q _ h => hFc q h) hFc (fun q h1 h2 => absurd h2 (Nat.not_le.mpr h1)) (fun E ce q9 u t H locs ht hvm _ hBX hz1 hk1 hS hce hcv hcl => ?_) (fun r u t H locs ht hvm hw hBu hz1 hk1 hS => ?_)
  · have hP : va_P (dC, dI) vwCl (wH A cI σ O cJ g) H := hP.kept (fun k x hx9 => hk1 x.1 ((hP k x hx9).lt) (Nat.not_le.mpr ((hP k x hx9).lt)))
    obtain ⟨rfl, hkk⟩ := hBX
    refine vx_catch hown (E := "java/lang/IllegalStateException") (name := "java/lang/IllegalStateException") ([] : List ExceptionTableEntry) ⟨0, 8, 11, 15⟩ ([] : List ExceptionTableEntry) htab (fun z hz => by cases hz) rfl (by decide) (hB _ mL_cl_ISE) (va_Nw.use rfl hN.2.2.2.2.1) hce hcv hcl ?_
    refine lv_astore_n hx hb dL_commit_11 rfl hl (by decide) rfl (fun ls hl => ?_)
    have hl : lv_has ls 3 [(2, .ref q9), (0, .ref (A 0)), (1, .ref O)] := hl
    refine lv_iconst (v := 1) hx hb dL_commit_12 (by decide) ?_
    exact W.iret (v := 1) hx hb hr (fun t ht hW => ⟨⟨1, (σ, g), rfl, ⟨by rw [hkk]; rfl, by rw [hU, hkk, if_neg (by decide)]⟩, by rw [ht]; exact hP, va_K.moved hW.alike hK, hD⟩, hS.F ht⟩) hS.2.2 dL_commit_13
  · obtain ⟨hkk, hw1, hw2⟩ := hw
    obtain ⟨hP1, hK1, hD1⟩ := hBu
    rw [ht, hw2] at hP1
    rw [hw2] at hD1
    rw [hw1]
    obtain ⟨hP, hD⟩ := va_join (wr := [(O, .inl (cJ, 1, .inr (.inl g)))]) (w1 := wO A cI (s_commit σ nb)) hP hD [0, 1, 2, 3, 4, 5, 6] [7] rfl rfl (by decide) (by decide) hk1 hFc hP1 hD1
    have hP := hP.sub (ws' := wH A cI (s_commit σ nb) O cJ g) [1, 2, 3, 4, 5, 6, 7, 0] rfl
    have hD := hD.sub (ws' := wH A cI (s_commit σ nb) O cJ g) [1, 2, 3, 4, 5, 6, 7, 0] (by decide) rfl
    refine lv_i2l (v := (r_commit σ nb).toInt64) hx hb dL_commit_6 rfl ?_
    refine va_last (D := (dC, dI)) (i := nI 0) (x := (r_commit σ nb).toInt64) hx hb hK hP hD hS 7 1 rfl rfl (vp_in_nI (n := 0) (by decide) (by decide)) dL_commit_7 (fun H locs hP hD hS => ?_)
    have hP : va_P (dC, dI) vwCl (wH A cI (s_commit σ nb) O cJ (vp_updL g 0 ((r_commit σ nb).toInt64))) H := hP
    have hD : va_D AA (wH A cI (s_commit σ nb) O cJ (vp_updL g 0 ((r_commit σ nb).toInt64))) := hD
    refine lv_goto (tgt := 14) hx hb dL_commit_8 rfl ?_
    refine lv_iconst (v := 0) hx hb dL_commit_14 (by decide) ?_
    exact W.iret (v := 0) hx hb hr (fun t ht hW => ⟨⟨0, (s_commit σ nb, vp_updL g 0 ((r_commit σ nb).toInt64)), rfl, ⟨by rw [hkk]; rfl, by rw [hU, hkk, if_pos rfl]⟩, by rw [ht]; exact hP, va_K.moved hW.alike hK, hD⟩, hS.F ht⟩) hS.2.2 dL_commit_15
set_option maxHeartbeats 4000000 in
set_option maxRecDepth 100000 in
theorem ch_abandon (l : Launch) (hlt : l.stackTraces = false) (dC : Nat → ClassId) (dI : Nat → Nat → Nat) (A : Nat → Nat) (cI : ClassId) (σ : OS) (O : Nat) (cJ : ClassId) (g : Nat → Int64) (sz : Nat) : Met l yL_abandon wsL_abandon (rkx 8) (va_Pc [.ref (A 0), .ref O] (hPre (dC, dI) A cI σ O cJ g sz)) (va_Qi (fun r u => r = nI (k_open σ) ∧ u = hU (k_open σ) σ (f_close σ) g ((oBs σ).toInt64)) (hBo (dC, dI) A cI O cJ (hX A cI σ O cJ g sz)) (hX A cI σ O cJ g sz)) 1 6 (hX A cI σ O cJ g sz) := by
  refine va_MetW (cc := cL_abandon) (maxL := 3) (ret := some .int) (hh := hh_abandon) (by decide) rfl ?_
  intro p e s m args below meth c s₁ Bd hml hv
  obtain ⟨rfl, hsz, hP, hK, hD0, hN, hZ, hC⟩ := hv
  have hx := Bd.exec
  have hb := Bd.bytes
  have hr := Bd.returns
  have hts := atoms_spec (ws := wsL_abandon) Bd.pre
  have htab : c.exceptionTable.toList = tableOf hh_abandon := vx_table (x := yL_abandon) Bd (hts _ List.mem_cons_self)
  have hB : ∀ w ∈ bL, w.before _ s = true := fun w h => hts w (List.mem_cons_of_mem _ h)
  have hown : s.vm.findClass RL = some m.cls := findClass_of_methodNamed Bd.named
  have hlocks := Bd.notSynchronized
  subst hsz
  have hD : va_D (hX A cI σ O cJ g s.heap.size) (wH A cI σ O cJ g) := hD0.self (sz := s.heap.size)
  have hA : ∀ q : Nat, s.heap.size ≤ q → hX A cI σ O cJ g s.heap.size q := fun q h => Or.inr h
  generalize hX A cI σ O cJ g s.heap.size = AA at hD hA hZ ⊢
  have hS : va_S AA s.heap s.heap [] := va_S.rf
  have hl := lv_entry ([.ref (A 0), .ref O]) (n := 3) (Nat.le_of_ble_eq_true rfl)
  rw [lg_entry_eq]
  generalize (lg_sl ([.ref (A 0), .ref O]) ++ List.replicate (3 - (lg_sl ([.ref (A 0), .ref O])).length) Slot.unset).toArray = ls at hl ⊢
  have hl : lv_has ls 3 [(0, .ref (A 0)), (1, .ref O)] := hl
  refine lv_aload_n hx hb dL_abandon_0 rfl (lv_at hl 1 rfl) ?_
  refine lv_iconst (v := 0) hx hb dL_abandon_1 (by decide) ?_
  refine lv_aload_n hx hb dL_abandon_2 rfl (lv_at hl 0 rfl) ?_
  have hFc := va_free (wc := wO A cI σ) hD hS hA [0, 1, 2, 3, 4, 5, 6] rfl
  have hPc := hP.sub (ws' := wO A cI σ) [0, 1, 2, 3, 4, 5, 6] rfl
  have hDc := hD.sub (ws' := wO A cI σ) [0, 1, 2, 3, 4, 5, 6] (by decide) rfl
  have hKc := hK.sub (tys' := [(cI, .int)]) [0] rfl
  refine vx_calli (vx_runV (C := RX0) (As := []) (rest := [.int 0, .ref O]) ⟨hx, hb, hml, hown, hB⟩ (cx0_abandon l hlt dC dI A cI σ s.heap.size ) (cwV 0 hB goL_abandon rfl rfl rfl ⟨rfl, by decide, by decide, by decide +kernel⟩ ⟨Nat.le_of_ble_eq_true rfl, Nat.le_of_ble_eq_true rfl⟩) ⟨fun a U gg mk q => by obtain ⟨q0, ⟨q1, qP, qK, qD⟩, qN, qZ⟩ := q; exact ⟨q0, ⟨q1, qP, va_K.moved (u := U) (U := U.calling gg mk a) (Vm.Alike.refl U.vm) qK, qD⟩, qN.same rfl, qZ.to (U := U.calling gg mk a) (Vm.Alike.refl U.vm) rfl (fun _ h => h)⟩, va_recv (q := (RX0, TX0, 12)) hK hP rfl (q0 := 0) rfl, fun U hU hW => ⟨rfl, ⟨by rw [hU], by rw [hU]; exact hPc, va_K.moved hW.alike hKc, hDc.weaken (fun _ _ _ _ => trivial)⟩, hN.warm hW, hZ.to hW.alike hU (fun q h => hFc q h)⟩⟩ rfl rfl hl.1 rfl (lv_room (Nat.le_of_ble_eq_true rfl)) dL_abandon_3 ⟨Nat.le_of_ble_eq_true rfl, Nat.le_of_ble_eq_true rfl⟩) hS (fun q _ h => hFc q h) hFc (fun q h1 h2 => absurd h2 (Nat.not_le.mpr h1)) (fun E ce q9 u t H locs ht hvm _ hBX hz1 hk1 hS hce hcv hcl => ?_) (fun r u t H locs ht hvm hw hBu hz1 hk1 hS => ?_)
  · have hP : va_P (dC, dI) vwCl (wH A cI σ O cJ g) H := hP.kept (fun k x hx9 => hk1 x.1 ((hP k x hx9).lt) (Nat.not_le.mpr ((hP k x hx9).lt)))
    obtain ⟨rfl, hkk⟩ := hBX
    refine vx_catch hown (E := "java/lang/IllegalStateException") (name := "java/lang/IllegalStateException") ([] : List ExceptionTableEntry) ⟨0, 8, 11, 15⟩ ([] : List ExceptionTableEntry) htab (fun z hz => by cases hz) rfl (by decide) (hB _ mL_cl_ISE) (va_Nw.use rfl hN.2.2.2.2.1) hce hcv hcl ?_
    refine lv_astore_n hx hb dL_abandon_11 rfl hl (by decide) rfl (fun ls hl => ?_)
    have hl : lv_has ls 3 [(2, .ref q9), (0, .ref (A 0)), (1, .ref O)] := hl
    refine lv_iconst (v := 1) hx hb dL_abandon_12 (by decide) ?_
    exact W.iret (v := 1) hx hb hr (fun t ht hW => ⟨⟨1, (σ, g), rfl, ⟨by rw [hkk]; rfl, by rw [hU, hkk, if_neg (by decide)]⟩, by rw [ht]; exact hP, va_K.moved hW.alike hK, hD⟩, hS.F ht⟩) hS.2.2 dL_abandon_13
  · obtain ⟨hkk, hw1, hw2⟩ := hw
    obtain ⟨hP1, hK1, hD1⟩ := hBu
    rw [ht, hw2] at hP1
    rw [hw2] at hD1
    rw [hw1]
    obtain ⟨hP, hD⟩ := va_join (wr := [(O, .inl (cJ, 1, .inr (.inl g)))]) (w1 := wO A cI (f_close σ)) hP hD [0, 1, 2, 3, 4, 5, 6] [7] rfl rfl (by decide) (by decide) hk1 hFc hP1 hD1
    have hP := hP.sub (ws' := wH A cI (f_close σ) O cJ g) [1, 2, 3, 4, 5, 6, 7, 0] rfl
    have hD := hD.sub (ws' := wH A cI (f_close σ) O cJ g) [1, 2, 3, 4, 5, 6, 7, 0] (by decide) rfl
    refine lv_i2l (v := (oBs σ).toInt64) hx hb dL_abandon_6 rfl ?_
    refine va_last (D := (dC, dI)) (i := nI 0) (x := (oBs σ).toInt64) hx hb hK hP hD hS 7 1 rfl rfl (vp_in_nI (n := 0) (by decide) (by decide)) dL_abandon_7 (fun H locs hP hD hS => ?_)
    have hP : va_P (dC, dI) vwCl (wH A cI (f_close σ) O cJ (vp_updL g 0 ((oBs σ).toInt64))) H := hP
    have hD : va_D AA (wH A cI (f_close σ) O cJ (vp_updL g 0 ((oBs σ).toInt64))) := hD
    refine lv_goto (tgt := 14) hx hb dL_abandon_8 rfl ?_
    refine lv_iconst (v := 0) hx hb dL_abandon_14 (by decide) ?_
    exact W.iret (v := 0) hx hb hr (fun t ht hW => ⟨⟨0, (f_close σ, vp_updL g 0 ((oBs σ).toInt64)), rfl, ⟨by rw [hkk]; rfl, by rw [hU, hkk, if_pos rfl]⟩, by rw [ht]; exact hP, va_K.moved hW.alike hK, hD⟩, hS.F ht⟩) hS.2.2 dL_abandon_15
set_option maxHeartbeats 4000000 in
set_option maxRecDepth 100000 in
theorem ch_left (l : Launch) (hlt : l.stackTraces = false) (dC : Nat → ClassId) (dI : Nat → Nat → Nat) (A : Nat → Nat) (cI : ClassId) (σ : OS) (O : Nat) (cJ : ClassId) (g : Nat → Int64) (sz : Nat) (x : Int32) : Met l yL_left wsL_left (rkx 8) (va_Pc [.ref (A 0), .int x, .ref O] (hPre (dC, dI) A cI σ O cJ g sz)) (va_Qi (fun r u => r = nI (k_left x) ∧ u = hU (k_left x) σ (σ) g ((r_left σ x).toInt64)) (hBo (dC, dI) A cI O cJ (hX A cI σ O cJ g sz)) (hX A cI σ O cJ g sz)) 1 6 (hX A cI σ O cJ g sz) := by
  refine va_MetW (cc := cL_left) (maxL := 4) (ret := some .int) (hh := hh_left) (by decide) rfl ?_
  intro p e s m args below meth c s₁ Bd hml hv
  obtain ⟨rfl, hsz, hP, hK, hD0, hN, hZ, hC⟩ := hv
  have hx := Bd.exec
  have hb := Bd.bytes
  have hr := Bd.returns
  have hts := atoms_spec (ws := wsL_left) Bd.pre
  have htab : c.exceptionTable.toList = tableOf hh_left := vx_table (x := yL_left) Bd (hts _ List.mem_cons_self)
  have hB : ∀ w ∈ bL, w.before _ s = true := fun w h => hts w (List.mem_cons_of_mem _ h)
  have hown : s.vm.findClass RL = some m.cls := findClass_of_methodNamed Bd.named
  have hlocks := Bd.notSynchronized
  subst hsz
  have hD : va_D (hX A cI σ O cJ g s.heap.size) (wH A cI σ O cJ g) := hD0.self (sz := s.heap.size)
  have hA : ∀ q : Nat, s.heap.size ≤ q → hX A cI σ O cJ g s.heap.size q := fun q h => Or.inr h
  generalize hX A cI σ O cJ g s.heap.size = AA at hD hA hZ ⊢
  have hS : va_S AA s.heap s.heap [] := va_S.rf
  have hl := lv_entry ([.ref (A 0), .int x, .ref O]) (n := 4) (Nat.le_of_ble_eq_true rfl)
  rw [lg_entry_eq]
  generalize (lg_sl ([.ref (A 0), .int x, .ref O]) ++ List.replicate (4 - (lg_sl ([.ref (A 0), .int x, .ref O])).length) Slot.unset).toArray = ls at hl ⊢
  have hl : lv_has ls 4 [(0, .ref (A 0)), (1, .int x), (2, .ref O)] := hl
  refine lv_aload_n hx hb dL_left_0 rfl (lv_at hl 2 rfl) ?_
  refine lv_iconst (v := 0) hx hb dL_left_1 (by decide) ?_
  refine lv_aload_n hx hb dL_left_2 rfl (lv_at hl 0 rfl) ?_
  refine lv_iload_n hx hb dL_left_3 rfl (lv_at hl 1 rfl) ?_
  have hFc := va_free (wc := wO A cI σ) hD hS hA [0, 1, 2, 3, 4, 5, 6] rfl
  have hPc := hP.sub (ws' := wO A cI σ) [0, 1, 2, 3, 4, 5, 6] rfl
  have hDc := hD.sub (ws' := wO A cI σ) [0, 1, 2, 3, 4, 5, 6] (by decide) rfl
  have hKc := hK.sub (tys' := [(cI, .int)]) [0] rfl
  refine vx_calli (vx_runV (C := RX0) (As := [.int x]) (rest := [.int 0, .ref O]) ⟨hx, hb, hml, hown, hB⟩ (cx0_left l hlt dC dI A cI σ s.heap.size x) (cwV 1 hB goL_left rfl rfl rfl ⟨rfl, by decide, by decide, by decide +kernel⟩ ⟨Nat.le_of_ble_eq_true rfl, Nat.le_of_ble_eq_true rfl⟩) ⟨fun a U gg mk q => by obtain ⟨q0, ⟨q1, qP, qK, qD⟩, qN, qZ⟩ := q; exact ⟨q0, ⟨q1, qP, va_K.moved (u := U) (U := U.calling gg mk a) (Vm.Alike.refl U.vm) qK, qD⟩, qN.same rfl, qZ.to (U := U.calling gg mk a) (Vm.Alike.refl U.vm) rfl (fun _ h => h)⟩, va_recv (q := (RX0, TX0, 12)) hK hP rfl (q0 := 0) rfl, fun U hU hW => ⟨rfl, ⟨by rw [hU], by rw [hU]; exact hPc, va_K.moved hW.alike hKc, hDc.weaken (fun _ _ _ _ => trivial)⟩, hN.warm hW, hZ.to hW.alike hU (fun q h => hFc q h)⟩⟩ rfl rfl hl.1 rfl (lv_room (Nat.le_of_ble_eq_true rfl)) dL_left_4 ⟨Nat.le_of_ble_eq_true rfl, Nat.le_of_ble_eq_true rfl⟩) hS (fun q _ h => hFc q h) hFc (fun q h1 h2 => absurd h2 (Nat.not_le.mpr h1)) (fun E ce q9 u t H locs ht hvm _ hBX hz1 hk1 hS hce hcv hcl => ?_) (fun r u t H locs ht hvm hw hBu hz1 hk1 hS => ?_)
  · have hP : va_P (dC, dI) vwCl (wH A cI σ O cJ g) H := hP.kept (fun k x hx9 => hk1 x.1 ((hP k x hx9).lt) (Nat.not_le.mpr ((hP k x hx9).lt)))
    obtain ⟨rfl, hkk⟩ := hBX
    refine vx_catch hown (E := "java/lang/IllegalArgumentException") (name := "java/lang/IllegalArgumentException") ([] : List ExceptionTableEntry) ⟨0, 9, 12, 13⟩ ([] : List ExceptionTableEntry) htab (fun z hz => by cases hz) rfl (by decide) (hB _ mL_cl_IAE) (va_Nw.use rfl hN.2.2.2.1) hce hcv hcl ?_
    refine lv_astore_n hx hb dL_left_12 rfl hl (by decide) rfl (fun ls hl => ?_)
    have hl : lv_has ls 4 [(3, .ref q9), (0, .ref (A 0)), (1, .int x), (2, .ref O)] := hl
    refine lv_iconst (v := 1) hx hb dL_left_13 (by decide) ?_
    exact W.iret (v := 1) hx hb hr (fun t ht hW => ⟨⟨1, (σ, g), rfl, ⟨by rw [hkk]; rfl, by rw [hU, hkk, if_neg (by decide)]⟩, by rw [ht]; exact hP, va_K.moved hW.alike hK, hD⟩, hS.F ht⟩) hS.2.2 dL_left_14
  · obtain ⟨hkk, hw1, hw2⟩ := hw
    obtain ⟨hP1, hK1, hD1⟩ := hBu
    rw [ht, hw2] at hP1
    rw [hw2] at hD1
    rw [hw1]
    obtain ⟨hP, hD⟩ := va_join (wr := [(O, .inl (cJ, 1, .inr (.inl g)))]) (w1 := wO A cI (σ)) hP hD [0, 1, 2, 3, 4, 5, 6] [7] rfl rfl (by decide) (by decide) hk1 hFc hP1 hD1
    have hP := hP.sub (ws' := wH A cI (σ) O cJ g) [1, 2, 3, 4, 5, 6, 7, 0] rfl
    have hD := hD.sub (ws' := wH A cI (σ) O cJ g) [1, 2, 3, 4, 5, 6, 7, 0] (by decide) rfl
    refine lv_i2l (v := (r_left σ x).toInt64) hx hb dL_left_7 rfl ?_
    refine va_last (D := (dC, dI)) (i := nI 0) (x := (r_left σ x).toInt64) hx hb hK hP hD hS 7 1 rfl rfl (vp_in_nI (n := 0) (by decide) (by decide)) dL_left_8 (fun H locs hP hD hS => ?_)
    have hP : va_P (dC, dI) vwCl (wH A cI (σ) O cJ (vp_updL g 0 ((r_left σ x).toInt64))) H := hP
    have hD : va_D AA (wH A cI (σ) O cJ (vp_updL g 0 ((r_left σ x).toInt64))) := hD
    refine lv_goto (tgt := 15) hx hb dL_left_9 rfl ?_
    refine lv_iconst (v := 0) hx hb dL_left_15 (by decide) ?_
    exact W.iret (v := 0) hx hb hr (fun t ht hW => ⟨⟨0, (σ, vp_updL g 0 ((r_left σ x).toInt64)), rfl, ⟨by rw [hkk]; rfl, by rw [hU, hkk, if_pos rfl]⟩, by rw [ht]; exact hP, va_K.moved hW.alike hK, hD⟩, hS.F ht⟩) hS.2.2 dL_left_16
set_option maxHeartbeats 4000000 in
set_option maxRecDepth 100000 in
theorem ch_cell (l : Launch) (hlt : l.stackTraces = false) (dC : Nat → ClassId) (dI : Nat → Nat → Nat) (A : Nat → Nat) (cI : ClassId) (σ : OS) (O : Nat) (cJ : ClassId) (g : Nat → Int64) (sz : Nat) (a : Int32) (b : Int32) (d : Int32) : Met l yL_cell wsL_cell (rkx 8) (va_Pc [.ref (A 0), .int a, .int b, .int d, .ref O] (hPre (dC, dI) A cI σ O cJ g sz)) (va_Qi (fun r u => r = nI (k_cell a b d) ∧ u = hU (k_cell a b d) σ (σ) g ((r_cell σ a b d).toInt64)) (hBo (dC, dI) A cI O cJ (hX A cI σ O cJ g sz)) (hX A cI σ O cJ g sz)) 1 6 (hX A cI σ O cJ g sz) := by
  refine va_MetW (cc := cL_cell) (maxL := 6) (ret := some .int) (hh := hh_cell) (by decide) rfl ?_
  intro p e s m args below meth c s₁ Bd hml hv
  obtain ⟨rfl, hsz, hP, hK, hD0, hN, hZ, hC⟩ := hv
  have hx := Bd.exec
  have hb := Bd.bytes
  have hr := Bd.returns
  have hts := atoms_spec (ws := wsL_cell) Bd.pre
  have htab : c.exceptionTable.toList = tableOf hh_cell := vx_table (x := yL_cell) Bd (hts _ List.mem_cons_self)
  have hB : ∀ w ∈ bL, w.before _ s = true := fun w h => hts w (List.mem_cons_of_mem _ h)
  have hown : s.vm.findClass RL = some m.cls := findClass_of_methodNamed Bd.named
  have hlocks := Bd.notSynchronized
  subst hsz
  have hD : va_D (hX A cI σ O cJ g s.heap.size) (wH A cI σ O cJ g) := hD0.self (sz := s.heap.size)
  have hA : ∀ q : Nat, s.heap.size ≤ q → hX A cI σ O cJ g s.heap.size q := fun q h => Or.inr h
  generalize hX A cI σ O cJ g s.heap.size = AA at hD hA hZ ⊢
  have hS : va_S AA s.heap s.heap [] := va_S.rf
  have hl := lv_entry ([.ref (A 0), .int a, .int b, .int d, .ref O]) (n := 6) (Nat.le_of_ble_eq_true rfl)
  rw [lg_entry_eq]
  generalize (lg_sl ([.ref (A 0), .int a, .int b, .int d, .ref O]) ++ List.replicate (6 - (lg_sl ([.ref (A 0), .int a, .int b, .int d, .ref O])).length) Slot.unset).toArray = ls at hl ⊢
  have hl : lv_has ls 6 [(0, .ref (A 0)), (1, .int a), (2, .int b), (3, .int d), (4, .ref O)] := hl
  refine lv_aload hx hb dL_cell_0 (lv_at hl 4 rfl) ?_
  refine lv_iconst (v := 0) hx hb dL_cell_2 (by decide) ?_
  refine lv_aload_n hx hb dL_cell_3 rfl (lv_at hl 0 rfl) ?_
  refine lv_iload_n hx hb dL_cell_4 rfl (lv_at hl 1 rfl) ?_
  refine lv_iload_n hx hb dL_cell_5 rfl (lv_at hl 2 rfl) ?_
  refine lv_iload_n hx hb dL_cell_6 rfl (lv_at hl 3 rfl) ?_
  have hFc := va_free (wc := wO A cI σ) hD hS hA [0, 1, 2, 3, 4, 5, 6] rfl
  have hPc := hP.sub (ws' := wO A cI σ) [0, 1, 2, 3, 4, 5, 6] rfl
  have hDc := hD.sub (ws' := wO A cI σ) [0, 1, 2, 3, 4, 5, 6] (by decide) rfl
  have hKc := hK.sub (tys' := [(cI, .int)]) [0] rfl
  refine vx_calli (vx_runV (C := RX0) (As := [.int a, .int b, .int d]) (rest := [.int 0, .ref O]) ⟨hx, hb, hml, hown, hB⟩ (cx0_cell l hlt dC dI A cI σ s.heap.size a b d) (cwV 3 hB goL_cell rfl rfl rfl ⟨rfl, by decide, by decide, by decide +kernel⟩ ⟨Nat.le_of_ble_eq_true rfl, Nat.le_of_ble_eq_true rfl⟩) ⟨fun a U gg mk q => by obtain ⟨q0, ⟨q1, qP, qK, qD⟩, qN, qZ⟩ := q; exact ⟨q0, ⟨q1, qP, va_K.moved (u := U) (U := U.calling gg mk a) (Vm.Alike.refl U.vm) qK, qD⟩, qN.same rfl, qZ.to (U := U.calling gg mk a) (Vm.Alike.refl U.vm) rfl (fun _ h => h)⟩, va_recv (q := (RX0, TX0, 12)) hK hP rfl (q0 := 0) rfl, fun U hU hW => ⟨rfl, ⟨by rw [hU], by rw [hU]; exact hPc, va_K.moved hW.alike hKc, hDc.weaken (fun _ _ _ _ => trivial)⟩, hN.warm hW, hZ.to hW.alike hU (fun q h => hFc q h)⟩⟩ rfl rfl hl.1 rfl (lv_room (Nat.le_of_ble_eq_true rfl)) dL_cell_7 ⟨Nat.le_of_ble_eq_true rfl, Nat.le_of_ble_eq_true rfl⟩) hS (fun q _ h => hFc q h) hFc (fun q h1 h2 => absurd h2 (Nat.not_le.mpr h1)) (fun E ce q9 u t H locs ht hvm _ hBX hz1 hk1 hS hce hcv hcl => ?_) (fun r u t H locs ht hvm hw hBu hz1 hk1 hS => ?_)
  · have hP : va_P (dC, dI) vwCl (wH A cI σ O cJ g) H := hP.kept (fun k x hx9 => hk1 x.1 ((hP k x hx9).lt) (Nat.not_le.mpr ((hP k x hx9).lt)))
    obtain ⟨rfl, hkk⟩ := hBX
    refine vx_catch hown (E := "java/lang/IndexOutOfBoundsException") (name := "java/lang/IndexOutOfBoundsException") ([] : List ExceptionTableEntry) ⟨0, 12, 15, 45⟩ ([] : List ExceptionTableEntry) htab (fun z hz => by cases hz) rfl (by decide) (hB _ mL_cl_IOB) (va_Nw.use rfl hN.2.2.2.2.2) hce hcv hcl ?_
    refine lv_astore hx hb dL_cell_15 hl (by decide) rfl (fun ls hl => ?_)
    have hl : lv_has ls 6 [(5, .ref q9), (0, .ref (A 0)), (1, .int a), (2, .int b), (3, .int d), (4, .ref O)] := hl
    refine lv_iconst (v := 1) hx hb dL_cell_17 (by decide) ?_
    exact W.iret (v := 1) hx hb hr (fun t ht hW => ⟨⟨1, (σ, g), rfl, ⟨by rw [hkk]; rfl, by rw [hU, hkk, if_neg (by decide)]⟩, by rw [ht]; exact hP, va_K.moved hW.alike hK, hD⟩, hS.F ht⟩) hS.2.2 dL_cell_18
  · obtain ⟨hkk, hw1, hw2⟩ := hw
    obtain ⟨hP1, hK1, hD1⟩ := hBu
    rw [ht, hw2] at hP1
    rw [hw2] at hD1
    rw [hw1]
    obtain ⟨hP, hD⟩ := va_join (wr := [(O, .inl (cJ, 1, .inr (.inl g)))]) (w1 := wO A cI (σ)) hP hD [0, 1, 2, 3, 4, 5, 6] [7] rfl rfl (by decide) (by decide) hk1 hFc hP1 hD1
    have hP := hP.sub (ws' := wH A cI (σ) O cJ g) [1, 2, 3, 4, 5, 6, 7, 0] rfl
    have hD := hD.sub (ws' := wH A cI (σ) O cJ g) [1, 2, 3, 4, 5, 6, 7, 0] (by decide) rfl
    refine lv_i2l (v := (r_cell σ a b d).toInt64) hx hb dL_cell_10 rfl ?_
    refine va_last (D := (dC, dI)) (i := nI 0) (x := (r_cell σ a b d).toInt64) hx hb hK hP hD hS 7 1 rfl rfl (vp_in_nI (n := 0) (by decide) (by decide)) dL_cell_11 (fun H locs hP hD hS => ?_)
    have hP : va_P (dC, dI) vwCl (wH A cI (σ) O cJ (vp_updL g 0 ((r_cell σ a b d).toInt64))) H := hP
    have hD : va_D AA (wH A cI (σ) O cJ (vp_updL g 0 ((r_cell σ a b d).toInt64))) := hD
    refine lv_goto (tgt := 19) hx hb dL_cell_12 rfl ?_
    refine lv_iconst (v := 0) hx hb dL_cell_19 (by decide) ?_
    exact W.iret (v := 0) hx hb hr (fun t ht hW => ⟨⟨0, (σ, vp_updL g 0 ((r_cell σ a b d).toInt64)), rfl, ⟨by rw [hkk]; rfl, by rw [hU, hkk, if_pos rfl]⟩, by rw [ht]; exact hP, va_K.moved hW.alike hK, hD⟩, hS.F ht⟩) hS.2.2 dL_cell_20
set_option maxHeartbeats 4000000 in
set_option maxRecDepth 100000 in
theorem ch_failAfter (l : Launch) (hlt : l.stackTraces = false) (dC : Nat → ClassId) (dI : Nat → Nat → Nat) (A : Nat → Nat) (cI : ClassId) (σ : OS) (O : Nat) (cJ : ClassId) (g : Nat → Int64) (sz : Nat) (x : Int32) : Met l yL_failAfter wsL_failAfter (rkx 8) (va_Pc [.ref (A 0), .int x] (hPre (dC, dI) A cI σ O cJ g sz)) (va_Qi (fun r u => r = nI (k_fail σ x) ∧ u = hV (k_fail σ x) σ (s_fail σ x) g) (hBo (dC, dI) A cI O cJ (hX A cI σ O cJ g sz)) (hX A cI σ O cJ g sz)) 1 6 (hX A cI σ O cJ g sz) := by
  refine va_MetW (cc := cL_failAfter) (maxL := 3) (ret := some .int) (hh := hh_failAfter) (by decide) rfl ?_
  intro p e s m args below meth c s₁ Bd hml hv
  obtain ⟨rfl, hsz, hP, hK, hD0, hN, hZ, hC⟩ := hv
  have hx := Bd.exec
  have hb := Bd.bytes
  have hr := Bd.returns
  have hts := atoms_spec (ws := wsL_failAfter) Bd.pre
  have htab : c.exceptionTable.toList = tableOf hh_failAfter := vx_table (x := yL_failAfter) Bd (hts _ List.mem_cons_self)
  have hB : ∀ w ∈ bL, w.before _ s = true := fun w h => hts w (List.mem_cons_of_mem _ h)
  have hown : s.vm.findClass RL = some m.cls := findClass_of_methodNamed Bd.named
  have hlocks := Bd.notSynchronized
  subst hsz
  have hD : va_D (hX A cI σ O cJ g s.heap.size) (wH A cI σ O cJ g) := hD0.self (sz := s.heap.size)
  have hA : ∀ q : Nat, s.heap.size ≤ q → hX A cI σ O cJ g s.heap.size q := fun q h => Or.inr h
  generalize hX A cI σ O cJ g s.heap.size = AA at hD hA hZ ⊢
  have hS : va_S AA s.heap s.heap [] := va_S.rf
  have hl := lv_entry ([.ref (A 0), .int x]) (n := 3) (Nat.le_of_ble_eq_true rfl)
  rw [lg_entry_eq]
  generalize (lg_sl ([.ref (A 0), .int x]) ++ List.replicate (3 - (lg_sl ([.ref (A 0), .int x])).length) Slot.unset).toArray = ls at hl ⊢
  have hl : lv_has ls 3 [(0, .ref (A 0)), (1, .int x)] := hl
  refine lv_aload_n hx hb dL_failAfter_0 rfl (lv_at hl 0 rfl) ?_
  refine lv_iload_n hx hb dL_failAfter_1 rfl (lv_at hl 1 rfl) ?_
  have hFc := va_free (wc := wO A cI σ) hD hS hA [0, 1, 2, 3, 4, 5, 6] rfl
  have hPc := hP.sub (ws' := wO A cI σ) [0, 1, 2, 3, 4, 5, 6] rfl
  have hDc := hD.sub (ws' := wO A cI σ) [0, 1, 2, 3, 4, 5, 6] (by decide) rfl
  have hKc := hK.sub (tys' := [(cI, .int)]) [0] rfl
  refine vx_callv (vx_runV (C := RX0) (As := [.int x]) (rest := []) ⟨hx, hb, hml, hown, hB⟩ (cx0_failAfter l hlt dC dI A cI σ s.heap.size x) (cwV 1 hB goL_failAfter rfl rfl rfl ⟨rfl, by decide, by decide, by decide +kernel⟩ ⟨Nat.le_of_ble_eq_true rfl, Nat.le_of_ble_eq_true rfl⟩) ⟨fun a U gg mk q => by obtain ⟨q0, ⟨q1, qP, qK, qD⟩, qN, qZ⟩ := q; exact ⟨q0, ⟨q1, qP, va_K.moved (u := U) (U := U.calling gg mk a) (Vm.Alike.refl U.vm) qK, qD⟩, qN.same rfl, qZ.to (U := U.calling gg mk a) (Vm.Alike.refl U.vm) rfl (fun _ h => h)⟩, va_recv (q := (RX0, TX0, 12)) hK hP rfl (q0 := 0) rfl, fun U hU hW => ⟨rfl, ⟨by rw [hU], by rw [hU]; exact hPc, va_K.moved hW.alike hKc, hDc.weaken (fun _ _ _ _ => trivial)⟩, hN.warm hW, hZ.to hW.alike hU (fun q h => hFc q h)⟩⟩ rfl rfl hl.1 rfl (lv_room (Nat.le_of_ble_eq_true rfl)) dL_failAfter_2 ⟨Nat.le_of_ble_eq_true rfl, Nat.le_of_ble_eq_true rfl⟩) hS (fun q _ h => hFc q h) hFc (fun q h1 h2 => absurd h2 (Nat.not_le.mpr h1)) (fun E ce q9 u t H locs ht hvm _ hBX hz1 hk1 hS hce hcv hcl => ?_) (fun u t H locs ht hvm hw hBu hz1 hk1 hS => ?_)
  · have hP : va_P (dC, dI) vwCl (wH A cI σ O cJ g) H := hP.kept (fun k x hx9 => hk1 x.1 ((hP k x hx9).lt) (Nat.not_le.mpr ((hP k x hx9).lt)))
    rcases hBX with ⟨rfl, hkk⟩ | ⟨rfl, hkk⟩
    · skip
      refine vx_catch hown (E := "java/lang/IllegalArgumentException") (name := "java/lang/IllegalArgumentException") ([] : List ExceptionTableEntry) ⟨0, 5, 8, 13⟩ ([⟨0, 5, 11, 15⟩] : List ExceptionTableEntry) htab (fun z hz => by cases hz) rfl (by decide) (hB _ mL_cl_IAE) (va_Nw.use rfl hN.2.2.2.1) hce hcv hcl ?_
      refine lv_astore_n hx hb dL_failAfter_8 rfl hl (by decide) rfl (fun ls hl => ?_)
      have hl : lv_has ls 3 [(2, .ref q9), (0, .ref (A 0)), (1, .int x)] := hl
      refine lv_iconst (v := 1) hx hb dL_failAfter_9 (by decide) ?_
      exact W.iret (v := 1) hx hb hr (fun t ht hW => ⟨⟨1, (σ, g), rfl, ⟨by rw [hkk]; rfl, by rw [hV, hkk, if_neg (by decide)]⟩, by rw [ht]; exact hP, va_K.moved hW.alike hK, hD⟩, hS.F ht⟩) hS.2.2 dL_failAfter_10
    · skip
      refine vx_catch hown (E := "java/lang/IllegalStateException") (name := "java/lang/IllegalStateException") ([⟨0, 5, 8, 13⟩] : List ExceptionTableEntry) ⟨0, 5, 11, 15⟩ ([] : List ExceptionTableEntry) htab (fun z hz => by rw [List.mem_singleton.mp hz]; exact Or.inr ⟨by decide, "java/lang/IllegalArgumentException", hB _ mL_cl_IAE, hC.1⟩) rfl (by decide) (hB _ mL_cl_ISE) (va_Nw.use rfl hN.2.2.2.2.1) hce hcv hcl ?_
      refine lv_astore_n hx hb dL_failAfter_11 rfl hl (by decide) rfl (fun ls hl => ?_)
      have hl : lv_has ls 3 [(2, .ref q9), (0, .ref (A 0)), (1, .int x)] := hl
      refine lv_iconst (v := 2) hx hb dL_failAfter_12 (by decide) ?_
      exact W.iret (v := 2) hx hb hr (fun t ht hW => ⟨⟨2, (σ, g), rfl, ⟨by rw [hkk]; rfl, by rw [hV, hkk, if_neg (by decide)]⟩, by rw [ht]; exact hP, va_K.moved hW.alike hK, hD⟩, hS.F ht⟩) hS.2.2 dL_failAfter_13
  · obtain ⟨hkk, hw2⟩ := hw
    obtain ⟨hP1, hK1, hD1⟩ := hBu
    rw [ht, hw2] at hP1
    rw [hw2] at hD1
    obtain ⟨hP, hD⟩ := va_join (wr := [(O, .inl (cJ, 1, .inr (.inl g)))]) (w1 := wO A cI (s_fail σ x)) hP hD [0, 1, 2, 3, 4, 5, 6] [7] rfl rfl (by decide) (by decide) hk1 hFc hP1 hD1
    have hP := hP.sub (ws' := wH A cI (s_fail σ x) O cJ g) [1, 2, 3, 4, 5, 6, 7, 0] rfl
    have hD := hD.sub (ws' := wH A cI (s_fail σ x) O cJ g) [1, 2, 3, 4, 5, 6, 7, 0] (by decide) rfl
    refine lv_goto (tgt := 14) hx hb dL_failAfter_5 rfl ?_
    refine lv_iconst (v := 0) hx hb dL_failAfter_14 (by decide) ?_
    exact W.iret (v := 0) hx hb hr (fun t ht hW => ⟨⟨0, (s_fail σ x, g), rfl, ⟨by rw [hkk]; rfl, by rw [hV, hkk, if_pos rfl]⟩, by rw [ht]; exact hP, va_K.moved hW.alike hK, hD⟩, hS.F ht⟩) hS.2.2 dL_failAfter_15
set_option maxHeartbeats 4000000 in
set_option maxRecDepth 100000 in
theorem ch_mount (l : Launch) (hlt : l.stackTraces = false) (dC : Nat → ClassId) (dI : Nat → Nat → Nat) (A : Nat → Nat) (cI : ClassId) (σ : OS) (O : Nat) (cJ : ClassId) (g : Nat → Int64) (sz : Nat) : Met l yL_mount wsL_mount (rkx 8) (va_Pc [.ref (A 0), .ref O] (hPre (dC, dI) A cI σ O cJ g sz)) (va_Qi (fun r u => r = nI (k_mount σ) ∧ u = hU (k_mount σ) σ (s_mount σ) g ((r_mount σ).toInt64)) (hBo (dC, dI) A cI O cJ (hX A cI σ O cJ g sz)) (hX A cI σ O cJ g sz)) 1 6 (hX A cI σ O cJ g sz) := by
  refine va_MetW (cc := cL_mount) (maxL := 3) (ret := some .int) (hh := hh_mount) (by decide) rfl ?_
  intro p e s m args below meth c s₁ Bd hml hv
  obtain ⟨rfl, hsz, hP, hK, hD0, hN, hZ, hC⟩ := hv
  have hx := Bd.exec
  have hb := Bd.bytes
  have hr := Bd.returns
  have hts := atoms_spec (ws := wsL_mount) Bd.pre
  have htab : c.exceptionTable.toList = tableOf hh_mount := vx_table (x := yL_mount) Bd (hts _ List.mem_cons_self)
  have hB : ∀ w ∈ bL, w.before _ s = true := fun w h => hts w (List.mem_cons_of_mem _ h)
  have hown : s.vm.findClass RL = some m.cls := findClass_of_methodNamed Bd.named
  have hlocks := Bd.notSynchronized
  subst hsz
  have hD : va_D (hX A cI σ O cJ g s.heap.size) (wH A cI σ O cJ g) := hD0.self (sz := s.heap.size)
  have hA : ∀ q : Nat, s.heap.size ≤ q → hX A cI σ O cJ g s.heap.size q := fun q h => Or.inr h
  generalize hX A cI σ O cJ g s.heap.size = AA at hD hA hZ ⊢
  have hS : va_S AA s.heap s.heap [] := va_S.rf
  have hl := lv_entry ([.ref (A 0), .ref O]) (n := 3) (Nat.le_of_ble_eq_true rfl)
  rw [lg_entry_eq]
  generalize (lg_sl ([.ref (A 0), .ref O]) ++ List.replicate (3 - (lg_sl ([.ref (A 0), .ref O])).length) Slot.unset).toArray = ls at hl ⊢
  have hl : lv_has ls 3 [(0, .ref (A 0)), (1, .ref O)] := hl
  refine lv_aload_n hx hb dL_mount_0 rfl (lv_at hl 1 rfl) ?_
  refine lv_iconst (v := 0) hx hb dL_mount_1 (by decide) ?_
  refine lv_aload_n hx hb dL_mount_2 rfl (lv_at hl 0 rfl) ?_
  have hFc := va_free (wc := wO A cI σ) hD hS hA [0, 1, 2, 3, 4, 5, 6] rfl
  have hPc := hP.sub (ws' := wO A cI σ) [0, 1, 2, 3, 4, 5, 6] rfl
  have hDc := hD.sub (ws' := wO A cI σ) [0, 1, 2, 3, 4, 5, 6] (by decide) rfl
  have hKc := hK.sub (tys' := [(cI, .int)]) [0] rfl
  refine vx_calli (vx_runV (C := RX0) (As := []) (rest := [.int 0, .ref O]) ⟨hx, hb, hml, hown, hB⟩ (cx0_mount l hlt dC dI A cI σ s.heap.size ) (cwV 0 hB goL_mount rfl rfl rfl ⟨rfl, by decide, by decide, by decide +kernel⟩ ⟨Nat.le_of_ble_eq_true rfl, Nat.le_of_ble_eq_true rfl⟩) ⟨fun a U gg mk q => by obtain ⟨q0, ⟨q1, qP, qK, qD⟩, qN, qZ⟩ := q; exact ⟨q0, ⟨q1, qP, va_K.moved (u := U) (U := U.calling gg mk a) (Vm.Alike.refl U.vm) qK, qD⟩, qN.same rfl, qZ.to (U := U.calling gg mk a) (Vm.Alike.refl U.vm) rfl (fun _ h => h)⟩, va_recv (q := (RX0, TX0, 12)) hK hP rfl (q0 := 0) rfl, fun U hU hW => ⟨rfl, ⟨by rw [hU], by rw [hU]; exact hPc, va_K.moved hW.alike hKc, hDc.weaken (fun _ _ _ _ => trivial)⟩, hN.warm hW, hZ.to hW.alike hU (fun q h => hFc q h)⟩⟩ rfl rfl hl.1 rfl (lv_room (Nat.le_of_ble_eq_true rfl)) dL_mount_3 ⟨Nat.le_of_ble_eq_true rfl, Nat.le_of_ble_eq_true rfl⟩) hS (fun q _ h => hFc q h) hFc (fun q h1 h2 => absurd h2 (Nat.not_le.mpr h1)) (fun E ce q9 u t H locs ht hvm _ hBX hz1 hk1 hS hce hcv hcl => ?_) (fun r u t H locs ht hvm hw hBu hz1 hk1 hS => ?_)
  · have hP : va_P (dC, dI) vwCl (wH A cI σ O cJ g) H := hP.kept (fun k x hx9 => hk1 x.1 ((hP k x hx9).lt) (Nat.not_le.mpr ((hP k x hx9).lt)))
    obtain ⟨rfl, hkk⟩ := hBX
    refine vx_catch hown (E := "java/lang/IllegalStateException") (name := "java/lang/IllegalStateException") ([] : List ExceptionTableEntry) ⟨0, 8, 11, 15⟩ ([] : List ExceptionTableEntry) htab (fun z hz => by cases hz) rfl (by decide) (hB _ mL_cl_ISE) (va_Nw.use rfl hN.2.2.2.2.1) hce hcv hcl ?_
    refine lv_astore_n hx hb dL_mount_11 rfl hl (by decide) rfl (fun ls hl => ?_)
    have hl : lv_has ls 3 [(2, .ref q9), (0, .ref (A 0)), (1, .ref O)] := hl
    refine lv_iconst (v := 1) hx hb dL_mount_12 (by decide) ?_
    exact W.iret (v := 1) hx hb hr (fun t ht hW => ⟨⟨1, (σ, g), rfl, ⟨by rw [hkk]; rfl, by rw [hU, hkk, if_neg (by decide)]⟩, by rw [ht]; exact hP, va_K.moved hW.alike hK, hD⟩, hS.F ht⟩) hS.2.2 dL_mount_13
  · obtain ⟨hkk, hw1, hw2⟩ := hw
    obtain ⟨hP1, hK1, hD1⟩ := hBu
    rw [ht, hw2] at hP1
    rw [hw2] at hD1
    rw [hw1]
    clear hw2
    generalize s_mount σ = S2 at hP1 hD1 ⊢
    obtain ⟨hP, hD⟩ := va_join (wr := [(O, .inl (cJ, 1, .inr (.inl g)))]) (w1 := wO A cI (S2)) hP hD [0, 1, 2, 3, 4, 5, 6] [7] rfl rfl (by decide) (by decide) hk1 hFc hP1 hD1
    have hP := hP.sub (ws' := wH A cI (S2) O cJ g) [1, 2, 3, 4, 5, 6, 7, 0] rfl
    have hD := hD.sub (ws' := wH A cI (S2) O cJ g) [1, 2, 3, 4, 5, 6, 7, 0] (by decide) rfl
    refine lv_i2l (v := (r_mount σ).toInt64) hx hb dL_mount_6 rfl ?_
    refine va_last (D := (dC, dI)) (i := nI 0) (x := (r_mount σ).toInt64) hx hb hK hP hD hS 7 1 rfl rfl (vp_in_nI (n := 0) (by decide) (by decide)) dL_mount_7 (fun H locs hP hD hS => ?_)
    have hP : va_P (dC, dI) vwCl (wH A cI (S2) O cJ (vp_updL g 0 ((r_mount σ).toInt64))) H := hP
    have hD : va_D AA (wH A cI (S2) O cJ (vp_updL g 0 ((r_mount σ).toInt64))) := hD
    refine lv_goto (tgt := 14) hx hb dL_mount_8 rfl ?_
    refine lv_iconst (v := 0) hx hb dL_mount_14 (by decide) ?_
    exact W.iret (v := 0) hx hb hr (fun t ht hW => ⟨⟨0, (S2, vp_updL g 0 ((r_mount σ).toInt64)), rfl, ⟨by rw [hkk]; rfl, by rw [hU, hkk, if_pos rfl]⟩, by rw [ht]; exact hP, va_K.moved hW.alike hK, hD⟩, hS.F ht⟩) hS.2.2 dL_mount_15
set_option maxHeartbeats 4000000 in
set_option maxRecDepth 100000 in
theorem ch_words (l : Launch) (hlt : l.stackTraces = false) (dC : Nat → ClassId) (dI : Nat → Nat → Nat) (A : Nat → Nat) (cI : ClassId) (σ : OS) (O : Nat) (cJ : ClassId) (g : Nat → Int64) (sz : Nat) (key : Int32) : Met l yL_words wsL_words (rkx 8) (va_Pc [.ref (A 0), .int key, .ref O] (hPre (dC, dI) A cI σ O cJ g sz)) (va_Qi (fun r u => r = nI (k_words key) ∧ u = hU (k_words key) σ (σ) g ((f_cnt (fun w => decide (oT σ w = key + 128)) 160 0 0).toInt64)) (hBo (dC, dI) A cI O cJ (hX A cI σ O cJ g sz)) (hX A cI σ O cJ g sz)) 1 6 (hX A cI σ O cJ g sz) := by
  refine va_MetW (cc := cL_words) (maxL := 4) (ret := some .int) (hh := hh_words) (by decide) rfl ?_
  intro p e s m args below meth c s₁ Bd hml hv
  obtain ⟨rfl, hsz, hP, hK, hD0, hN, hZ, hC⟩ := hv
  have hx := Bd.exec
  have hb := Bd.bytes
  have hr := Bd.returns
  have hts := atoms_spec (ws := wsL_words) Bd.pre
  have htab : c.exceptionTable.toList = tableOf hh_words := vx_table (x := yL_words) Bd (hts _ List.mem_cons_self)
  have hB : ∀ w ∈ bL, w.before _ s = true := fun w h => hts w (List.mem_cons_of_mem _ h)
  have hown : s.vm.findClass RL = some m.cls := findClass_of_methodNamed Bd.named
  have hlocks := Bd.notSynchronized
  subst hsz
  have hD : va_D (hX A cI σ O cJ g s.heap.size) (wH A cI σ O cJ g) := hD0.self (sz := s.heap.size)
  have hA : ∀ q : Nat, s.heap.size ≤ q → hX A cI σ O cJ g s.heap.size q := fun q h => Or.inr h
  generalize hX A cI σ O cJ g s.heap.size = AA at hD hA hZ ⊢
  have hS : va_S AA s.heap s.heap [] := va_S.rf
  have hl := lv_entry ([.ref (A 0), .int key, .ref O]) (n := 4) (Nat.le_of_ble_eq_true rfl)
  rw [lg_entry_eq]
  generalize (lg_sl ([.ref (A 0), .int key, .ref O]) ++ List.replicate (4 - (lg_sl ([.ref (A 0), .int key, .ref O])).length) Slot.unset).toArray = ls at hl ⊢
  have hl : lv_has ls 4 [(0, .ref (A 0)), (1, .int key), (2, .ref O)] := hl
  refine lv_aload_n hx hb dL_words_0 rfl (lv_at hl 2 rfl) ?_
  refine lv_iconst (v := 0) hx hb dL_words_1 (by decide) ?_
  refine lv_aload_n hx hb dL_words_2 rfl (lv_at hl 0 rfl) ?_
  refine lv_iload_n hx hb dL_words_3 rfl (lv_at hl 1 rfl) ?_
  have hFc := va_free (wc := wO A cI σ) hD hS hA [0, 1, 2, 3, 4, 5, 6] rfl
  have hPc := hP.sub (ws' := wO A cI σ) [0, 1, 2, 3, 4, 5, 6] rfl
  have hDc := hD.sub (ws' := wO A cI σ) [0, 1, 2, 3, 4, 5, 6] (by decide) rfl
  have hKc := hK.sub (tys' := [(cI, .int)]) [0] rfl
  refine vx_calli (vx_runV (C := RX0) (As := [.int key]) (rest := [.int 0, .ref O]) ⟨hx, hb, hml, hown, hB⟩ (cx0_words l hlt dC dI A cI σ s.heap.size key) (cwV 1 hB goL_words rfl rfl rfl ⟨rfl, by decide, by decide, by decide +kernel⟩ ⟨Nat.le_of_ble_eq_true rfl, Nat.le_of_ble_eq_true rfl⟩) ⟨fun a U gg mk q => by obtain ⟨q0, ⟨q1, qP, qK, qD⟩, qN, qZ⟩ := q; exact ⟨q0, ⟨q1, qP, va_K.moved (u := U) (U := U.calling gg mk a) (Vm.Alike.refl U.vm) qK, qD⟩, qN.same rfl, qZ.to (U := U.calling gg mk a) (Vm.Alike.refl U.vm) rfl (fun _ h => h)⟩, va_recv (q := (RX0, TX0, 12)) hK hP rfl (q0 := 0) rfl, fun U hU hW => ⟨rfl, ⟨by rw [hU], by rw [hU]; exact hPc, va_K.moved hW.alike hKc, hDc.weaken (fun _ _ _ _ => trivial)⟩, hN.warm hW, hZ.to hW.alike hU (fun q h => hFc q h)⟩⟩ rfl rfl hl.1 rfl (lv_room (Nat.le_of_ble_eq_true rfl)) dL_words_4 ⟨Nat.le_of_ble_eq_true rfl, Nat.le_of_ble_eq_true rfl⟩) hS (fun q _ h => hFc q h) hFc (fun q h1 h2 => absurd h2 (Nat.not_le.mpr h1)) (fun E ce q9 u t H locs ht hvm _ hBX hz1 hk1 hS hce hcv hcl => ?_) (fun r u t H locs ht hvm hw hBu hz1 hk1 hS => ?_)
  · have hP : va_P (dC, dI) vwCl (wH A cI σ O cJ g) H := hP.kept (fun k x hx9 => hk1 x.1 ((hP k x hx9).lt) (Nat.not_le.mpr ((hP k x hx9).lt)))
    obtain ⟨rfl, hkk⟩ := hBX
    refine vx_catch hown (E := "java/lang/IllegalArgumentException") (name := "java/lang/IllegalArgumentException") ([] : List ExceptionTableEntry) ⟨0, 9, 12, 13⟩ ([] : List ExceptionTableEntry) htab (fun z hz => by cases hz) rfl (by decide) (hB _ mL_cl_IAE) (va_Nw.use rfl hN.2.2.2.1) hce hcv hcl ?_
    refine lv_astore_n hx hb dL_words_12 rfl hl (by decide) rfl (fun ls hl => ?_)
    have hl : lv_has ls 4 [(3, .ref q9), (0, .ref (A 0)), (1, .int key), (2, .ref O)] := hl
    refine lv_iconst (v := 1) hx hb dL_words_13 (by decide) ?_
    exact W.iret (v := 1) hx hb hr (fun t ht hW => ⟨⟨1, (σ, g), rfl, ⟨by rw [hkk]; rfl, by rw [hU, hkk, if_neg (by decide)]⟩, by rw [ht]; exact hP, va_K.moved hW.alike hK, hD⟩, hS.F ht⟩) hS.2.2 dL_words_14
  · obtain ⟨hkk, hw1, hw2⟩ := hw
    obtain ⟨hP1, hK1, hD1⟩ := hBu
    rw [ht, hw2] at hP1
    rw [hw2] at hD1
    rw [hw1]
    obtain ⟨hP, hD⟩ := va_join (wr := [(O, .inl (cJ, 1, .inr (.inl g)))]) (w1 := wO A cI (σ)) hP hD [0, 1, 2, 3, 4, 5, 6] [7] rfl rfl (by decide) (by decide) hk1 hFc hP1 hD1
    have hP := hP.sub (ws' := wH A cI (σ) O cJ g) [1, 2, 3, 4, 5, 6, 7, 0] rfl
    have hD := hD.sub (ws' := wH A cI (σ) O cJ g) [1, 2, 3, 4, 5, 6, 7, 0] (by decide) rfl
    refine lv_i2l (v := (f_cnt (fun w => decide (oT σ w = key + 128)) 160 0 0).toInt64) hx hb dL_words_7 rfl ?_
    refine va_last (D := (dC, dI)) (i := nI 0) (x := (f_cnt (fun w => decide (oT σ w = key + 128)) 160 0 0).toInt64) hx hb hK hP hD hS 7 1 rfl rfl (vp_in_nI (n := 0) (by decide) (by decide)) dL_words_8 (fun H locs hP hD hS => ?_)
    have hP : va_P (dC, dI) vwCl (wH A cI (σ) O cJ (vp_updL g 0 ((f_cnt (fun w => decide (oT σ w = key + 128)) 160 0 0).toInt64))) H := hP
    have hD : va_D AA (wH A cI (σ) O cJ (vp_updL g 0 ((f_cnt (fun w => decide (oT σ w = key + 128)) 160 0 0).toInt64))) := hD
    refine lv_goto (tgt := 15) hx hb dL_words_9 rfl ?_
    refine lv_iconst (v := 0) hx hb dL_words_15 (by decide) ?_
    exact W.iret (v := 0) hx hb hr (fun t ht hW => ⟨⟨0, (σ, vp_updL g 0 ((f_cnt (fun w => decide (oT σ w = key + 128)) 160 0 0).toInt64)), rfl, ⟨by rw [hkk]; rfl, by rw [hU, hkk, if_pos rfl]⟩, by rw [ht]; exact hP, va_K.moved hW.alike hK, hD⟩, hS.F ht⟩) hS.2.2 dL_words_16
set_option maxHeartbeats 4000000 in
set_option maxRecDepth 100000 in
theorem ch_history (l : Launch) (hlt : l.stackTraces = false) (dC : Nat → ClassId) (dI : Nat → Nat → Nat) (A : Nat → Nat) (cI : ClassId) (σ : OS) (O : Nat) (cJ : ClassId) (g : Nat → Int64) (sz : Nat) (key : Int32) (j : Int32) : Met l yL_history wsL_history (rkx 8) (va_Pc [.ref (A 0), .int key, .int j, .ref O] (hPre (dC, dI) A cI σ O cJ g sz)) (va_Qi (fun r u => r = nI (k_hist σ key j) ∧ u = hU (k_hist σ key j) σ (σ) g ((r_hist σ key j).toInt64)) (hBo (dC, dI) A cI O cJ (hX A cI σ O cJ g sz)) (hX A cI σ O cJ g sz)) 1 6 (hX A cI σ O cJ g sz) := by
  refine va_MetW (cc := cL_history) (maxL := 5) (ret := some .int) (hh := hh_history) (by decide) rfl ?_
  intro p e s m args below meth c s₁ Bd hml hv
  obtain ⟨rfl, hsz, hP, hK, hD0, hN, hZ, hC⟩ := hv
  have hx := Bd.exec
  have hb := Bd.bytes
  have hr := Bd.returns
  have hts := atoms_spec (ws := wsL_history) Bd.pre
  have htab : c.exceptionTable.toList = tableOf hh_history := vx_table (x := yL_history) Bd (hts _ List.mem_cons_self)
  have hB : ∀ w ∈ bL, w.before _ s = true := fun w h => hts w (List.mem_cons_of_mem _ h)
  have hown : s.vm.findClass RL = some m.cls := findClass_of_methodNamed Bd.named
  have hlocks := Bd.notSynchronized
  subst hsz
  have hD : va_D (hX A cI σ O cJ g s.heap.size) (wH A cI σ O cJ g) := hD0.self (sz := s.heap.size)
  have hA : ∀ q : Nat, s.heap.size ≤ q → hX A cI σ O cJ g s.heap.size q := fun q h => Or.inr h
  generalize hX A cI σ O cJ g s.heap.size = AA at hD hA hZ ⊢
  have hS : va_S AA s.heap s.heap [] := va_S.rf
  have hl := lv_entry ([.ref (A 0), .int key, .int j, .ref O]) (n := 5) (Nat.le_of_ble_eq_true rfl)
  rw [lg_entry_eq]
  generalize (lg_sl ([.ref (A 0), .int key, .int j, .ref O]) ++ List.replicate (5 - (lg_sl ([.ref (A 0), .int key, .int j, .ref O])).length) Slot.unset).toArray = ls at hl ⊢
  have hl : lv_has ls 5 [(0, .ref (A 0)), (1, .int key), (2, .int j), (3, .ref O)] := hl
  refine lv_aload_n hx hb dL_history_0 rfl (lv_at hl 3 rfl) ?_
  refine lv_iconst (v := 0) hx hb dL_history_1 (by decide) ?_
  refine lv_aload_n hx hb dL_history_2 rfl (lv_at hl 0 rfl) ?_
  refine lv_iload_n hx hb dL_history_3 rfl (lv_at hl 1 rfl) ?_
  refine lv_iload_n hx hb dL_history_4 rfl (lv_at hl 2 rfl) ?_
  have hFc := va_free (wc := wO A cI σ) hD hS hA [0, 1, 2, 3, 4, 5, 6] rfl
  have hPc := hP.sub (ws' := wO A cI σ) [0, 1, 2, 3, 4, 5, 6] rfl
  have hDc := hD.sub (ws' := wO A cI σ) [0, 1, 2, 3, 4, 5, 6] (by decide) rfl
  have hKc := hK.sub (tys' := [(cI, .int)]) [0] rfl
  refine vx_calli (vx_runV (C := RX0) (As := [.int key, .int j]) (rest := [.int 0, .ref O]) ⟨hx, hb, hml, hown, hB⟩ (cx0_history l hlt dC dI A cI σ s.heap.size key j) (cwV 2 hB goL_history rfl rfl rfl ⟨rfl, by decide, by decide, by decide +kernel⟩ ⟨Nat.le_of_ble_eq_true rfl, Nat.le_of_ble_eq_true rfl⟩) ⟨fun a U gg mk q => by obtain ⟨q0, ⟨q1, qP, qK, qD⟩, qN, qZ⟩ := q; exact ⟨q0, ⟨q1, qP, va_K.moved (u := U) (U := U.calling gg mk a) (Vm.Alike.refl U.vm) qK, qD⟩, qN.same rfl, qZ.to (U := U.calling gg mk a) (Vm.Alike.refl U.vm) rfl (fun _ h => h)⟩, va_recv (q := (RX0, TX0, 12)) hK hP rfl (q0 := 0) rfl, fun U hU hW => ⟨rfl, ⟨by rw [hU], by rw [hU]; exact hPc, va_K.moved hW.alike hKc, hDc.weaken (fun _ _ _ _ => trivial)⟩, hN.warm hW, hZ.to hW.alike hU (fun q h => hFc q h)⟩⟩ rfl rfl hl.1 rfl (lv_room (Nat.le_of_ble_eq_true rfl)) dL_history_5 ⟨Nat.le_of_ble_eq_true rfl, Nat.le_of_ble_eq_true rfl⟩) hS (fun q _ h => hFc q h) hFc (fun q h1 h2 => absurd h2 (Nat.not_le.mpr h1)) (fun E ce q9 u t H locs ht hvm _ hBX hz1 hk1 hS hce hcv hcl => ?_) (fun r u t H locs ht hvm hw hBu hz1 hk1 hS => ?_)
  · have hP : va_P (dC, dI) vwCl (wH A cI σ O cJ g) H := hP.kept (fun k x hx9 => hk1 x.1 ((hP k x hx9).lt) (Nat.not_le.mpr ((hP k x hx9).lt)))
    rcases hBX with ⟨rfl, hkk⟩ | ⟨rfl, hkk⟩
    · skip
      refine vx_catch hown (E := "java/lang/IllegalArgumentException") (name := "java/lang/IllegalArgumentException") ([] : List ExceptionTableEntry) ⟨0, 10, 13, 13⟩ ([⟨0, 10, 17, 45⟩] : List ExceptionTableEntry) htab (fun z hz => by cases hz) rfl (by decide) (hB _ mL_cl_IAE) (va_Nw.use rfl hN.2.2.2.1) hce hcv hcl ?_
      refine lv_astore hx hb dL_history_13 hl (by decide) rfl (fun ls hl => ?_)
      have hl : lv_has ls 5 [(4, .ref q9), (0, .ref (A 0)), (1, .int key), (2, .int j), (3, .ref O)] := hl
      refine lv_iconst (v := 1) hx hb dL_history_15 (by decide) ?_
      exact W.iret (v := 1) hx hb hr (fun t ht hW => ⟨⟨1, (σ, g), rfl, ⟨by rw [hkk]; rfl, by rw [hU, hkk, if_neg (by decide)]⟩, by rw [ht]; exact hP, va_K.moved hW.alike hK, hD⟩, hS.F ht⟩) hS.2.2 dL_history_16
    · skip
      refine vx_catch hown (E := "java/lang/IndexOutOfBoundsException") (name := "java/lang/IndexOutOfBoundsException") ([⟨0, 10, 13, 13⟩] : List ExceptionTableEntry) ⟨0, 10, 17, 45⟩ ([] : List ExceptionTableEntry) htab (fun z hz => by rw [List.mem_singleton.mp hz]; exact Or.inr ⟨by decide, "java/lang/IllegalArgumentException", hB _ mL_cl_IAE, hC.2⟩) rfl (by decide) (hB _ mL_cl_IOB) (va_Nw.use rfl hN.2.2.2.2.2) hce hcv hcl ?_
      refine lv_astore hx hb dL_history_17 hl (by decide) rfl (fun ls hl => ?_)
      have hl : lv_has ls 5 [(4, .ref q9), (0, .ref (A 0)), (1, .int key), (2, .int j), (3, .ref O)] := hl
      refine lv_iconst (v := 2) hx hb dL_history_19 (by decide) ?_
      exact W.iret (v := 2) hx hb hr (fun t ht hW => ⟨⟨2, (σ, g), rfl, ⟨by rw [hkk]; rfl, by rw [hU, hkk, if_neg (by decide)]⟩, by rw [ht]; exact hP, va_K.moved hW.alike hK, hD⟩, hS.F ht⟩) hS.2.2 dL_history_20
  · obtain ⟨hkk, hw1, hw2⟩ := hw
    obtain ⟨hP1, hK1, hD1⟩ := hBu
    rw [ht, hw2] at hP1
    rw [hw2] at hD1
    rw [hw1]
    obtain ⟨hP, hD⟩ := va_join (wr := [(O, .inl (cJ, 1, .inr (.inl g)))]) (w1 := wO A cI (σ)) hP hD [0, 1, 2, 3, 4, 5, 6] [7] rfl rfl (by decide) (by decide) hk1 hFc hP1 hD1
    have hP := hP.sub (ws' := wH A cI (σ) O cJ g) [1, 2, 3, 4, 5, 6, 7, 0] rfl
    have hD := hD.sub (ws' := wH A cI (σ) O cJ g) [1, 2, 3, 4, 5, 6, 7, 0] (by decide) rfl
    refine lv_i2l (v := (r_hist σ key j).toInt64) hx hb dL_history_8 rfl ?_
    refine va_last (D := (dC, dI)) (i := nI 0) (x := (r_hist σ key j).toInt64) hx hb hK hP hD hS 7 1 rfl rfl (vp_in_nI (n := 0) (by decide) (by decide)) dL_history_9 (fun H locs hP hD hS => ?_)
    have hP : va_P (dC, dI) vwCl (wH A cI (σ) O cJ (vp_updL g 0 ((r_hist σ key j).toInt64))) H := hP
    have hD : va_D AA (wH A cI (σ) O cJ (vp_updL g 0 ((r_hist σ key j).toInt64))) := hD
    refine lv_goto (tgt := 21) hx hb dL_history_10 rfl ?_
    refine lv_iconst (v := 0) hx hb dL_history_21 (by decide) ?_
    exact W.iret (v := 0) hx hb hr (fun t ht hW => ⟨⟨0, (σ, vp_updL g 0 ((r_hist σ key j).toInt64)), rfl, ⟨by rw [hkk]; rfl, by rw [hU, hkk, if_pos rfl]⟩, by rw [ht]; exact hP, va_K.moved hW.alike hK, hD⟩, hS.F ht⟩) hS.2.2 dL_history_22
