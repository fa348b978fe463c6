theorem left_cases (x : Int32) : (x.toInt < 0 ∨ 3 < x.toInt) ∨ x = 0 ∨ x = 1 ∨ x = 2 ∨ x = 3 := by
  by_cases h : x.toInt < 0 ∨ 3 < x.toInt
  · exact Or.inl h
  · have h2 : x.toInt = 0 ∨ x.toInt = 1 ∨ x.toInt = 2 ∨ x.toInt = 3 := by omega
    rcases h2 with h2 | h2 | h2 | h2
    · exact Or.inr (Or.inl (Int32.toInt_inj.mp (h2.trans (by decide))))
    · exact Or.inr (Or.inr (Or.inl (Int32.toInt_inj.mp (h2.trans (by decide)))))
    · exact Or.inr (Or.inr (Or.inr (Or.inl (Int32.toInt_inj.mp (h2.trans (by decide))))))
    · exact Or.inr (Or.inr (Or.inr (Or.inr (Int32.toInt_inj.mp (h2.trans (by decide))))))
set_option maxHeartbeats 4000000 in
set_option maxRecDepth 100000 in
theorem cx0_left (l : Launch) (hlt : l.stackTraces = false) (dC : Nat → ClassId) (dI : Nat → Nat → Nat) (A : Nat → Nat) (cI : ClassId) (σ : OS) (sz : Nat) (x : Int32) : vx_Met l yX0_left wsX0_left (rkx 7) (va_Pc [.ref (A 0), .int x] (oPreX (dC, dI) A cI σ sz)) (va_Qi (fun r u => k_left x = 0 ∧ r = r_left σ x ∧ u = σ) (oB (dC, dI) A cI (oX A cI σ sz)) (oX A cI σ sz)) (vx_X (fun _ : Unit => True) (fun E (_ : Unit) (_ : State) => (E = "java/lang/IllegalArgumentException" ∧ k_left x = 1)) (fun q => sz ≤ q)) 1 6 (oX A cI σ sz) := by
  refine vx_ofW (cc := cX0_left) (maxL := 2) (ret := (some .int)) (by decide) rfl ?_
  intro p e s m args below meth c s₁ B hml ht hv
  obtain ⟨rfl, ⟨hsz, hP, hK, hD0⟩, hN, hZU, hZN⟩ := hv
  have hx := B.exec
  have hb := B.bytes
  have hr := B.returns
  have hB : ∀ w ∈ bX0, w.before _ s = true := fun w h => atoms_spec (ws := wsX0_left) B.pre w (List.mem_cons_of_mem _ h)
  have hown : s.vm.findClass RX0 = some m.cls := findClass_of_methodNamed B.named
  have hlocks := B.notSynchronized
  subst hsz
  have hD : va_D (oX A cI σ s.heap.size) (wO A cI σ) := hD0.self (sz := s.heap.size)
  have hA : ∀ q : Nat, s.heap.size ≤ q → oX A cI σ s.heap.size q := fun q h => Or.inr h
  generalize oX A cI σ s.heap.size = AA at hD hA hZU hZN ⊢
  have hS : va_S AA s.heap s.heap [] := va_S.rf
  have hl := lv_entry ([.ref (A 0), .int x]) (n := 2) (Nat.le_of_ble_eq_true rfl)
  rw [lg_entry_eq]
  generalize (lg_sl ([.ref (A 0), .int x]) ++ List.replicate (2 - (lg_sl ([.ref (A 0), .int x])).length) Slot.unset).toArray = ls at hl ⊢
  have hl : lv_has ls 2 [(0, .ref (A 0)), (1, .int x)] := hl
  refine lv_iload_n hx hb dX0_left_0 rfl (lv_at hl 1 rfl) ?_
  rcases left_cases x with h | rfl | rfl | rfl | rfl
  · skip
    refine lv_tableOut (tgt := 52) hx hb dX0_left_1 h rfl ?_
    exact vx_throw0 (mc := 1) (ms := 6) (A := AA) (names := ["java/lang/RuntimeException", "java/lang/Exception"]) hx hb hlt hown (by decide) (by decide) (hB _ mX0_cl_IAE) (hB _ mX0_i_IAE) (xh_IAE (fun w h => hB w (inxX0_IAE w h)) hN) ot_IAE hZU hZN hS (hl.1.trans hml.symm) dX0_left_52 dX0_left_55 dX0_left_56 dX0_left_59 (fun x h => (ht x h).elim) (Nat.le_of_ble_eq_true rfl) (Nat.le_of_ble_eq_true rfl) (Nat.le_of_ble_eq_true rfl) (Nat.le_of_ble_eq_true rfl) hlocks (fun t _ hz hk => ⟨(), trivial, ⟨rfl, if_pos h⟩, ⟨hz, fun q h1 _ => hk q h1⟩⟩) (fun z h => by cases h) (Nat.le_of_ble_eq_true rfl) (Nat.le_of_ble_eq_true rfl)
  · skip
    refine lv_tableIn (off := 31) (tgt := 32) hx hb dX0_left_1 (by decide) (by decide) rfl rfl ?_
    refine lv_aload_n hx hb dX0_left_32 rfl (lv_at hl 0 rfl) ?_
    refine ck0_countFreshWords hx hb hml hown hB hl.1 hP hK dX0_left_33 (Nat.le_of_ble_eq_true rfl) (Nat.le_of_ble_eq_true rfl) ⟨Nat.zero_le _, Nat.zero_le _⟩ (Nat.le_of_ble_eq_true rfl) ?_
    refine W.widen (k := 1) (n := 6) (Nat.zero_le _) (Nat.zero_le _) ?_
    exact vx_ret (W.iret (v := (f_cnt (f_fresh (oW σ) (oT σ)) 160 0 0)) hx hb hr (fun t ht hW => ⟨⟨(f_cnt (f_fresh (oW σ) (oT σ)) 160 0 0), σ, rfl, ⟨by decide, rfl, rfl⟩, by rw [ht]; exact hP, va_K.moved hW.alike hK, hD⟩, hS.F ht⟩) hS.2.2 dX0_left_36)
  · skip
    refine lv_tableIn (off := 36) (tgt := 37) hx hb dX0_left_1 (by decide) (by decide) rfl rfl ?_
    refine lv_aload_n hx hb dX0_left_37 rfl (lv_at hl 0 rfl) ?_
    refine ck0_countEmptyNotes hx hb hml hown hB hl.1 hP hK dX0_left_38 (Nat.le_of_ble_eq_true rfl) (Nat.le_of_ble_eq_true rfl) ⟨Nat.zero_le _, Nat.zero_le _⟩ (Nat.le_of_ble_eq_true rfl) ?_
    refine W.widen (k := 1) (n := 6) (Nat.zero_le _) (Nat.zero_le _) ?_
    exact vx_ret (W.iret (v := (f_cnt (f_empty (oL σ)) 40 0 0)) hx hb hr (fun t ht hW => ⟨⟨(f_cnt (f_empty (oL σ)) 40 0 0), σ, rfl, ⟨by decide, rfl, rfl⟩, by rw [ht]; exact hP, va_K.moved hW.alike hK, hD⟩, hS.F ht⟩) hS.2.2 dX0_left_41)
  · skip
    refine lv_tableIn (off := 41) (tgt := 42) hx hb dX0_left_1 (by decide) (by decide) rfl rfl ?_
    refine lv_aload_n hx hb dX0_left_42 rfl (lv_at hl 0 rfl) ?_
    refine va_get (D := (dC, dI)) (ci := 0) (v := .int (oSet σ)) (C := RX0) (T := TX0) (N := 12) hx hb hB inX0 hown hK hP 0 rfl rfl 3 (by decide) (hB _ mX0_f_setCells) (fun _ h9 => h9) rfl dX0_left_43 ?_
    refine W.widen (k := 1) (n := 6) (Nat.zero_le _) (Nat.zero_le _) ?_
    exact vx_ret (W.iret (v := (oSet σ)) hx hb hr (fun t ht hW => ⟨⟨(oSet σ), σ, rfl, ⟨by decide, rfl, rfl⟩, by rw [ht]; exact hP, va_K.moved hW.alike hK, hD⟩, hS.F ht⟩) hS.2.2 dX0_left_46)
  · skip
    refine lv_tableIn (off := 46) (tgt := 47) hx hb dX0_left_1 (by decide) (by decide) rfl rfl ?_
    refine lv_aload_n hx hb dX0_left_47 rfl (lv_at hl 0 rfl) ?_
    refine va_get (D := (dC, dI)) (ci := 0) (v := .int (oWr σ)) (C := RX0) (T := TX0) (N := 12) hx hb hB inX0 hown hK hP 0 rfl rfl 4 (by decide) (hB _ mX0_f_writes) (fun _ h9 => h9) rfl dX0_left_48 ?_
    refine W.widen (k := 1) (n := 6) (Nat.zero_le _) (Nat.zero_le _) ?_
    exact vx_ret (W.iret (v := (oWr σ)) hx hb hr (fun t ht hW => ⟨⟨(oWr σ), σ, rfl, ⟨by decide, rfl, rfl⟩, by rw [ht]; exact hP, va_K.moved hW.alike hK, hD⟩, hS.F ht⟩) hS.2.2 dX0_left_51)
set_option maxHeartbeats 4000000 in
set_option maxRecDepth 100000 in
theorem cx0_cell (l : Launch) (hlt : l.stackTraces = false) (dC : Nat → ClassId) (dI : Nat → Nat → Nat) (A : Nat → Nat) (cI : ClassId) (σ : OS) (sz : Nat) (a : Int32) (b : Int32) (d : Int32) : vx_Met l yX0_cell wsX0_cell (rkx 7) (va_Pc [.ref (A 0), .int a, .int b, .int d] (oPreX (dC, dI) A cI σ sz)) (va_Qi (fun r u => k_cell a b d = 0 ∧ r = r_cell σ a b d ∧ u = σ) (oB (dC, dI) A cI (oX A cI σ sz)) (oX A cI σ sz)) (vx_X (fun _ : Unit => True) (fun E (_ : Unit) (_ : State) => (E = "java/lang/IndexOutOfBoundsException" ∧ k_cell a b d = 1)) (fun q => sz ≤ q)) 1 6 (oX A cI σ sz) := by
  refine vx_ofW (cc := cX0_cell) (maxL := 4) (ret := (some .int)) (by decide) rfl ?_
  intro p e s m args below meth c s₁ B hml ht hv
  obtain ⟨rfl, ⟨hsz, hP, hK, hD0⟩, hN, hZU, hZN⟩ := hv
  have hx := B.exec
  have hb := B.bytes
  have hr := B.returns
  have hB : ∀ w ∈ bX0, w.before _ s = true := fun w h => atoms_spec (ws := wsX0_cell) B.pre w (List.mem_cons_of_mem _ h)
  have hown : s.vm.findClass RX0 = some m.cls := findClass_of_methodNamed B.named
  have hlocks := B.notSynchronized
  subst hsz
  have hD : va_D (oX A cI σ s.heap.size) (wO A cI σ) := hD0.self (sz := s.heap.size)
  have hA : ∀ q : Nat, s.heap.size ≤ q → oX A cI σ s.heap.size q := fun q h => Or.inr h
  generalize oX A cI σ s.heap.size = AA at hD hA hZU hZN ⊢
  have hS : va_S AA s.heap s.heap [] := va_S.rf
  have hl := lv_entry ([.ref (A 0), .int a, .int b, .int d]) (n := 4) (Nat.le_of_ble_eq_true rfl)
  rw [lg_entry_eq]
  generalize (lg_sl ([.ref (A 0), .int a, .int b, .int d]) ++ List.replicate (4 - (lg_sl ([.ref (A 0), .int a, .int b, .int d])).length) Slot.unset).toArray = ls at hl ⊢
  have hl : lv_has ls 4 [(0, .ref (A 0)), (1, .int a), (2, .int b), (3, .int d)] := hl
  have k104 : ¬ (a = 0 ∧ f_below b 160 = true ∧ f_below d 24 = true) → ¬ (a = 1 ∧ f_below b 160 = true ∧ f_below d 8 = true) → ¬ (a = 2 ∧ f_below b 360 = true ∧ f_below d 32 = true) → W p l e (headSpec wsX0_cell (rkx 7)).room s m ([.ref (A 0), .int a, .int b, .int d]).toArray below meth c s.heap [] 0 0 (vx_MQ below (va_Qi (fun r u => k_cell a b d = 0 ∧ r = r_cell σ a b d ∧ u = σ) (oB (dC, dI) A cI AA) AA) (vx_X (fun _ : Unit => True) (fun E (_ : Unit) (_ : State) => (E = "java/lang/IndexOutOfBoundsException" ∧ k_cell a b d = 1)) (fun q => s.heap.size ≤ q)) ([.ref (A 0), .int a, .int b, .int d]).toArray s 1 6 AA) (F0 m 104 ls []) := by
    intro c0 c1 c2
    exact vx_throw0 (mc := 1) (ms := 6) (A := AA) (names := ["java/lang/RuntimeException", "java/lang/Exception"]) hx hb hlt hown (by decide) (by decide) (hB _ mX0_cl_IOB) (hB _ mX0_i_IOB) (xh_IOB (fun w h => hB w (inxX0_IOB w h)) hN) ot_IOB hZU hZN hS (hl.1.trans hml.symm) dX0_cell_104 dX0_cell_107 dX0_cell_108 dX0_cell_111 (fun x h => (ht x h).elim) (Nat.le_of_ble_eq_true rfl) (Nat.le_of_ble_eq_true rfl) (Nat.le_of_ble_eq_true rfl) (Nat.le_of_ble_eq_true rfl) hlocks (fun t _ hz hk => ⟨(), trivial, ⟨rfl, by rw [k_cell, if_neg c0, if_neg c1, if_neg c2]⟩, ⟨hz, fun q h1 _ => hk q h1⟩⟩) (fun z h => by cases h) (Nat.le_of_ble_eq_true rfl) (Nat.le_of_ble_eq_true rfl)
  have k69 : ¬ (a = 0 ∧ f_below b 160 = true ∧ f_below d 24 = true) → ¬ (a = 1 ∧ f_below b 160 = true ∧ f_below d 8 = true) → W p l e (headSpec wsX0_cell (rkx 7)).room s m ([.ref (A 0), .int a, .int b, .int d]).toArray below meth c s.heap [] 0 0 (vx_MQ below (va_Qi (fun r u => k_cell a b d = 0 ∧ r = r_cell σ a b d ∧ u = σ) (oB (dC, dI) A cI AA) AA) (vx_X (fun _ : Unit => True) (fun E (_ : Unit) (_ : State) => (E = "java/lang/IndexOutOfBoundsException" ∧ k_cell a b d = 1)) (fun q => s.heap.size ≤ q)) ([.ref (A 0), .int a, .int b, .int d]).toArray s 1 6 AA) (F0 m 69 ls []) := by
    intro c0 c1
    refine lv_iload_n hx hb dX0_cell_69 rfl (lv_at hl 1 rfl) ?_
    refine lv_iconst (v := 2) hx hb dX0_cell_70 (by decide) ?_
    refine lv_icmp_ne (tgt := 104) hx hb dX0_cell_71 rfl (fun h1 => ?_) (fun h1 => ?_)
    · skip
      exact k104 c0 c1 (fun h => h1 h.1)
    · skip
      refine lv_iload_n hx hb dX0_cell_74 rfl (lv_at hl 2 rfl) ?_
      refine lv_sipush (v := 360) hx hb dX0_cell_75 (by decide) ?_
      refine ck0_isBelow hx hb hml hown hB hl.1  dX0_cell_78 (Nat.le_of_ble_eq_true rfl) (Nat.le_of_ble_eq_true rfl) ⟨Nat.zero_le _, Nat.zero_le _⟩ (Nat.le_of_ble_eq_true rfl) ?_
      refine lv_if_eq (tgt := 104) hx hb dX0_cell_81 rfl (fun h2 => ?_) (fun h2 => ?_)
      · skip
        exact k104 c0 c1 (fun h => by rw [bI_0.mp h2] at h; exact absurd h.2.1 (by decide))
      · skip
        refine lv_iload_n hx hb dX0_cell_84 rfl (lv_at hl 3 rfl) ?_
        refine lv_bipush (v := 32) hx hb dX0_cell_85 (by decide) ?_
        refine ck0_isBelow hx hb hml hown hB hl.1  dX0_cell_87 (Nat.le_of_ble_eq_true rfl) (Nat.le_of_ble_eq_true rfl) ⟨Nat.zero_le _, Nat.zero_le _⟩ (Nat.le_of_ble_eq_true rfl) ?_
        refine lv_if_eq (tgt := 104) hx hb dX0_cell_90 rfl (fun h3 => ?_) (fun h3 => ?_)
        · skip
          exact k104 c0 c1 (fun h => by rw [bI_0.mp h3] at h; exact absurd h.2.2 (by decide))
        · skip
          have hc : (a = 2 ∧ f_below b 360 = true ∧ f_below d 32 = true) := ⟨h1, bI_n0.mp h2, bI_n0.mp h3⟩
          refine lv_aload_n hx hb dX0_cell_93 rfl (lv_at hl 0 rfl) ?_
          refine va_get (D := (dC, dI)) (ci := 0) (v := .ref (A 3)) (C := RX0) (T := TX0) (N := 12) hx hb hB inX0 hown hK hP 0 rfl rfl 2 (by decide) (hB _ mX0_f_lineRow) (fun _ h9 => h9) rfl dX0_cell_94 ?_
          refine lv_iload_n hx hb dX0_cell_97 rfl (lv_at hl 2 rfl) ?_
          refine va_iald (D := (dC, dI)) (i := b) hx hb hK hP 3 0 rfl rfl (f_below_in (N := 360) rfl (by decide) hc.2.1) dX0_cell_98 ?_
          refine lv_iload_n hx hb dX0_cell_99 rfl (lv_at hl 3 rfl) ?_
          refine lv_iushr (v := uS ((oL σ) (b).toNatClampNeg) d) hx hb dX0_cell_100 rfl ?_
          refine lv_iconst (v := 1) hx hb dX0_cell_101 (by decide) ?_
          refine lv_iand hx hb dX0_cell_102 ?_
          refine W.widen (k := 1) (n := 6) (Nat.zero_le _) (Nat.zero_le _) ?_
          exact vx_ret (W.iret (v := ((uS ((oL σ) (b).toNatClampNeg) d) &&& 1)) hx hb hr (fun t ht hW => ⟨⟨((uS ((oL σ) (b).toNatClampNeg) d) &&& 1), σ, rfl, ⟨by rw [k_cell, if_neg c0, if_neg c1, if_pos hc], by rw [r_cell, h1]; rfl, rfl⟩, by rw [ht]; exact hP, va_K.moved hW.alike hK, hD⟩, hS.F ht⟩) hS.2.2 dX0_cell_103)
  have k34 : ¬ (a = 0 ∧ f_below b 160 = true ∧ f_below d 24 = true) → W p l e (headSpec wsX0_cell (rkx 7)).room s m ([.ref (A 0), .int a, .int b, .int d]).toArray below meth c s.heap [] 0 0 (vx_MQ below (va_Qi (fun r u => k_cell a b d = 0 ∧ r = r_cell σ a b d ∧ u = σ) (oB (dC, dI) A cI AA) AA) (vx_X (fun _ : Unit => True) (fun E (_ : Unit) (_ : State) => (E = "java/lang/IndexOutOfBoundsException" ∧ k_cell a b d = 1)) (fun q => s.heap.size ≤ q)) ([.ref (A 0), .int a, .int b, .int d]).toArray s 1 6 AA) (F0 m 34 ls []) := by
    intro c0
    refine lv_iload_n hx hb dX0_cell_34 rfl (lv_at hl 1 rfl) ?_
    refine lv_iconst (v := 1) hx hb dX0_cell_35 (by decide) ?_
    refine lv_icmp_ne (tgt := 69) hx hb dX0_cell_36 rfl (fun h1 => ?_) (fun h1 => ?_)
    · skip
      exact k69 c0 (fun h => h1 h.1)
    · skip
      refine lv_iload_n hx hb dX0_cell_39 rfl (lv_at hl 2 rfl) ?_
      refine lv_sipush (v := 160) hx hb dX0_cell_40 (by decide) ?_
      refine ck0_isBelow hx hb hml hown hB hl.1  dX0_cell_43 (Nat.le_of_ble_eq_true rfl) (Nat.le_of_ble_eq_true rfl) ⟨Nat.zero_le _, Nat.zero_le _⟩ (Nat.le_of_ble_eq_true rfl) ?_
      refine lv_if_eq (tgt := 69) hx hb dX0_cell_46 rfl (fun h2 => ?_) (fun h2 => ?_)
      · skip
        exact k69 c0 (fun h => by rw [bI_0.mp h2] at h; exact absurd h.2.1 (by decide))
      · skip
        refine lv_iload_n hx hb dX0_cell_49 rfl (lv_at hl 3 rfl) ?_
        refine lv_bipush (v := 8) hx hb dX0_cell_50 (by decide) ?_
        refine ck0_isBelow hx hb hml hown hB hl.1  dX0_cell_52 (Nat.le_of_ble_eq_true rfl) (Nat.le_of_ble_eq_true rfl) ⟨Nat.zero_le _, Nat.zero_le _⟩ (Nat.le_of_ble_eq_true rfl) ?_
        refine lv_if_eq (tgt := 69) hx hb dX0_cell_55 rfl (fun h3 => ?_) (fun h3 => ?_)
        · skip
          exact k69 c0 (fun h => by rw [bI_0.mp h3] at h; exact absurd h.2.2 (by decide))
        · skip
          have hc : (a = 1 ∧ f_below b 160 = true ∧ f_below d 8 = true) := ⟨h1, bI_n0.mp h2, bI_n0.mp h3⟩
          refine lv_aload_n hx hb dX0_cell_58 rfl (lv_at hl 0 rfl) ?_
          refine va_get (D := (dC, dI)) (ci := 0) (v := .ref (A 2)) (C := RX0) (T := TX0) (N := 12) hx hb hB inX0 hown hK hP 0 rfl rfl 1 (by decide) (hB _ mX0_f_tagRow) (fun _ h9 => h9) rfl dX0_cell_59 ?_
          refine lv_iload_n hx hb dX0_cell_62 rfl (lv_at hl 2 rfl) ?_
          refine va_iald (D := (dC, dI)) (i := b) hx hb hK hP 2 0 rfl rfl (f_below_in (N := 160) rfl (by decide) hc.2.1) dX0_cell_63 ?_
          refine lv_iload_n hx hb dX0_cell_64 rfl (lv_at hl 3 rfl) ?_
          refine lv_iushr (v := uS ((oT σ) (b).toNatClampNeg) d) hx hb dX0_cell_65 rfl ?_
          refine lv_iconst (v := 1) hx hb dX0_cell_66 (by decide) ?_
          refine lv_iand hx hb dX0_cell_67 ?_
          refine W.widen (k := 1) (n := 6) (Nat.zero_le _) (Nat.zero_le _) ?_
          exact vx_ret (W.iret (v := ((uS ((oT σ) (b).toNatClampNeg) d) &&& 1)) hx hb hr (fun t ht hW => ⟨⟨((uS ((oT σ) (b).toNatClampNeg) d) &&& 1), σ, rfl, ⟨by rw [k_cell, if_neg c0, if_pos hc], by rw [r_cell, h1]; rfl, rfl⟩, by rw [ht]; exact hP, va_K.moved hW.alike hK, hD⟩, hS.F ht⟩) hS.2.2 dX0_cell_68)
  refine lv_iload_n hx hb dX0_cell_0 rfl (lv_at hl 1 rfl) ?_
  refine lv_if_ne (tgt := 34) hx hb dX0_cell_1 rfl (fun h1 => ?_) (fun h1 => ?_)
  · skip
    exact k34 (fun h => h1 h.1)
  · skip
    refine lv_iload_n hx hb dX0_cell_4 rfl (lv_at hl 2 rfl) ?_
    refine lv_sipush (v := 160) hx hb dX0_cell_5 (by decide) ?_
    refine ck0_isBelow hx hb hml hown hB hl.1  dX0_cell_8 (Nat.le_of_ble_eq_true rfl) (Nat.le_of_ble_eq_true rfl) ⟨Nat.zero_le _, Nat.zero_le _⟩ (Nat.le_of_ble_eq_true rfl) ?_
    refine lv_if_eq (tgt := 34) hx hb dX0_cell_11 rfl (fun h2 => ?_) (fun h2 => ?_)
    · skip
      exact k34 (fun h => by rw [bI_0.mp h2] at h; exact absurd h.2.1 (by decide))
    · skip
      refine lv_iload_n hx hb dX0_cell_14 rfl (lv_at hl 3 rfl) ?_
      refine lv_bipush (v := 24) hx hb dX0_cell_15 (by decide) ?_
      refine ck0_isBelow hx hb hml hown hB hl.1  dX0_cell_17 (Nat.le_of_ble_eq_true rfl) (Nat.le_of_ble_eq_true rfl) ⟨Nat.zero_le _, Nat.zero_le _⟩ (Nat.le_of_ble_eq_true rfl) ?_
      refine lv_if_eq (tgt := 34) hx hb dX0_cell_20 rfl (fun h3 => ?_) (fun h3 => ?_)
      · skip
        exact k34 (fun h => by rw [bI_0.mp h3] at h; exact absurd h.2.2 (by decide))
      · skip
        have hc : (a = 0 ∧ f_below b 160 = true ∧ f_below d 24 = true) := ⟨h1, bI_n0.mp h2, bI_n0.mp h3⟩
        refine lv_aload_n hx hb dX0_cell_23 rfl (lv_at hl 0 rfl) ?_
        refine va_get (D := (dC, dI)) (ci := 0) (v := .ref (A 1)) (C := RX0) (T := TX0) (N := 12) hx hb hB inX0 hown hK hP 0 rfl rfl 0 (by decide) (hB _ mX0_f_wordRow) (fun _ h9 => h9) rfl dX0_cell_24 ?_
        refine lv_iload_n hx hb dX0_cell_27 rfl (lv_at hl 2 rfl) ?_
        refine va_iald (D := (dC, dI)) (i := b) hx hb hK hP 1 0 rfl rfl (f_below_in (N := 160) rfl (by decide) hc.2.1) dX0_cell_28 ?_
        refine lv_iload_n hx hb dX0_cell_29 rfl (lv_at hl 3 rfl) ?_
        refine lv_iushr (v := uS ((oW σ) (b).toNatClampNeg) d) hx hb dX0_cell_30 rfl ?_
        refine lv_iconst (v := 1) hx hb dX0_cell_31 (by decide) ?_
        refine lv_iand hx hb dX0_cell_32 ?_
        refine W.widen (k := 1) (n := 6) (Nat.zero_le _) (Nat.zero_le _) ?_
        exact vx_ret (W.iret (v := ((uS ((oW σ) (b).toNatClampNeg) d) &&& 1)) hx hb hr (fun t ht hW => ⟨⟨((uS ((oW σ) (b).toNatClampNeg) d) &&& 1), σ, rfl, ⟨by rw [k_cell, if_pos hc], by rw [r_cell, h1]; rfl, rfl⟩, by rw [ht]; exact hP, va_K.moved hW.alike hK, hD⟩, hS.F ht⟩) hS.2.2 dX0_cell_33)
set_option maxHeartbeats 4000000 in
set_option maxRecDepth 100000 in
theorem cx0_failAfter (l : Launch) (hlt : l.stackTraces = false) (dC : Nat → ClassId) (dI : Nat → Nat → Nat) (A : Nat → Nat) (cI : ClassId) (σ : OS) (sz : Nat) (x : Int32) : vx_Met l yX0_failAfter wsX0_failAfter (rkx 7) (va_Pc [.ref (A 0), .int x] (oPreX (dC, dI) A cI σ sz)) (va_Qv (fun u => k_fail σ x = 0 ∧ u = s_fail σ x) (oB (dC, dI) A cI (oX A cI σ sz)) (oX A cI σ sz)) (vx_X (fun _ : Unit => True) (fun E (_ : Unit) (_ : State) => (E = "java/lang/IllegalArgumentException" ∧ k_fail σ x = 1) ∨ (E = "java/lang/IllegalStateException" ∧ k_fail σ x = 2)) (fun q => sz ≤ q)) 1 6 (oX A cI σ sz) := by
  refine vx_ofW (cc := cX0_failAfter) (maxL := 2) (ret := none) (by decide) rfl ?_
  intro p e s m args below meth c s₁ B hml ht hv
  obtain ⟨rfl, ⟨hsz, hP, hK, hD0⟩, hN, hZU, hZN⟩ := hv
  have hx := B.exec
  have hb := B.bytes
  have hr := B.returns
  have hB : ∀ w ∈ bX0, w.before _ s = true := fun w h => atoms_spec (ws := wsX0_failAfter) B.pre w (List.mem_cons_of_mem _ h)
  have hown : s.vm.findClass RX0 = some m.cls := findClass_of_methodNamed B.named
  have hlocks := B.notSynchronized
  subst hsz
  have hD : va_D (oX A cI σ s.heap.size) (wO A cI σ) := hD0.self (sz := s.heap.size)
  have hA : ∀ q : Nat, s.heap.size ≤ q → oX A cI σ s.heap.size q := fun q h => Or.inr h
  generalize oX A cI σ s.heap.size = AA at hD hA hZU hZN ⊢
  have hS : va_S AA s.heap s.heap [] := va_S.rf
  have hl := lv_entry ([.ref (A 0), .int x]) (n := 2) (Nat.le_of_ble_eq_true rfl)
  rw [lg_entry_eq]
  generalize (lg_sl ([.ref (A 0), .int x]) ++ List.replicate (2 - (lg_sl ([.ref (A 0), .int x])).length) Slot.unset).toArray = ls at hl ⊢
  have hl : lv_has ls 2 [(0, .ref (A 0)), (1, .int x)] := hl
  refine lv_iload_n hx hb dX0_failAfter_0 rfl (lv_at hl 1 rfl) ?_
  refine lv_iconst (v := (-1)) hx hb dX0_failAfter_1 (by decide) ?_
  refine lv_icmp_eq (tgt := 24) hx hb dX0_failAfter_2 rfl (fun h1 => ?_) (fun h1 => ?_)
  · skip
    refine lv_aload_n hx hb dX0_failAfter_24 rfl (lv_at hl 0 rfl) ?_
    refine va_get (D := (dC, dI)) (ci := 0) (v := .int (oOn σ)) (C := RX0) (T := TX0) (N := 12) hx hb hB inX0 hown hK hP 0 rfl rfl 5 (by decide) (hB _ mX0_f_powered) (fun _ h9 => h9) rfl dX0_failAfter_25 ?_
    refine lv_if_ne (tgt := 39) hx hb dX0_failAfter_28 rfl (fun h4 => ?_) (fun h4 => ?_)
    · skip
      refine lv_aload_n hx hb dX0_failAfter_39 rfl (lv_at hl 0 rfl) ?_
      refine lv_iload_n hx hb dX0_failAfter_40 rfl (lv_at hl 1 rfl) ?_
      refine va_put (D := (dC, dI)) (ci := 0) (v := .int x) (ty := .int) (C := RX0) (T := TX0) (N := 12) hx hb hB inX0 tyX0 tyX0_ok nmX0 hown hK hP hD hS 0 rfl rfl 6 (by decide) (hB _ mX0_f_writesToFailure) (fun _ h9 => h9) rfl (by decide +kernel) rfl rfl (Nat.le_of_ble_eq_true rfl) dX0_failAfter_41 (fun H locs hP hD hS => ?_)
      have hP : va_P (dC, dI) vwCl (wO A cI (mkO (oW σ) (oT σ) (oL σ) (oSet σ) (oWr σ) (oOn σ) (x) (oK σ) (oV σ) (oP σ) (oBo σ) (oBs σ))) H := hP
      have hD : va_D AA (wO A cI (mkO (oW σ) (oT σ) (oL σ) (oSet σ) (oWr σ) (oOn σ) (x) (oK σ) (oV σ) (oP σ) (oBo σ) (oBs σ))) := hD
      refine W.widen (k := 1) (n := 6) (Nat.zero_le _) (Nat.zero_le _) ?_
      exact vx_ret (W.vret hx hb hr (fun t ht hW => ⟨⟨mkO (oW σ) (oT σ) (oL σ) (oSet σ) (oWr σ) (oOn σ) (x) (oK σ) (oV σ) (oP σ) (oBo σ) (oBs σ), rfl, ⟨by rw [k_fail, if_neg (fun h => h.1 h1), if_neg h4], rfl⟩, by rw [ht]; exact hP, va_K.moved hW.alike hK, hD⟩, hS.F ht⟩) hS.2.2 dX0_failAfter_44)
    · skip
      exact vx_throw0 (mc := 1) (ms := 6) (A := AA) (names := ["java/lang/RuntimeException", "java/lang/Exception"]) hx hb hlt hown (by decide) (by decide) (hB _ mX0_cl_ISE) (hB _ mX0_i_ISE) (xh_ISE (fun w h => hB w (inxX0_ISE w h)) hN) ot_ISE hZU hZN hS (hl.1.trans hml.symm) dX0_failAfter_31 dX0_failAfter_34 dX0_failAfter_35 dX0_failAfter_38 (fun x h => (ht x h).elim) (Nat.le_of_ble_eq_true rfl) (Nat.le_of_ble_eq_true rfl) (Nat.le_of_ble_eq_true rfl) (Nat.le_of_ble_eq_true rfl) hlocks (fun t _ hz hk => ⟨(), trivial, Or.inr ⟨rfl, by rw [k_fail, if_neg (fun h => h.1 h1), if_pos h4]⟩, ⟨hz, fun q h1 _ => hk q h1⟩⟩) (fun z h => by cases h) (Nat.le_of_ble_eq_true rfl) (Nat.le_of_ble_eq_true rfl)
  · skip
    refine lv_iload_n hx hb dX0_failAfter_5 rfl (lv_at hl 1 rfl) ?_
    refine lv_if_lt (tgt := 16) hx hb dX0_failAfter_6 rfl (fun h2 => ?_) (fun h2 => ?_)
    · skip
      exact vx_throw0 (mc := 1) (ms := 6) (A := AA) (names := ["java/lang/RuntimeException", "java/lang/Exception"]) hx hb hlt hown (by decide) (by decide) (hB _ mX0_cl_IAE) (hB _ mX0_i_IAE) (xh_IAE (fun w h => hB w (inxX0_IAE w h)) hN) ot_IAE hZU hZN hS (hl.1.trans hml.symm) dX0_failAfter_16 dX0_failAfter_19 dX0_failAfter_20 dX0_failAfter_23 (fun x h => (ht x h).elim) (Nat.le_of_ble_eq_true rfl) (Nat.le_of_ble_eq_true rfl) (Nat.le_of_ble_eq_true rfl) (Nat.le_of_ble_eq_true rfl) hlocks (fun t _ hz hk => ⟨(), trivial, Or.inl ⟨rfl, by rw [k_fail, if_pos ⟨h1, Or.inl h2⟩]⟩, ⟨hz, fun q h1 _ => hk q h1⟩⟩) (fun z h => by cases h) (Nat.le_of_ble_eq_true rfl) (Nat.le_of_ble_eq_true rfl)
    · skip
      refine lv_iload_n hx hb dX0_failAfter_9 rfl (lv_at hl 1 rfl) ?_
      refine lv_sipush (v := 1000) hx hb dX0_failAfter_10 (by decide) ?_
      refine lv_icmp_le (tgt := 24) hx hb dX0_failAfter_13 rfl (fun h3 => ?_) (fun h3 => ?_)
      · skip
        refine lv_aload_n hx hb dX0_failAfter_24 rfl (lv_at hl 0 rfl) ?_
        refine va_get (D := (dC, dI)) (ci := 0) (v := .int (oOn σ)) (C := RX0) (T := TX0) (N := 12) hx hb hB inX0 hown hK hP 0 rfl rfl 5 (by decide) (hB _ mX0_f_powered) (fun _ h9 => h9) rfl dX0_failAfter_25 ?_
        refine lv_if_ne (tgt := 39) hx hb dX0_failAfter_28 rfl (fun h4 => ?_) (fun h4 => ?_)
        · skip
          refine lv_aload_n hx hb dX0_failAfter_39 rfl (lv_at hl 0 rfl) ?_
          refine lv_iload_n hx hb dX0_failAfter_40 rfl (lv_at hl 1 rfl) ?_
          refine va_put (D := (dC, dI)) (ci := 0) (v := .int x) (ty := .int) (C := RX0) (T := TX0) (N := 12) hx hb hB inX0 tyX0 tyX0_ok nmX0 hown hK hP hD hS 0 rfl rfl 6 (by decide) (hB _ mX0_f_writesToFailure) (fun _ h9 => h9) rfl (by decide +kernel) rfl rfl (Nat.le_of_ble_eq_true rfl) dX0_failAfter_41 (fun H locs hP hD hS => ?_)
          have hP : va_P (dC, dI) vwCl (wO A cI (mkO (oW σ) (oT σ) (oL σ) (oSet σ) (oWr σ) (oOn σ) (x) (oK σ) (oV σ) (oP σ) (oBo σ) (oBs σ))) H := hP
          have hD : va_D AA (wO A cI (mkO (oW σ) (oT σ) (oL σ) (oSet σ) (oWr σ) (oOn σ) (x) (oK σ) (oV σ) (oP σ) (oBo σ) (oBs σ))) := hD
          refine W.widen (k := 1) (n := 6) (Nat.zero_le _) (Nat.zero_le _) ?_
          exact vx_ret (W.vret hx hb hr (fun t ht hW => ⟨⟨mkO (oW σ) (oT σ) (oL σ) (oSet σ) (oWr σ) (oOn σ) (x) (oK σ) (oV σ) (oP σ) (oBo σ) (oBs σ), rfl, ⟨by rw [k_fail, if_neg (fun h => h.2.elim h2 (fun z => z h3)), if_neg h4], rfl⟩, by rw [ht]; exact hP, va_K.moved hW.alike hK, hD⟩, hS.F ht⟩) hS.2.2 dX0_failAfter_44)
        · skip
          exact vx_throw0 (mc := 1) (ms := 6) (A := AA) (names := ["java/lang/RuntimeException", "java/lang/Exception"]) hx hb hlt hown (by decide) (by decide) (hB _ mX0_cl_ISE) (hB _ mX0_i_ISE) (xh_ISE (fun w h => hB w (inxX0_ISE w h)) hN) ot_ISE hZU hZN hS (hl.1.trans hml.symm) dX0_failAfter_31 dX0_failAfter_34 dX0_failAfter_35 dX0_failAfter_38 (fun x h => (ht x h).elim) (Nat.le_of_ble_eq_true rfl) (Nat.le_of_ble_eq_true rfl) (Nat.le_of_ble_eq_true rfl) (Nat.le_of_ble_eq_true rfl) hlocks (fun t _ hz hk => ⟨(), trivial, Or.inr ⟨rfl, by rw [k_fail, if_neg (fun h => h.2.elim h2 (fun z => z h3)), if_pos h4]⟩, ⟨hz, fun q h1 _ => hk q h1⟩⟩) (fun z h => by cases h) (Nat.le_of_ble_eq_true rfl) (Nat.le_of_ble_eq_true rfl)
      · skip
        exact vx_throw0 (mc := 1) (ms := 6) (A := AA) (names := ["java/lang/RuntimeException", "java/lang/Exception"]) hx hb hlt hown (by decide) (by decide) (hB _ mX0_cl_IAE) (hB _ mX0_i_IAE) (xh_IAE (fun w h => hB w (inxX0_IAE w h)) hN) ot_IAE hZU hZN hS (hl.1.trans hml.symm) dX0_failAfter_16 dX0_failAfter_19 dX0_failAfter_20 dX0_failAfter_23 (fun x h => (ht x h).elim) (Nat.le_of_ble_eq_true rfl) (Nat.le_of_ble_eq_true rfl) (Nat.le_of_ble_eq_true rfl) (Nat.le_of_ble_eq_true rfl) hlocks (fun t _ hz hk => ⟨(), trivial, Or.inl ⟨rfl, by rw [k_fail, if_pos ⟨h1, Or.inr h3⟩]⟩, ⟨hz, fun q h1 _ => hk q h1⟩⟩) (fun z h => by cases h) (Nat.le_of_ble_eq_true rfl) (Nat.le_of_ble_eq_true rfl)
set_option maxHeartbeats 4000000 in
set_option maxRecDepth 100000 in
theorem cx0_words (l : Launch) (hlt : l.stackTraces = false) (dC : Nat → ClassId) (dI : Nat → Nat → Nat) (A : Nat → Nat) (cI : ClassId) (σ : OS) (sz : Nat) (key : Int32) : vx_Met l yX0_words wsX0_words (rkx 7) (va_Pc [.ref (A 0), .int key] (oPreX (dC, dI) A cI σ sz)) (va_Qi (fun r u => k_words key = 0 ∧ r = f_cnt (fun w => decide (oT σ w = key + 128)) 160 0 0 ∧ u = σ) (oB (dC, dI) A cI (oX A cI σ sz)) (oX A cI σ sz)) (vx_X (fun _ : Unit => True) (fun E (_ : Unit) (_ : State) => (E = "java/lang/IllegalArgumentException" ∧ k_words key = 1)) (fun q => sz ≤ q)) 1 6 (oX A cI σ sz) := by
  refine vx_ofW (cc := cX0_words) (maxL := 2) (ret := (some .int)) (by decide) rfl ?_
  intro p e s m args below meth c s₁ B hml ht hv
  obtain ⟨rfl, ⟨hsz, hP, hK, hD0⟩, hN, hZU, hZN⟩ := hv
  have hx := B.exec
  have hb := B.bytes
  have hr := B.returns
  have hB : ∀ w ∈ bX0, w.before _ s = true := fun w h => atoms_spec (ws := wsX0_words) B.pre w (List.mem_cons_of_mem _ h)
  have hown : s.vm.findClass RX0 = some m.cls := findClass_of_methodNamed B.named
  have hlocks := B.notSynchronized
  subst hsz
  have hD : va_D (oX A cI σ s.heap.size) (wO A cI σ) := hD0.self (sz := s.heap.size)
  have hA : ∀ q : Nat, s.heap.size ≤ q → oX A cI σ s.heap.size q := fun q h => Or.inr h
  generalize oX A cI σ s.heap.size = AA at hD hA hZU hZN ⊢
  have hS : va_S AA s.heap s.heap [] := va_S.rf
  have hl := lv_entry ([.ref (A 0), .int key]) (n := 2) (Nat.le_of_ble_eq_true rfl)
  rw [lg_entry_eq]
  generalize (lg_sl ([.ref (A 0), .int key]) ++ List.replicate (2 - (lg_sl ([.ref (A 0), .int key])).length) Slot.unset).toArray = ls at hl ⊢
  have hl : lv_has ls 2 [(0, .ref (A 0)), (1, .int key)] := hl
  refine lv_iload_n hx hb dX0_words_0 rfl (lv_at hl 1 rfl) ?_
  refine ck0_isKey hx hb hml hown hB hl.1  dX0_words_1 (Nat.le_of_ble_eq_true rfl) (Nat.le_of_ble_eq_true rfl) ⟨Nat.zero_le _, Nat.zero_le _⟩ (Nat.le_of_ble_eq_true rfl) ?_
  refine lv_if_ne (tgt := 15) hx hb dX0_words_4 rfl (fun h1 => ?_) (fun h1 => ?_)
  · skip
    refine lv_aload_n hx hb dX0_words_15 rfl (lv_at hl 0 rfl) ?_
    refine lv_iload_n hx hb dX0_words_16 rfl (lv_at hl 1 rfl) ?_
    refine ck0_countWords hx hb hml hown hB hl.1 hP hK dX0_words_17 (Nat.le_of_ble_eq_true rfl) (Nat.le_of_ble_eq_true rfl) ⟨Nat.zero_le _, Nat.zero_le _⟩ (Nat.le_of_ble_eq_true rfl) ?_
    refine W.widen (k := 1) (n := 6) (Nat.zero_le _) (Nat.zero_le _) ?_
    exact vx_ret (W.iret (v := (f_cnt (fun w => decide (oT σ w = key + 128)) 160 0 0)) hx hb hr (fun t ht hW => ⟨⟨(f_cnt (fun w => decide (oT σ w = key + 128)) 160 0 0), σ, rfl, ⟨by simp [k_words, bI_n0.mp h1], rfl, rfl⟩, by rw [ht]; exact hP, va_K.moved hW.alike hK, hD⟩, hS.F ht⟩) hS.2.2 dX0_words_20)
  · skip
    exact vx_throw0 (mc := 1) (ms := 6) (A := AA) (names := ["java/lang/RuntimeException", "java/lang/Exception"]) hx hb hlt hown (by decide) (by decide) (hB _ mX0_cl_IAE) (hB _ mX0_i_IAE) (xh_IAE (fun w h => hB w (inxX0_IAE w h)) hN) ot_IAE hZU hZN hS (hl.1.trans hml.symm) dX0_words_7 dX0_words_10 dX0_words_11 dX0_words_14 (fun x h => (ht x h).elim) (Nat.le_of_ble_eq_true rfl) (Nat.le_of_ble_eq_true rfl) (Nat.le_of_ble_eq_true rfl) (Nat.le_of_ble_eq_true rfl) hlocks (fun t _ hz hk => ⟨(), trivial, ⟨rfl, by simp [k_words, bI_0.mp h1]⟩, ⟨hz, fun q h1 _ => hk q h1⟩⟩) (fun z h => by cases h) (Nat.le_of_ble_eq_true rfl) (Nat.le_of_ble_eq_true rfl)
set_option maxHeartbeats 4000000 in
set_option maxRecDepth 100000 in
theorem cx0_history (l : Launch) (hlt : l.stackTraces = false) (dC : Nat → ClassId) (dI : Nat → Nat → Nat) (A : Nat → Nat) (cI : ClassId) (σ : OS) (sz : Nat) (key : Int32) (j : Int32) : vx_Met l yX0_history wsX0_history (rkx 7) (va_Pc [.ref (A 0), .int key, .int j] (oPreX (dC, dI) A cI σ sz)) (va_Qi (fun r u => k_hist σ key j = 0 ∧ r = r_hist σ key j ∧ u = σ) (oB (dC, dI) A cI (oX A cI σ sz)) (oX A cI σ sz)) (vx_X (fun _ : Unit => True) (fun E (_ : Unit) (_ : State) => (E = "java/lang/IllegalArgumentException" ∧ k_hist σ key j = 1) ∨ (E = "java/lang/IndexOutOfBoundsException" ∧ k_hist σ key j = 2)) (fun q => sz ≤ q)) 1 6 (oX A cI σ sz) := by
  refine vx_ofW (cc := cX0_history) (maxL := 4) (ret := (some .int)) (by decide) rfl ?_
  intro p e s m args below meth c s₁ B hml ht hv
  obtain ⟨rfl, ⟨hsz, hP, hK, hD0⟩, hN, hZU, hZN⟩ := hv
  have hx := B.exec
  have hb := B.bytes
  have hr := B.returns
  have hB : ∀ w ∈ bX0, w.before _ s = true := fun w h => atoms_spec (ws := wsX0_history) B.pre w (List.mem_cons_of_mem _ h)
  have hown : s.vm.findClass RX0 = some m.cls := findClass_of_methodNamed B.named
  have hlocks := B.notSynchronized
  subst hsz
  have hD : va_D (oX A cI σ s.heap.size) (wO A cI σ) := hD0.self (sz := s.heap.size)
  have hA : ∀ q : Nat, s.heap.size ≤ q → oX A cI σ s.heap.size q := fun q h => Or.inr h
  generalize oX A cI σ s.heap.size = AA at hD hA hZU hZN ⊢
  have hS : va_S AA s.heap s.heap [] := va_S.rf
  have hl := lv_entry ([.ref (A 0), .int key, .int j]) (n := 4) (Nat.le_of_ble_eq_true rfl)
  rw [lg_entry_eq]
  generalize (lg_sl ([.ref (A 0), .int key, .int j]) ++ List.replicate (4 - (lg_sl ([.ref (A 0), .int key, .int j])).length) Slot.unset).toArray = ls at hl ⊢
  have hl : lv_has ls 4 [(0, .ref (A 0)), (1, .int key), (2, .int j)] := hl
  refine lv_iload_n hx hb dX0_history_0 rfl (lv_at hl 1 rfl) ?_
  refine ck0_isKey hx hb hml hown hB hl.1  dX0_history_1 (Nat.le_of_ble_eq_true rfl) (Nat.le_of_ble_eq_true rfl) ⟨Nat.zero_le _, Nat.zero_le _⟩ (Nat.le_of_ble_eq_true rfl) ?_
  refine lv_if_ne (tgt := 15) hx hb dX0_history_4 rfl (fun h1 => ?_) (fun h1 => ?_)
  · skip
    refine lv_aload_n hx hb dX0_history_15 rfl (lv_at hl 0 rfl) ?_
    refine lv_iload_n hx hb dX0_history_16 rfl (lv_at hl 1 rfl) ?_
    refine lv_iload_n hx hb dX0_history_17 rfl (lv_at hl 2 rfl) ?_
    refine ck0_numberedWord hx hb hml hown hB hl.1 hP hK dX0_history_18 (Nat.le_of_ble_eq_true rfl) (Nat.le_of_ble_eq_true rfl) ⟨Nat.zero_le _, Nat.zero_le _⟩ (Nat.le_of_ble_eq_true rfl) ?_
    refine lv_istore_n hx hb dX0_history_21 rfl hl (by decide) rfl (fun ls hl => ?_)
    have hl : lv_has ls 4 [(3, .int (f_num (oT σ) key j 160 0 0)), (0, .ref (A 0)), (1, .int key), (2, .int j)] := hl
    refine lv_iload_n hx hb dX0_history_22 rfl (lv_at hl 0 rfl) ?_
    refine lv_iconst (v := (-1)) hx hb dX0_history_23 (by decide) ?_
    refine lv_icmp_ne (tgt := 35) hx hb dX0_history_24 rfl (fun h2 => ?_) (fun h2 => ?_)
    · skip
      have hin : vp_in (f_num (oT σ) key j 160 0 0) 160 := by rcases f_num_in (oT σ) key j 160 0 0 with h | ⟨k, -, k2, k3⟩; exact absurd h h2; rw [k3]; exact vp_in_nI (by omega) (by decide)
      refine lv_aload_n hx hb dX0_history_35 rfl (lv_at hl 1 rfl) ?_
      refine va_get (D := (dC, dI)) (ci := 0) (v := .ref (A 1)) (C := RX0) (T := TX0) (N := 12) hx hb hB inX0 hown hK hP 0 rfl rfl 0 (by decide) (hB _ mX0_f_wordRow) (fun _ h9 => h9) rfl dX0_history_36 ?_
      refine lv_iload_n hx hb dX0_history_39 rfl (lv_at hl 0 rfl) ?_
      refine va_iald (D := (dC, dI)) (i := (f_num (oT σ) key j 160 0 0)) hx hb hK hP 1 0 rfl rfl hin dX0_history_40 ?_
      refine ck0_meaningOfWord hx hb hml hown hB hl.1  dX0_history_41 (Nat.le_of_ble_eq_true rfl) (Nat.le_of_ble_eq_true rfl) ⟨Nat.zero_le _, Nat.zero_le _⟩ (Nat.le_of_ble_eq_true rfl) ?_
      refine W.widen (k := 1) (n := 6) (Nat.zero_le _) (Nat.zero_le _) ?_
      exact vx_ret (W.iret (v := (f_mw (oW σ (f_num (oT σ) key j 160 0 0).toNatClampNeg))) hx hb hr (fun t ht hW => ⟨⟨(f_mw (oW σ (f_num (oT σ) key j 160 0 0).toNatClampNeg)), σ, rfl, ⟨by simp [k_hist, bI_n0.mp h1, h2], rfl, rfl⟩, by rw [ht]; exact hP, va_K.moved hW.alike hK, hD⟩, hS.F ht⟩) hS.2.2 dX0_history_44)
    · skip
      exact vx_throw0 (mc := 1) (ms := 6) (A := AA) (names := ["java/lang/RuntimeException", "java/lang/Exception"]) hx hb hlt hown (by decide) (by decide) (hB _ mX0_cl_IOB) (hB _ mX0_i_IOB) (xh_IOB (fun w h => hB w (inxX0_IOB w h)) hN) ot_IOB hZU hZN hS (hl.1.trans hml.symm) dX0_history_27 dX0_history_30 dX0_history_31 dX0_history_34 (fun x h => (ht x h).elim) (Nat.le_of_ble_eq_true rfl) (Nat.le_of_ble_eq_true rfl) (Nat.le_of_ble_eq_true rfl) (Nat.le_of_ble_eq_true rfl) hlocks (fun t _ hz hk => ⟨(), trivial, Or.inr ⟨rfl, by simp [k_hist, bI_n0.mp h1, h2]⟩, ⟨hz, fun q h1 _ => hk q h1⟩⟩) (fun z h => by cases h) (Nat.le_of_ble_eq_true rfl) (Nat.le_of_ble_eq_true rfl)
  · skip
    exact vx_throw0 (mc := 1) (ms := 6) (A := AA) (names := ["java/lang/RuntimeException", "java/lang/Exception"]) hx hb hlt hown (by decide) (by decide) (hB _ mX0_cl_IAE) (hB _ mX0_i_IAE) (xh_IAE (fun w h => hB w (inxX0_IAE w h)) hN) ot_IAE hZU hZN hS (hl.1.trans hml.symm) dX0_history_7 dX0_history_10 dX0_history_11 dX0_history_14 (fun x h => (ht x h).elim) (Nat.le_of_ble_eq_true rfl) (Nat.le_of_ble_eq_true rfl) (Nat.le_of_ble_eq_true rfl) (Nat.le_of_ble_eq_true rfl) hlocks (fun t _ hz hk => ⟨(), trivial, Or.inl ⟨rfl, by simp [k_hist, bI_0.mp h1]⟩, ⟨hz, fun q h1 _ => hk q h1⟩⟩) (fun z h => by cases h) (Nat.le_of_ble_eq_true rfl) (Nat.le_of_ble_eq_true rfl)
set_option maxHeartbeats 4000000 in
set_option maxRecDepth 100000 in
theorem cx0_mount (l : Launch) (hlt : l.stackTraces = false) (dC : Nat → ClassId) (dI : Nat → Nat → Nat) (A : Nat → Nat) (cI : ClassId) (σ : OS) (sz : Nat) : vx_Met l yX0_mount wsX0_mount (rkx 7) (va_Pc [.ref (A 0)] (oPreX (dC, dI) A cI σ sz)) (va_Qi (fun r u => k_mount σ = 0 ∧ r = r_mount σ ∧ u = s_mount σ) (oB (dC, dI) A cI (oX A cI σ sz)) (oX A cI σ sz)) (vx_X (fun _ : Unit => True) (fun E (_ : Unit) (_ : State) => (E = "java/lang/IllegalStateException" ∧ k_mount σ = 1)) (fun q => sz ≤ q)) 1 6 (oX A cI σ sz) := by
  refine vx_ofW (cc := cX0_mount) (maxL := 2) (ret := (some .int)) (by decide) rfl ?_
  intro p e s m args below meth c s₁ B hml ht hv
  obtain ⟨rfl, ⟨hsz, hP, hK, hD0⟩, hN, hZU, hZN⟩ := hv
  have hx := B.exec
  have hb := B.bytes
  have hr := B.returns
  have hB : ∀ w ∈ bX0, w.before _ s = true := fun w h => atoms_spec (ws := wsX0_mount) B.pre w (List.mem_cons_of_mem _ h)
  have hown : s.vm.findClass RX0 = some m.cls := findClass_of_methodNamed B.named
  have hlocks := B.notSynchronized
  subst hsz
  have hD : va_D (oX A cI σ s.heap.size) (wO A cI σ) := hD0.self (sz := s.heap.size)
  have hA : ∀ q : Nat, s.heap.size ≤ q → oX A cI σ s.heap.size q := fun q h => Or.inr h
  generalize oX A cI σ s.heap.size = AA at hD hA hZU hZN ⊢
  have hS : va_S AA s.heap s.heap [] := va_S.rf
  have hl := lv_entry ([.ref (A 0)]) (n := 2) (Nat.le_of_ble_eq_true rfl)
  rw [lg_entry_eq]
  generalize (lg_sl ([.ref (A 0)]) ++ List.replicate (2 - (lg_sl ([.ref (A 0)])).length) Slot.unset).toArray = ls at hl ⊢
  have hl : lv_has ls 2 [(0, .ref (A 0))] := hl
  refine lv_aload_n hx hb dX0_mount_0 rfl (lv_at hl 0 rfl) ?_
  refine va_get (D := (dC, dI)) (ci := 0) (v := .int (oOn σ)) (C := RX0) (T := TX0) (N := 12) hx hb hB inX0 hown hK hP 0 rfl rfl 5 (by decide) (hB _ mX0_f_powered) (fun _ h9 => h9) rfl dX0_mount_1 ?_
  refine lv_if_eq (tgt := 15) hx hb dX0_mount_4 rfl (fun h1 => ?_) (fun h1 => ?_)
  · skip
    refine lv_aload_n hx hb dX0_mount_15 rfl (lv_at hl 0 rfl) ?_
    refine lv_iconst (v := 1) hx hb dX0_mount_16 (by decide) ?_
    refine va_put (D := (dC, dI)) (ci := 0) (v := .int 1) (ty := .boolean) (C := RX0) (T := TX0) (N := 12) hx hb hB inX0 tyX0 tyX0_ok nmX0 hown hK hP hD hS 0 rfl rfl 5 (by decide) (hB _ mX0_f_powered) (fun _ h9 => h9) rfl (by decide +kernel) rfl rfl (Nat.le_of_ble_eq_true rfl) dX0_mount_17 (fun H locs hP hD hS => ?_)
    have hP : va_P (dC, dI) vwCl (wO A cI (mkO (oW σ) (oT σ) (oL σ) (oSet σ) (oWr σ) (1) (oUn σ) (oK σ) (oV σ) (oP σ) (oBo σ) (oBs σ))) H := hP
    have hD : va_D AA (wO A cI (mkO (oW σ) (oT σ) (oL σ) (oSet σ) (oWr σ) (1) (oUn σ) (oK σ) (oV σ) (oP σ) (oBo σ) (oBs σ))) := hD
    refine lv_aload_n hx hb dX0_mount_20 rfl (lv_at hl 0 rfl) ?_
    refine lv_iconst (v := (-1)) hx hb dX0_mount_21 (by decide) ?_
    refine va_put (D := (dC, dI)) (ci := 0) (v := .int (-1)) (ty := .int) (C := RX0) (T := TX0) (N := 12) hx hb hB inX0 tyX0 tyX0_ok nmX0 hown hK hP hD hS 0 rfl rfl 6 (by decide) (hB _ mX0_f_writesToFailure) (fun _ h9 => h9) rfl (by decide +kernel) rfl rfl (Nat.le_of_ble_eq_true rfl) dX0_mount_22 (fun H locs hP hD hS => ?_)
    have hP : va_P (dC, dI) vwCl (wO A cI (mkO (oW σ) (oT σ) (oL σ) (oSet σ) (oWr σ) (1) ((-1)) (oK σ) (oV σ) (oP σ) (oBo σ) (oBs σ))) H := hP
    have hD : va_D AA (wO A cI (mkO (oW σ) (oT σ) (oL σ) (oSet σ) (oWr σ) (1) ((-1)) (oK σ) (oV σ) (oP σ) (oBo σ) (oBs σ))) := hD
    refine lv_aload_n hx hb dX0_mount_25 rfl (lv_at hl 0 rfl) ?_
    refine ck0_closeBatch hx hb hml hown hB hl.1 hP hK hD hS hA  dX0_mount_26 (Nat.le_of_ble_eq_true rfl) (Nat.le_of_ble_eq_true rfl) ⟨Nat.zero_le _, Nat.zero_le _⟩ (Nat.le_of_ble_eq_true rfl) (fun H locs hP hD hS => ?_)
    refine lv_iconst (v := 0) hx hb dX0_mount_29 (by decide) ?_
    refine lv_istore_n hx hb dX0_mount_30 rfl hl (by decide) rfl (fun ls hl => ?_)
    have hl : lv_has ls 2 [(1, .int 0), (0, .ref (A 0))] := hl
    have hl := lv_sub (l' := [(0, .ref (A 0)), (1, .int 0)]) hl [1, 0] rfl
    have loop : ∀ (n i : Nat) (τ : OS) (ls : Array Slot) (H : Heap) (locs : List Loc), i + n = 40 → lv_has ls 2 [(0, .ref (A 0)), (1, .int (nI i))] → va_P (dC, dI) vwCl (wO A cI τ) H → va_D AA (wO A cI τ) → va_S AA s.heap H locs → f_mountL n i τ = s_mount σ → W p l e (headSpec wsX0_mount (rkx 7)).room s m ([.ref (A 0)]).toArray below meth c H locs 0 0 (vx_MQ below (va_Qi (fun r u => k_mount σ = 0 ∧ r = r_mount σ ∧ u = s_mount σ) (oB (dC, dI) A cI AA) AA) (vx_X (fun _ : Unit => True) (fun E (_ : Unit) (_ : State) => (E = "java/lang/IllegalStateException" ∧ k_mount σ = 1)) (fun q => s.heap.size ≤ q)) ([.ref (A 0)]).toArray s 1 6 AA) (F0 m 31 ls []) := by
      intro n
      induction n with
      | zero =>
        intro i τ ls H locs hi hl hP hD hS hF
        have hi8 : i = 40 := by omega
        subst hi8
        refine lv_iload_n hx hb dX0_mount_31 rfl (lv_at hl 1 rfl) ?_
        refine lv_bipush (v := 40) hx hb dX0_mount_32 (by decide) ?_
        refine lv_icmp_ge (tgt := 65) hx hb dX0_mount_34 rfl (fun h2 => ?_) (fun h2 => ?_)
        · skip
          have hF : τ = s_mount σ := hF
          refine lv_aload_n hx hb dX0_mount_65 rfl (lv_at hl 0 rfl) ?_
          refine ck0_countKeysWithWords hx hb hml hown hB hl.1 hP hK dX0_mount_66 (Nat.le_of_ble_eq_true rfl) (Nat.le_of_ble_eq_true rfl) ⟨Nat.zero_le _, Nat.zero_le _⟩ (Nat.le_of_ble_eq_true rfl) ?_
          refine W.widen (k := 1) (n := 6) (Nat.zero_le _) (Nat.zero_le _) ?_
          exact vx_ret (W.iret (v := (f_cnt (fun k => decide (¬ f_pres (oT τ) (nI k) 160 = -1)) 64 0 0)) hx hb hr (fun t ht hW => ⟨⟨(f_cnt (fun k => decide (¬ f_pres (oT τ) (nI k) 160 = -1)) 64 0 0), τ, rfl, ⟨by rw [k_mount, if_pos h1], by rw [hF]; rfl, hF⟩, by rw [ht]; exact hP, va_K.moved hW.alike hK, hD⟩, hS.F ht⟩) hS.2.2 dX0_mount_69)
        · skip
          exact absurd (by decide) h2
      | succ n ih =>
        intro i τ ls H locs hi hl hP hD hS hF
        refine lv_iload_n hx hb dX0_mount_31 rfl (lv_at hl 1 rfl) ?_
        refine lv_bipush (v := 40) hx hb dX0_mount_32 (by decide) ?_
        refine lv_icmp_ge (tgt := 65) hx hb dX0_mount_34 rfl (fun h2 => ?_) (fun h2 => ?_)
        · skip
          exact absurd h2 (nI_ge (b := 40) (by omega) (by decide))
        · skip
          refine lv_aload_n hx hb dX0_mount_37 rfl (lv_at hl 0 rfl) ?_
          refine va_get (D := (dC, dI)) (ci := 0) (v := .ref (A 3)) (C := RX0) (T := TX0) (N := 12) hx hb hB inX0 hown hK hP 0 rfl rfl 2 (by decide) (hB _ mX0_f_lineRow) (fun _ h9 => h9) rfl dX0_mount_38 ?_
          refine lv_iload_n hx hb dX0_mount_41 rfl (lv_at hl 1 rfl) ?_
          refine lv_bipush (v := 9) hx hb dX0_mount_42 (by decide) ?_
          refine lv_imul hx hb dX0_mount_44 ?_
          refine lv_bipush (v := 8) hx hb dX0_mount_45 (by decide) ?_
          refine lv_iadd hx hb dX0_mount_47 ?_
          have hidx : nI i * 9 + 8 = nI (i * 9 + 8) := by rw [← nI_add, ← pk_mul]; rfl
          rw [hidx]
          refine va_iald (D := (dC, dI)) (i := (nI (i * 9 + 8))) hx hb hK hP 3 0 rfl rfl (vp_in_nI (by omega) (by decide)) dX0_mount_48 ?_
          rw [show ((nI (i * 9 + 8))).toNatClampNeg = i * 9 + 8 from nI_clamp (by omega)]
          refine lv_iconst (v := 1) hx hb dX0_mount_49 (by decide) ?_
          refine lv_icmp_ne (tgt := 59) hx hb dX0_mount_50 rfl (fun h3 => ?_) (fun h3 => ?_)
          · skip
            refine lv_iinc (k := 1) (v := (nI (i + 1))) hx hb dX0_mount_59 hl rfl (nI_1 i) (by decide) rfl (fun ls hl => ?_)
            have hl : lv_has ls 2 [(1, .int (nI (i + 1))), (0, .ref (A 0))] := hl
            refine lv_goto (tgt := 31) hx hb dX0_mount_62 rfl ?_
            refine ih (i + 1) _ ls H locs (by omega) (lv_sub hl [1, 0] rfl) hP hD hS ?_
            rw [← hF, f_mountL, if_neg h3]
          · skip
            refine lv_aload_n hx hb dX0_mount_53 rfl (lv_at hl 0 rfl) ?_
            refine lv_iload_n hx hb dX0_mount_54 rfl (lv_at hl 1 rfl) ?_
            refine ck0_carryOutNote hx hb hml hown hB hl.1 hP hK hD hS hA (by omega) dX0_mount_55 (Nat.le_of_ble_eq_true rfl) (Nat.le_of_ble_eq_true rfl) ⟨Nat.zero_le _, Nat.zero_le _⟩ (Nat.le_of_ble_eq_true rfl) (fun H locs hP hD hS => ?_)
            refine lv_pop hx hb dX0_mount_58 rfl ?_
            refine lv_iinc (k := 1) (v := (nI (i + 1))) hx hb dX0_mount_59 hl rfl (nI_1 i) (by decide) rfl (fun ls hl => ?_)
            have hl : lv_has ls 2 [(1, .int (nI (i + 1))), (0, .ref (A 0))] := hl
            refine lv_goto (tgt := 31) hx hb dX0_mount_62 rfl ?_
            refine ih (i + 1) _ ls H locs (by omega) (lv_sub hl [1, 0] rfl) hP hD hS ?_
            rw [← hF, f_mountL, if_pos h3]
    exact loop 40 0 _ ls H locs rfl hl hP hD hS rfl
  · skip
    exact vx_throw0 (mc := 1) (ms := 6) (A := AA) (names := ["java/lang/RuntimeException", "java/lang/Exception"]) hx hb hlt hown (by decide) (by decide) (hB _ mX0_cl_ISE) (hB _ mX0_i_ISE) (xh_ISE (fun w h => hB w (inxX0_ISE w h)) hN) ot_ISE hZU hZN hS (hl.1.trans hml.symm) dX0_mount_7 dX0_mount_10 dX0_mount_11 dX0_mount_14 (fun x h => (ht x h).elim) (Nat.le_of_ble_eq_true rfl) (Nat.le_of_ble_eq_true rfl) (Nat.le_of_ble_eq_true rfl) (Nat.le_of_ble_eq_true rfl) hlocks (fun t _ hz hk => ⟨(), trivial, ⟨rfl, by rw [k_mount, if_neg h1]⟩, ⟨hz, fun q h1 _ => hk q h1⟩⟩) (fun z h => by cases h) (Nat.le_of_ble_eq_true rfl) (Nat.le_of_ble_eq_true rfl)
