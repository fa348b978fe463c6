set_option maxHeartbeats 4000000 in
set_option maxRecDepth 100000 in
theorem cx0_put (l : Launch) (hlt : l.stackTraces = false) (dC : Nat → ClassId) (dI : Nat → Nat → Nat) (A : Nat → Nat) (cI : ClassId) (σ : OS) (sz : Nat) (key : Int32) (v : Int32) : vx_Met l yX0_put wsX0_put (rkx 7) (va_Pc [.ref (A 0), .int key, .int v] (oPreX (dC, dI) A cI σ sz)) (va_Qi (fun r u => k_put σ key v = 0 ∧ r = r_put σ key v ∧ u = s_put σ key v) (oB (dC, dI) A cI (oX A cI σ sz)) (oX A cI σ sz)) (vx_X (fun _ : Unit => True) (fun E (_ : Unit) (_ : State) => (E = "java/lang/IllegalArgumentException" ∧ k_put σ key v = 1) ∨ (E = "java/lang/IllegalStateException" ∧ k_put σ key v = 2)) (fun q => sz ≤ q)) 1 6 (oX A cI σ sz) := by
  refine vx_ofW (cc := cX0_put) (maxL := 5) (ret := (some .int)) (by decide) rfl ?_
  intro p e s m args below meth c s₁ B hml ht hv
  obtain ⟨rfl, ⟨hsz, hP, hK, hD0⟩, hN, hZU, hZN⟩ := hv
  have hx := B.exec
  have hb := B.bytes
  have hr := B.returns
  have hB : ∀ w ∈ bX0, w.before _ s = true := fun w h => atoms_spec (ws := wsX0_put) B.pre w (List.mem_cons_of_mem _ h)
  have hown : s.vm.findClass RX0 = some m.cls := findClass_of_methodNamed B.named
  have hlocks := B.notSynchronized
  subst hsz
  have hD : va_D (oX A cI σ s.heap.size) (wO A cI σ) := hD0.self (sz := s.heap.size)
  have hA : ∀ q : Nat, s.heap.size ≤ q → oX A cI σ s.heap.size q := fun q h => Or.inr h
  generalize oX A cI σ s.heap.size = AA at hD hA hZU hZN ⊢
  have hS : va_S AA s.heap s.heap [] := va_S.rf
  have hl := lv_entry ([.ref (A 0), .int key, .int v]) (n := 5) (Nat.le_of_ble_eq_true rfl)
  rw [lg_entry_eq]
  generalize (lg_sl ([.ref (A 0), .int key, .int v]) ++ List.replicate (5 - (lg_sl ([.ref (A 0), .int key, .int v])).length) Slot.unset).toArray = ls at hl ⊢
  have hl : lv_has ls 5 [(0, .ref (A 0)), (1, .int key), (2, .int v)] := hl
  refine lv_iload_n hx hb dX0_put_0 rfl (lv_at hl 1 rfl) ?_
  refine ck0_isKey hx hb hml hown hB hl.1  dX0_put_1 (Nat.le_of_ble_eq_true rfl) (Nat.le_of_ble_eq_true rfl) ⟨Nat.zero_le _, Nat.zero_le _⟩ (Nat.le_of_ble_eq_true rfl) ?_
  refine lv_if_eq (tgt := 14) hx hb dX0_put_4 rfl (fun h1 => ?_) (fun h1 => ?_)
  · skip
    exact vx_throw0 (mc := 1) (ms := 6) (A := AA) (names := ["java/lang/RuntimeException", "java/lang/Exception"]) hx hb hlt hown (by decide) (by decide) (hB _ mX0_cl_IAE) (hB _ mX0_i_IAE) (xh_IAE (fun w h => hB w (inxX0_IAE w h)) hN) ot_IAE hZU hZN hS (hl.1.trans hml.symm) dX0_put_14 dX0_put_17 dX0_put_18 dX0_put_21 (fun x h => (ht x h).elim) (Nat.le_of_ble_eq_true rfl) (Nat.le_of_ble_eq_true rfl) (Nat.le_of_ble_eq_true rfl) (Nat.le_of_ble_eq_true rfl) hlocks (fun t _ hz hk => ⟨(), trivial, Or.inl ⟨rfl, by simp [k_put, k_args, bI_0.mp h1]⟩, ⟨hz, fun q h1 _ => hk q h1⟩⟩) (fun z h => by cases h) (Nat.le_of_ble_eq_true rfl) (Nat.le_of_ble_eq_true rfl)
  · skip
    refine lv_iload_n hx hb dX0_put_7 rfl (lv_at hl 2 rfl) ?_
    refine ck0_isValue hx hb hml hown hB hl.1  dX0_put_8 (Nat.le_of_ble_eq_true rfl) (Nat.le_of_ble_eq_true rfl) ⟨Nat.zero_le _, Nat.zero_le _⟩ (Nat.le_of_ble_eq_true rfl) ?_
    refine lv_if_ne (tgt := 22) hx hb dX0_put_11 rfl (fun h2 => ?_) (fun h2 => ?_)
    · skip
      have hka : k_args key v = true := by simp [k_args, bI_n0.mp h1, bI_n0.mp h2]
      refine lv_aload_n hx hb dX0_put_22 rfl (lv_at hl 0 rfl) ?_
      refine va_get (D := (dC, dI)) (ci := 0) (v := .int (oOn σ)) (C := RX0) (T := TX0) (N := 12) hx hb hB inX0 hown hK hP 0 rfl rfl 5 (by decide) (hB _ mX0_f_powered) (fun _ h9 => h9) rfl dX0_put_23 ?_
      refine lv_if_eq (tgt := 36) hx hb dX0_put_26 rfl (fun h3 => ?_) (fun h3 => ?_)
      · skip
        exact vx_throw0 (mc := 1) (ms := 6) (A := AA) (names := ["java/lang/RuntimeException", "java/lang/Exception"]) hx hb hlt hown (by decide) (by decide) (hB _ mX0_cl_ISE) (hB _ mX0_i_ISE) (xh_ISE (fun w h => hB w (inxX0_ISE w h)) hN) ot_ISE hZU hZN hS (hl.1.trans hml.symm) dX0_put_36 dX0_put_39 dX0_put_40 dX0_put_43 (fun x h => (ht x h).elim) (Nat.le_of_ble_eq_true rfl) (Nat.le_of_ble_eq_true rfl) (Nat.le_of_ble_eq_true rfl) (Nat.le_of_ble_eq_true rfl) hlocks (fun t _ hz hk => ⟨(), trivial, Or.inr ⟨rfl, by simp [k_put, hka, h3]⟩, ⟨hz, fun q h1 _ => hk q h1⟩⟩) (fun z h => by cases h) (Nat.le_of_ble_eq_true rfl) (Nat.le_of_ble_eq_true rfl)
      · skip
        refine lv_aload_n hx hb dX0_put_29 rfl (lv_at hl 0 rfl) ?_
        refine va_get (D := (dC, dI)) (ci := 0) (v := .int (oBo σ)) (C := RX0) (T := TX0) (N := 12) hx hb hB inX0 hown hK hP 0 rfl rfl 10 (by decide) (hB _ mX0_f_batchOpen) (fun _ h9 => h9) rfl dX0_put_30 ?_
        refine lv_if_eq (tgt := 44) hx hb dX0_put_33 rfl (fun h4 => ?_) (fun h4 => ?_)
        · skip
          have hk0 : k_put σ key v = 0 := by simp [k_put, hka, h3, h4]
          refine lv_aload_n hx hb dX0_put_44 rfl (lv_at hl 0 rfl) ?_
          refine lv_iload_n hx hb dX0_put_45 rfl (lv_at hl 1 rfl) ?_
          refine lv_iload_n hx hb dX0_put_46 rfl (lv_at hl 2 rfl) ?_
          refine lv_iconst (v := 0) hx hb dX0_put_47 (by decide) ?_
          refine ck0_wordThatTakes (fr := 0) hx hb hml hown hB hl.1 hP hK (Nat.zero_le _) dX0_put_48 (Nat.le_of_ble_eq_true rfl) (Nat.le_of_ble_eq_true rfl) ⟨Nat.zero_le _, Nat.zero_le _⟩ (Nat.le_of_ble_eq_true rfl) ?_
          refine lv_istore_n hx hb dX0_put_51 rfl hl (by decide) rfl (fun ls hl => ?_)
          have hl : lv_has ls 5 [(3, .int (f_takes (oW σ) (oT σ) key v 0)), (0, .ref (A 0)), (1, .int key), (2, .int v)] := hl
          refine lv_iload_n hx hb dX0_put_52 rfl (lv_at hl 0 rfl) ?_
          refine lv_iconst (v := (-1)) hx hb dX0_put_53 (by decide) ?_
          refine lv_icmp_ne (tgt := 59) hx hb dX0_put_54 rfl (fun h5 => ?_) (fun h5 => ?_)
          · skip
            obtain ⟨k, hk, ek⟩ := (f_takes_in (oW σ) (oT σ) key v 0 (Nat.zero_le _)).resolve_left h5
            have ekc : (f_takes (oW σ) (oT σ) key v 0).toNatClampNeg = k := by rw [ek]; exact nI_clamp (by omega)
            rw [ek] at hl
            refine lv_aload_n hx hb dX0_put_59 rfl (lv_at hl 1 rfl) ?_
            refine va_get (D := (dC, dI)) (ci := 0) (v := .int (oWr σ)) (C := RX0) (T := TX0) (N := 12) hx hb hB inX0 hown hK hP 0 rfl rfl 4 (by decide) (hB _ mX0_f_writes) (fun _ h9 => h9) rfl dX0_put_60 ?_
            refine lv_istore hx hb dX0_put_63 hl (by decide) rfl (fun ls hl => ?_)
            have hl : lv_has ls 5 [(4, .int (oWr σ)), (3, .int (nI k)), (0, .ref (A 0)), (1, .int key), (2, .int v)] := hl
            refine lv_aload_n hx hb dX0_put_65 rfl (lv_at hl 2 rfl) ?_
            refine lv_iload_n hx hb dX0_put_66 rfl (lv_at hl 3 rfl) ?_
            refine lv_iload_n hx hb dX0_put_67 rfl (lv_at hl 4 rfl) ?_
            refine lv_iload_n hx hb dX0_put_68 rfl (lv_at hl 1 rfl) ?_
            refine ck0_writePut hx hb hml hown hB hl.1 hP hK hD hS hA hk dX0_put_69 (Nat.le_of_ble_eq_true rfl) (Nat.le_of_ble_eq_true rfl) ⟨Nat.zero_le _, Nat.zero_le _⟩ (Nat.le_of_ble_eq_true rfl) (fun H locs hP hD hS => ?_)
            refine lv_if_eq (tgt := 85) hx hb dX0_put_72 rfl (fun h6 => ?_) (fun h6 => ?_)
            · skip
              refine lv_bipush (v := (-2)) hx hb dX0_put_85 (by decide) ?_
              refine W.widen (k := 1) (n := 6) (Nat.zero_le _) (Nat.zero_le _) ?_
              exact vx_ret (W.iret (v := (-2)) hx hb hr (fun t ht hW => ⟨⟨(-2), (f_put σ k key v).2, rfl, ⟨hk0, by rw [r_put, if_neg h5, ekc, if_neg (by rw [bI_0.mp h6]; decide)], by rw [s_put, if_neg h5, ekc]⟩, by rw [ht]; exact hP, va_K.moved hW.alike hK, hD⟩, hS.F ht⟩) hS.2.2 dX0_put_87)
            · skip
              refine lv_aload_n hx hb dX0_put_75 rfl (lv_at hl 2 rfl) ?_
              refine va_get (D := (dC, dI)) (ci := 0) (v := .int (oWr ((f_put σ k key v).2))) (C := RX0) (T := TX0) (N := 12) hx hb hB inX0 hown hK hP 0 rfl rfl 4 (by decide) (hB _ mX0_f_writes) (fun _ h9 => h9) rfl dX0_put_76 ?_
              refine lv_iload hx hb dX0_put_79 (lv_at hl 0 rfl) ?_
              refine lv_isub hx hb dX0_put_81 ?_
              refine lv_goto (tgt := 87) hx hb dX0_put_82 rfl ?_
              refine W.widen (k := 1) (n := 6) (Nat.zero_le _) (Nat.zero_le _) ?_
              exact vx_ret (W.iret (v := ((oWr ((f_put σ k key v).2)) - (oWr σ))) hx hb hr (fun t ht hW => ⟨⟨((oWr ((f_put σ k key v).2)) - (oWr σ)), (f_put σ k key v).2, rfl, ⟨hk0, by rw [r_put, if_neg h5, ekc, if_pos (bI_n0.mp h6)], by rw [s_put, if_neg h5, ekc]⟩, by rw [ht]; exact hP, va_K.moved hW.alike hK, hD⟩, hS.F ht⟩) hS.2.2 dX0_put_87)
          · skip
            refine lv_iconst (v := (-1)) hx hb dX0_put_57 (by decide) ?_
            refine W.widen (k := 1) (n := 6) (Nat.zero_le _) (Nat.zero_le _) ?_
            exact vx_ret (W.iret (v := (-1)) hx hb hr (fun t ht hW => ⟨⟨(-1), σ, rfl, ⟨hk0, by rw [r_put, if_pos h5], by rw [s_put, if_pos h5]⟩, by rw [ht]; exact hP, va_K.moved hW.alike hK, hD⟩, hS.F ht⟩) hS.2.2 dX0_put_58)
        · skip
          exact vx_throw0 (mc := 1) (ms := 6) (A := AA) (names := ["java/lang/RuntimeException", "java/lang/Exception"]) hx hb hlt hown (by decide) (by decide) (hB _ mX0_cl_ISE) (hB _ mX0_i_ISE) (xh_ISE (fun w h => hB w (inxX0_ISE w h)) hN) ot_ISE hZU hZN hS (hl.1.trans hml.symm) dX0_put_36 dX0_put_39 dX0_put_40 dX0_put_43 (fun x h => (ht x h).elim) (Nat.le_of_ble_eq_true rfl) (Nat.le_of_ble_eq_true rfl) (Nat.le_of_ble_eq_true rfl) (Nat.le_of_ble_eq_true rfl) hlocks (fun t _ hz hk => ⟨(), trivial, Or.inr ⟨rfl, by simp [k_put, hka, h4]⟩, ⟨hz, fun q h1 _ => hk q h1⟩⟩) (fun z h => by cases h) (Nat.le_of_ble_eq_true rfl) (Nat.le_of_ble_eq_true rfl)
    · skip
      exact vx_throw0 (mc := 1) (ms := 6) (A := AA) (names := ["java/lang/RuntimeException", "java/lang/Exception"]) hx hb hlt hown (by decide) (by decide) (hB _ mX0_cl_IAE) (hB _ mX0_i_IAE) (xh_IAE (fun w h => hB w (inxX0_IAE w h)) hN) ot_IAE hZU hZN hS (hl.1.trans hml.symm) dX0_put_14 dX0_put_17 dX0_put_18 dX0_put_21 (fun x h => (ht x h).elim) (Nat.le_of_ble_eq_true rfl) (Nat.le_of_ble_eq_true rfl) (Nat.le_of_ble_eq_true rfl) (Nat.le_of_ble_eq_true rfl) hlocks (fun t _ hz hk => ⟨(), trivial, Or.inl ⟨rfl, by simp [k_put, k_args, bI_0.mp h2]⟩, ⟨hz, fun q h1 _ => hk q h1⟩⟩) (fun z h => by cases h) (Nat.le_of_ble_eq_true rfl) (Nat.le_of_ble_eq_true rfl)
set_option maxHeartbeats 4000000 in
set_option maxRecDepth 100000 in
theorem cx0_get (l : Launch) (hlt : l.stackTraces = false) (dC : Nat → ClassId) (dI : Nat → Nat → Nat) (A : Nat → Nat) (cI : ClassId) (σ : OS) (sz : Nat) (key : Int32) : vx_Met l yX0_get wsX0_get (rkx 7) (va_Pc [.ref (A 0), .int key] (oPreX (dC, dI) A cI σ sz)) (va_Qi (fun r u => k_get σ key = 0 ∧ r = r_get σ key ∧ u = σ) (oB (dC, dI) A cI (oX A cI σ sz)) (oX A cI σ sz)) (vx_X (fun _ : Unit => True) (fun E (_ : Unit) (_ : State) => (E = "java/lang/IllegalArgumentException" ∧ k_get σ key = 1) ∨ (E = "java/lang/IllegalStateException" ∧ k_get σ key = 2)) (fun q => sz ≤ q)) 1 6 (oX A cI σ sz) := by
  refine vx_ofW (cc := cX0_get) (maxL := 3) (ret := (some .int)) (by decide) rfl ?_
  intro p e s m args below meth c s₁ B hml ht hv
  obtain ⟨rfl, ⟨hsz, hP, hK, hD0⟩, hN, hZU, hZN⟩ := hv
  have hx := B.exec
  have hb := B.bytes
  have hr := B.returns
  have hB : ∀ w ∈ bX0, w.before _ s = true := fun w h => atoms_spec (ws := wsX0_get) B.pre w (List.mem_cons_of_mem _ h)
  have hown : s.vm.findClass RX0 = some m.cls := findClass_of_methodNamed B.named
  have hlocks := B.notSynchronized
  subst hsz
  have hD : va_D (oX A cI σ s.heap.size) (wO A cI σ) := hD0.self (sz := s.heap.size)
  have hA : ∀ q : Nat, s.heap.size ≤ q → oX A cI σ s.heap.size q := fun q h => Or.inr h
  generalize oX A cI σ s.heap.size = AA at hD hA hZU hZN ⊢
  have hS : va_S AA s.heap s.heap [] := va_S.rf
  have hl := lv_entry ([.ref (A 0), .int key]) (n := 3) (Nat.le_of_ble_eq_true rfl)
  rw [lg_entry_eq]
  generalize (lg_sl ([.ref (A 0), .int key]) ++ List.replicate (3 - (lg_sl ([.ref (A 0), .int key])).length) Slot.unset).toArray = ls at hl ⊢
  have hl : lv_has ls 3 [(0, .ref (A 0)), (1, .int key)] := hl
  refine lv_iload_n hx hb dX0_get_0 rfl (lv_at hl 1 rfl) ?_
  refine ck0_isKey hx hb hml hown hB hl.1  dX0_get_1 (Nat.le_of_ble_eq_true rfl) (Nat.le_of_ble_eq_true rfl) ⟨Nat.zero_le _, Nat.zero_le _⟩ (Nat.le_of_ble_eq_true rfl) ?_
  refine lv_if_ne (tgt := 15) hx hb dX0_get_4 rfl (fun h1 => ?_) (fun h1 => ?_)
  · skip
    refine lv_aload_n hx hb dX0_get_15 rfl (lv_at hl 0 rfl) ?_
    refine va_get (D := (dC, dI)) (ci := 0) (v := .int (oOn σ)) (C := RX0) (T := TX0) (N := 12) hx hb hB inX0 hown hK hP 0 rfl rfl 5 (by decide) (hB _ mX0_f_powered) (fun _ h9 => h9) rfl dX0_get_16 ?_
    refine lv_if_ne (tgt := 30) hx hb dX0_get_19 rfl (fun h2 => ?_) (fun h2 => ?_)
    · skip
      have hk0 : k_get σ key = 0 := by simp [k_get, bI_n0.mp h1, h2]
      refine lv_aload_n hx hb dX0_get_30 rfl (lv_at hl 0 rfl) ?_
      refine lv_iload_n hx hb dX0_get_31 rfl (lv_at hl 1 rfl) ?_
      refine ck0_presentWord hx hb hml hown hB hl.1 hP hK dX0_get_32 (Nat.le_of_ble_eq_true rfl) (Nat.le_of_ble_eq_true rfl) ⟨Nat.zero_le _, Nat.zero_le _⟩ (Nat.le_of_ble_eq_true rfl) ?_
      refine lv_istore_n hx hb dX0_get_35 rfl hl (by decide) rfl (fun ls hl => ?_)
      have hl : lv_has ls 3 [(2, .int (f_pres (oT σ) key 160)), (0, .ref (A 0)), (1, .int key)] := hl
      refine lv_iload_n hx hb dX0_get_36 rfl (lv_at hl 0 rfl) ?_
      refine lv_iconst (v := (-1)) hx hb dX0_get_37 (by decide) ?_
      refine lv_icmp_ne (tgt := 45) hx hb dX0_get_38 rfl (fun h3 => ?_) (fun h3 => ?_)
      · skip
        refine lv_aload_n hx hb dX0_get_45 rfl (lv_at hl 1 rfl) ?_
        refine va_get (D := (dC, dI)) (ci := 0) (v := .ref (A 1)) (C := RX0) (T := TX0) (N := 12) hx hb hB inX0 hown hK hP 0 rfl rfl 0 (by decide) (hB _ mX0_f_wordRow) (fun _ h9 => h9) rfl dX0_get_46 ?_
        refine lv_iload_n hx hb dX0_get_49 rfl (lv_at hl 0 rfl) ?_
        refine va_iald (D := (dC, dI)) (i := (f_pres (oT σ) key 160)) hx hb hK hP 1 0 rfl rfl ((f_pres_vp (oT σ) key).resolve_left h3) dX0_get_50 ?_
        refine ck0_meaningOfWord hx hb hml hown hB hl.1  dX0_get_51 (Nat.le_of_ble_eq_true rfl) (Nat.le_of_ble_eq_true rfl) ⟨Nat.zero_le _, Nat.zero_le _⟩ (Nat.le_of_ble_eq_true rfl) ?_
        refine W.widen (k := 1) (n := 6) (Nat.zero_le _) (Nat.zero_le _) ?_
        exact vx_ret (W.iret (v := (f_mw (oW σ (f_pres (oT σ) key 160).toNatClampNeg))) hx hb hr (fun t ht hW => ⟨⟨(f_mw (oW σ (f_pres (oT σ) key 160).toNatClampNeg)), σ, rfl, ⟨hk0, by rw [r_get, if_neg h3], rfl⟩, by rw [ht]; exact hP, va_K.moved hW.alike hK, hD⟩, hS.F ht⟩) hS.2.2 dX0_get_54)
      · skip
        refine lv_iconst (v := (-1)) hx hb dX0_get_41 (by decide) ?_
        refine lv_goto (tgt := 54) hx hb dX0_get_42 rfl ?_
        refine W.widen (k := 1) (n := 6) (Nat.zero_le _) (Nat.zero_le _) ?_
        exact vx_ret (W.iret (v := (-1)) hx hb hr (fun t ht hW => ⟨⟨(-1), σ, rfl, ⟨hk0, by rw [r_get, if_pos h3], rfl⟩, by rw [ht]; exact hP, va_K.moved hW.alike hK, hD⟩, hS.F ht⟩) hS.2.2 dX0_get_54)
    · skip
      exact vx_throw0 (mc := 1) (ms := 6) (A := AA) (names := ["java/lang/RuntimeException", "java/lang/Exception"]) hx hb hlt hown (by decide) (by decide) (hB _ mX0_cl_ISE) (hB _ mX0_i_ISE) (xh_ISE (fun w h => hB w (inxX0_ISE w h)) hN) ot_ISE hZU hZN hS (hl.1.trans hml.symm) dX0_get_22 dX0_get_25 dX0_get_26 dX0_get_29 (fun x h => (ht x h).elim) (Nat.le_of_ble_eq_true rfl) (Nat.le_of_ble_eq_true rfl) (Nat.le_of_ble_eq_true rfl) (Nat.le_of_ble_eq_true rfl) hlocks (fun t _ hz hk => ⟨(), trivial, Or.inr ⟨rfl, by simp [k_get, bI_n0.mp h1, h2]⟩, ⟨hz, fun q h1 _ => hk q h1⟩⟩) (fun z h => by cases h) (Nat.le_of_ble_eq_true rfl) (Nat.le_of_ble_eq_true rfl)
  · skip
    exact vx_throw0 (mc := 1) (ms := 6) (A := AA) (names := ["java/lang/RuntimeException", "java/lang/Exception"]) hx hb hlt hown (by decide) (by decide) (hB _ mX0_cl_IAE) (hB _ mX0_i_IAE) (xh_IAE (fun w h => hB w (inxX0_IAE w h)) hN) ot_IAE hZU hZN hS (hl.1.trans hml.symm) dX0_get_7 dX0_get_10 dX0_get_11 dX0_get_14 (fun x h => (ht x h).elim) (Nat.le_of_ble_eq_true rfl) (Nat.le_of_ble_eq_true rfl) (Nat.le_of_ble_eq_true rfl) (Nat.le_of_ble_eq_true rfl) hlocks (fun t _ hz hk => ⟨(), trivial, Or.inl ⟨rfl, by simp [k_get, bI_0.mp h1]⟩, ⟨hz, fun q h1 _ => hk q h1⟩⟩) (fun z h => by cases h) (Nat.le_of_ble_eq_true rfl) (Nat.le_of_ble_eq_true rfl)
set_option maxHeartbeats 4000000 in
set_option maxRecDepth 100000 in
theorem cx0_wouldMove (l : Launch) (hlt : l.stackTraces = false) (dC : Nat → ClassId) (dI : Nat → Nat → Nat) (A : Nat → Nat) (cI : ClassId) (σ : OS) (sz : Nat) (key : Int32) (v : Int32) : vx_Met l yX0_wouldMove wsX0_wouldMove (rkx 7) (va_Pc [.ref (A 0), .int key, .int v] (oPreX (dC, dI) A cI σ sz)) (va_Qi (fun r u => k_wm σ key v = 0 ∧ r = bI (r_wm σ key v) ∧ u = σ) (oB (dC, dI) A cI (oX A cI σ sz)) (oX A cI σ sz)) (vx_X (fun _ : Unit => True) (fun E (_ : Unit) (_ : State) => (E = "java/lang/IllegalArgumentException" ∧ k_wm σ key v = 1) ∨ (E = "java/lang/IllegalStateException" ∧ k_wm σ key v = 2)) (fun q => sz ≤ q)) 1 6 (oX A cI σ sz) := by
  refine vx_ofW (cc := cX0_wouldMove) (maxL := 3) (ret := (some .boolean)) (by decide) rfl ?_
  intro p e s m args below meth c s₁ B hml ht hv
  obtain ⟨rfl, ⟨hsz, hP, hK, hD0⟩, hN, hZU, hZN⟩ := hv
  have hx := B.exec
  have hb := B.bytes
  have hr := B.returns
  have hB : ∀ w ∈ bX0, w.before _ s = true := fun w h => atoms_spec (ws := wsX0_wouldMove) B.pre w (List.mem_cons_of_mem _ h)
  have hown : s.vm.findClass RX0 = some m.cls := findClass_of_methodNamed B.named
  have hlocks := B.notSynchronized
  subst hsz
  have hD : va_D (oX A cI σ s.heap.size) (wO A cI σ) := hD0.self (sz := s.heap.size)
  have hA : ∀ q : Nat, s.heap.size ≤ q → oX A cI σ s.heap.size q := fun q h => Or.inr h
  generalize oX A cI σ s.heap.size = AA at hD hA hZU hZN ⊢
  have hS : va_S AA s.heap s.heap [] := va_S.rf
  have hl := lv_entry ([.ref (A 0), .int key, .int v]) (n := 3) (Nat.le_of_ble_eq_true rfl)
  rw [lg_entry_eq]
  generalize (lg_sl ([.ref (A 0), .int key, .int v]) ++ List.replicate (3 - (lg_sl ([.ref (A 0), .int key, .int v])).length) Slot.unset).toArray = ls at hl ⊢
  have hl : lv_has ls 3 [(0, .ref (A 0)), (1, .int key), (2, .int v)] := hl
  refine lv_iload_n hx hb dX0_wouldMove_0 rfl (lv_at hl 1 rfl) ?_
  refine ck0_isKey hx hb hml hown hB hl.1  dX0_wouldMove_1 (Nat.le_of_ble_eq_true rfl) (Nat.le_of_ble_eq_true rfl) ⟨Nat.zero_le _, Nat.zero_le _⟩ (Nat.le_of_ble_eq_true rfl) ?_
  refine lv_if_eq (tgt := 14) hx hb dX0_wouldMove_4 rfl (fun h1 => ?_) (fun h1 => ?_)
  · skip
    exact vx_throw0 (mc := 1) (ms := 6) (A := AA) (names := ["java/lang/RuntimeException", "java/lang/Exception"]) hx hb hlt hown (by decide) (by decide) (hB _ mX0_cl_IAE) (hB _ mX0_i_IAE) (xh_IAE (fun w h => hB w (inxX0_IAE w h)) hN) ot_IAE hZU hZN hS (hl.1.trans hml.symm) dX0_wouldMove_14 dX0_wouldMove_17 dX0_wouldMove_18 dX0_wouldMove_21 (fun x h => (ht x h).elim) (Nat.le_of_ble_eq_true rfl) (Nat.le_of_ble_eq_true rfl) (Nat.le_of_ble_eq_true rfl) (Nat.le_of_ble_eq_true rfl) hlocks (fun t _ hz hk => ⟨(), trivial, Or.inl ⟨rfl, by simp [k_wm, k_args, bI_0.mp h1]⟩, ⟨hz, fun q h1 _ => hk q h1⟩⟩) (fun z h => by cases h) (Nat.le_of_ble_eq_true rfl) (Nat.le_of_ble_eq_true rfl)
  · skip
    refine lv_iload_n hx hb dX0_wouldMove_7 rfl (lv_at hl 2 rfl) ?_
    refine ck0_isValue hx hb hml hown hB hl.1  dX0_wouldMove_8 (Nat.le_of_ble_eq_true rfl) (Nat.le_of_ble_eq_true rfl) ⟨Nat.zero_le _, Nat.zero_le _⟩ (Nat.le_of_ble_eq_true rfl) ?_
    refine lv_if_ne (tgt := 22) hx hb dX0_wouldMove_11 rfl (fun h2 => ?_) (fun h2 => ?_)
    · skip
      have hka : k_args key v = true := by simp [k_args, bI_n0.mp h1, bI_n0.mp h2]
      refine lv_aload_n hx hb dX0_wouldMove_22 rfl (lv_at hl 0 rfl) ?_
      refine va_get (D := (dC, dI)) (ci := 0) (v := .int (oOn σ)) (C := RX0) (T := TX0) (N := 12) hx hb hB inX0 hown hK hP 0 rfl rfl 5 (by decide) (hB _ mX0_f_powered) (fun _ h9 => h9) rfl dX0_wouldMove_23 ?_
      refine lv_if_ne (tgt := 37) hx hb dX0_wouldMove_26 rfl (fun h3 => ?_) (fun h3 => ?_)
      · skip
        have hk0 : k_wm σ key v = 0 := by simp [k_wm, hka, h3]
        refine lv_aload_n hx hb dX0_wouldMove_37 rfl (lv_at hl 0 rfl) ?_
        refine lv_aload_n hx hb dX0_wouldMove_38 rfl (lv_at hl 0 rfl) ?_
        refine lv_iload_n hx hb dX0_wouldMove_39 rfl (lv_at hl 1 rfl) ?_
        refine ck0_presentWord hx hb hml hown hB hl.1 hP hK dX0_wouldMove_40 (Nat.le_of_ble_eq_true rfl) (Nat.le_of_ble_eq_true rfl) ⟨Nat.zero_le _, Nat.zero_le _⟩ (Nat.le_of_ble_eq_true rfl) ?_
        refine lv_iload_n hx hb dX0_wouldMove_43 rfl (lv_at hl 2 rfl) ?_
        refine ck0_staysInPlace hx hb hml hown hB hl.1 hP hK (f_pres_vp _ _) dX0_wouldMove_44 (Nat.le_of_ble_eq_true rfl) (Nat.le_of_ble_eq_true rfl) ⟨Nat.zero_le _, Nat.zero_le _⟩ (Nat.le_of_ble_eq_true rfl) ?_
        refine lv_if_ne (tgt := 54) hx hb dX0_wouldMove_47 rfl (fun h4 => ?_) (fun h4 => ?_)
        · skip
          refine lv_iconst (v := 0) hx hb dX0_wouldMove_54 (by decide) ?_
          refine W.widen (k := 1) (n := 6) (Nat.zero_le _) (Nat.zero_le _) ?_
          exact vx_ret (W.zret (v := 0) hx hb hr (rfl) (fun t ht hW => ⟨⟨0, σ, rfl, ⟨hk0, by simp [r_wm, bI, bI_n0.mp h4], rfl⟩, by rw [ht]; exact hP, va_K.moved hW.alike hK, hD⟩, hS.F ht⟩) hS.2.2 dX0_wouldMove_55)
        · skip
          refine lv_iconst (v := 1) hx hb dX0_wouldMove_50 (by decide) ?_
          refine lv_goto (tgt := 55) hx hb dX0_wouldMove_51 rfl ?_
          refine W.widen (k := 1) (n := 6) (Nat.zero_le _) (Nat.zero_le _) ?_
          exact vx_ret (W.zret (v := 1) hx hb hr (rfl) (fun t ht hW => ⟨⟨1, σ, rfl, ⟨hk0, by simp [r_wm, bI, bI_0.mp h4], rfl⟩, by rw [ht]; exact hP, va_K.moved hW.alike hK, hD⟩, hS.F ht⟩) hS.2.2 dX0_wouldMove_55)
      · skip
        exact vx_throw0 (mc := 1) (ms := 6) (A := AA) (names := ["java/lang/RuntimeException", "java/lang/Exception"]) hx hb hlt hown (by decide) (by decide) (hB _ mX0_cl_ISE) (hB _ mX0_i_ISE) (xh_ISE (fun w h => hB w (inxX0_ISE w h)) hN) ot_ISE hZU hZN hS (hl.1.trans hml.symm) dX0_wouldMove_29 dX0_wouldMove_32 dX0_wouldMove_33 dX0_wouldMove_36 (fun x h => (ht x h).elim) (Nat.le_of_ble_eq_true rfl) (Nat.le_of_ble_eq_true rfl) (Nat.le_of_ble_eq_true rfl) (Nat.le_of_ble_eq_true rfl) hlocks (fun t _ hz hk => ⟨(), trivial, Or.inr ⟨rfl, by simp [k_wm, hka, h3]⟩, ⟨hz, fun q h1 _ => hk q h1⟩⟩) (fun z h => by cases h) (Nat.le_of_ble_eq_true rfl) (Nat.le_of_ble_eq_true rfl)
    · skip
      exact vx_throw0 (mc := 1) (ms := 6) (A := AA) (names := ["java/lang/RuntimeException", "java/lang/Exception"]) hx hb hlt hown (by decide) (by decide) (hB _ mX0_cl_IAE) (hB _ mX0_i_IAE) (xh_IAE (fun w h => hB w (inxX0_IAE w h)) hN) ot_IAE hZU hZN hS (hl.1.trans hml.symm) dX0_wouldMove_14 dX0_wouldMove_17 dX0_wouldMove_18 dX0_wouldMove_21 (fun x h => (ht x h).elim) (Nat.le_of_ble_eq_true rfl) (Nat.le_of_ble_eq_true rfl) (Nat.le_of_ble_eq_true rfl) (Nat.le_of_ble_eq_true rfl) hlocks (fun t _ hz hk => ⟨(), trivial, Or.inl ⟨rfl, by simp [k_wm, k_args, bI_0.mp h2]⟩, ⟨hz, fun q h1 _ => hk q h1⟩⟩) (fun z h => by cases h) (Nat.le_of_ble_eq_true rfl) (Nat.le_of_ble_eq_true rfl)
set_option maxHeartbeats 4000000 in
set_option maxRecDepth 100000 in
theorem cx0_begin (l : Launch) (hlt : l.stackTraces = false) (dC : Nat → ClassId) (dI : Nat → Nat → Nat) (A : Nat → Nat) (cI : ClassId) (σ : OS) (sz : Nat) : vx_Met l yX0_begin wsX0_begin (rkx 7) (va_Pc [.ref (A 0)] (oPreX (dC, dI) A cI σ sz)) (va_Qv (fun u => k_begin σ = 0 ∧ u = s_begin σ) (oB (dC, dI) A cI (oX A cI σ sz)) (oX A cI σ sz)) (vx_X (fun _ : Unit => True) (fun E (_ : Unit) (_ : State) => (E = "java/lang/IllegalStateException" ∧ k_begin σ = 1)) (fun q => sz ≤ q)) 1 6 (oX A cI σ sz) := by
  refine vx_ofW (cc := cX0_begin) (maxL := 1) (ret := none) (by decide) rfl ?_
  intro p e s m args below meth c s₁ B hml ht hv
  obtain ⟨rfl, ⟨hsz, hP, hK, hD0⟩, hN, hZU, hZN⟩ := hv
  have hx := B.exec
  have hb := B.bytes
  have hr := B.returns
  have hB : ∀ w ∈ bX0, w.before _ s = true := fun w h => atoms_spec (ws := wsX0_begin) B.pre w (List.mem_cons_of_mem _ h)
  have hown : s.vm.findClass RX0 = some m.cls := findClass_of_methodNamed B.named
  have hlocks := B.notSynchronized
  subst hsz
  have hD : va_D (oX A cI σ s.heap.size) (wO A cI σ) := hD0.self (sz := s.heap.size)
  have hA : ∀ q : Nat, s.heap.size ≤ q → oX A cI σ s.heap.size q := fun q h => Or.inr h
  generalize oX A cI σ s.heap.size = AA at hD hA hZU hZN ⊢
  have hS : va_S AA s.heap s.heap [] := va_S.rf
  have hl := lv_entry ([.ref (A 0)]) (n := 1) (Nat.le_of_ble_eq_true rfl)
  rw [lg_entry_eq]
  generalize (lg_sl ([.ref (A 0)]) ++ List.replicate (1 - (lg_sl ([.ref (A 0)])).length) Slot.unset).toArray = ls at hl ⊢
  have hl : lv_has ls 1 [(0, .ref (A 0))] := hl
  refine lv_aload_n hx hb dX0_begin_0 rfl (lv_at hl 0 rfl) ?_
  refine va_get (D := (dC, dI)) (ci := 0) (v := .int (oOn σ)) (C := RX0) (T := TX0) (N := 12) hx hb hB inX0 hown hK hP 0 rfl rfl 5 (by decide) (hB _ mX0_f_powered) (fun _ h9 => h9) rfl dX0_begin_1 ?_
  refine lv_if_eq (tgt := 14) hx hb dX0_begin_4 rfl (fun h1 => ?_) (fun h1 => ?_)
  · skip
    exact vx_throw0 (mc := 1) (ms := 6) (A := AA) (names := ["java/lang/RuntimeException", "java/lang/Exception"]) hx hb hlt hown (by decide) (by decide) (hB _ mX0_cl_ISE) (hB _ mX0_i_ISE) (xh_ISE (fun w h => hB w (inxX0_ISE w h)) hN) ot_ISE hZU hZN hS (hl.1.trans hml.symm) dX0_begin_14 dX0_begin_17 dX0_begin_18 dX0_begin_21 (fun x h => (ht x h).elim) (Nat.le_of_ble_eq_true rfl) (Nat.le_of_ble_eq_true rfl) (Nat.le_of_ble_eq_true rfl) (Nat.le_of_ble_eq_true rfl) hlocks (fun t _ hz hk => ⟨(), trivial, ⟨rfl, by simp [k_begin, h1]⟩, ⟨hz, fun q h1 _ => hk q h1⟩⟩) (fun z h => by cases h) (Nat.le_of_ble_eq_true rfl) (Nat.le_of_ble_eq_true rfl)
  · skip
    refine lv_aload_n hx hb dX0_begin_7 rfl (lv_at hl 0 rfl) ?_
    refine va_get (D := (dC, dI)) (ci := 0) (v := .int (oBo σ)) (C := RX0) (T := TX0) (N := 12) hx hb hB inX0 hown hK hP 0 rfl rfl 10 (by decide) (hB _ mX0_f_batchOpen) (fun _ h9 => h9) rfl dX0_begin_8 ?_
    refine lv_if_eq (tgt := 22) hx hb dX0_begin_11 rfl (fun h2 => ?_) (fun h2 => ?_)
    · skip
      refine lv_aload_n hx hb dX0_begin_22 rfl (lv_at hl 0 rfl) ?_
      refine lv_iconst (v := 1) hx hb dX0_begin_23 (by decide) ?_
      refine va_put (D := (dC, dI)) (ci := 0) (v := .int 1) (ty := .boolean) (C := RX0) (T := TX0) (N := 12) hx hb hB inX0 tyX0 tyX0_ok nmX0 hown hK hP hD hS 0 rfl rfl 10 (by decide) (hB _ mX0_f_batchOpen) (fun _ h9 => h9) rfl (by decide +kernel) rfl rfl (Nat.le_of_ble_eq_true rfl) dX0_begin_24 (fun H locs hP hD hS => ?_)
      have hP : va_P (dC, dI) vwCl (wO A cI (mkO (oW σ) (oT σ) (oL σ) (oSet σ) (oWr σ) (oOn σ) (oUn σ) (oK σ) (oV σ) (oP σ) (1) (oBs σ))) H := hP
      have hD : va_D AA (wO A cI (mkO (oW σ) (oT σ) (oL σ) (oSet σ) (oWr σ) (oOn σ) (oUn σ) (oK σ) (oV σ) (oP σ) (1) (oBs σ))) := hD
      refine W.widen (k := 1) (n := 6) (Nat.zero_le _) (Nat.zero_le _) ?_
      exact vx_ret (W.vret hx hb hr (fun t ht hW => ⟨⟨mkO (oW σ) (oT σ) (oL σ) (oSet σ) (oWr σ) (oOn σ) (oUn σ) (oK σ) (oV σ) (oP σ) (1) (oBs σ), rfl, ⟨by simp [k_begin, h1, h2], rfl⟩, by rw [ht]; exact hP, va_K.moved hW.alike hK, hD⟩, hS.F ht⟩) hS.2.2 dX0_begin_27)
    · skip
      exact vx_throw0 (mc := 1) (ms := 6) (A := AA) (names := ["java/lang/RuntimeException", "java/lang/Exception"]) hx hb hlt hown (by decide) (by decide) (hB _ mX0_cl_ISE) (hB _ mX0_i_ISE) (xh_ISE (fun w h => hB w (inxX0_ISE w h)) hN) ot_ISE hZU hZN hS (hl.1.trans hml.symm) dX0_begin_14 dX0_begin_17 dX0_begin_18 dX0_begin_21 (fun x h => (ht x h).elim) (Nat.le_of_ble_eq_true rfl) (Nat.le_of_ble_eq_true rfl) (Nat.le_of_ble_eq_true rfl) (Nat.le_of_ble_eq_true rfl) hlocks (fun t _ hz hk => ⟨(), trivial, ⟨rfl, by simp [k_begin, h2]⟩, ⟨hz, fun q h1 _ => hk q h1⟩⟩) (fun z h => by cases h) (Nat.le_of_ble_eq_true rfl) (Nat.le_of_ble_eq_true rfl)
set_option maxHeartbeats 4000000 in
set_option maxRecDepth 100000 in
theorem cx0_stage (l : Launch) (hlt : l.stackTraces = false) (dC : Nat → ClassId) (dI : Nat → Nat → Nat) (A : Nat → Nat) (cI : ClassId) (σ : OS) (sz : Nat) (key : Int32) (v : Int32) (nb : Nat) (hnb : oBs σ = nI nb) (hnb8 : nb ≤ 8) : vx_Met l yX0_stage wsX0_stage (rkx 7) (va_Pc [.ref (A 0), .int key, .int v] (oPreX (dC, dI) A cI σ sz)) (va_Qi (fun r u => k_stage σ nb key v = 0 ∧ r = nI (nb + 1) ∧ u = s_stage σ nb key v) (oB (dC, dI) A cI (oX A cI σ sz)) (oX A cI σ sz)) (vx_X (fun _ : Unit => True) (fun E (_ : Unit) (_ : State) => (E = "java/lang/IllegalArgumentException" ∧ k_stage σ nb key v = 1) ∨ (E = "java/lang/IllegalStateException" ∧ k_stage σ nb key v = 2)) (fun q => sz ≤ q)) 1 6 (oX A cI σ sz) := by
  refine vx_ofW (cc := cX0_stage) (maxL := 3) (ret := (some .int)) (by decide) rfl ?_
  intro p e s m args below meth c s₁ B hml ht hv
  obtain ⟨rfl, ⟨hsz, hP, hK, hD0⟩, hN, hZU, hZN⟩ := hv
  have hx := B.exec
  have hb := B.bytes
  have hr := B.returns
  have hB : ∀ w ∈ bX0, w.before _ s = true := fun w h => atoms_spec (ws := wsX0_stage) B.pre w (List.mem_cons_of_mem _ h)
  have hown : s.vm.findClass RX0 = some m.cls := findClass_of_methodNamed B.named
  have hlocks := B.notSynchronized
  subst hsz
  have hD : va_D (oX A cI σ s.heap.size) (wO A cI σ) := hD0.self (sz := s.heap.size)
  have hA : ∀ q : Nat, s.heap.size ≤ q → oX A cI σ s.heap.size q := fun q h => Or.inr h
  generalize oX A cI σ s.heap.size = AA at hD hA hZU hZN ⊢
  have hS : va_S AA s.heap s.heap [] := va_S.rf
  have hl := lv_entry ([.ref (A 0), .int key, .int v]) (n := 3) (Nat.le_of_ble_eq_true rfl)
  rw [lg_entry_eq]
  generalize (lg_sl ([.ref (A 0), .int key, .int v]) ++ List.replicate (3 - (lg_sl ([.ref (A 0), .int key, .int v])).length) Slot.unset).toArray = ls at hl ⊢
  have hl : lv_has ls 3 [(0, .ref (A 0)), (1, .int key), (2, .int v)] := hl
  refine lv_iload_n hx hb dX0_stage_0 rfl (lv_at hl 1 rfl) ?_
  refine ck0_isKey hx hb hml hown hB hl.1  dX0_stage_1 (Nat.le_of_ble_eq_true rfl) (Nat.le_of_ble_eq_true rfl) ⟨Nat.zero_le _, Nat.zero_le _⟩ (Nat.le_of_ble_eq_true rfl) ?_
  refine lv_if_eq (tgt := 22) hx hb dX0_stage_4 rfl (fun h1 => ?_) (fun h1 => ?_)
  · skip
    exact vx_throw0 (mc := 1) (ms := 6) (A := AA) (names := ["java/lang/RuntimeException", "java/lang/Exception"]) hx hb hlt hown (by decide) (by decide) (hB _ mX0_cl_IAE) (hB _ mX0_i_IAE) (xh_IAE (fun w h => hB w (inxX0_IAE w h)) hN) ot_IAE hZU hZN hS (hl.1.trans hml.symm) dX0_stage_22 dX0_stage_25 dX0_stage_26 dX0_stage_29 (fun x h => (ht x h).elim) (Nat.le_of_ble_eq_true rfl) (Nat.le_of_ble_eq_true rfl) (Nat.le_of_ble_eq_true rfl) (Nat.le_of_ble_eq_true rfl) hlocks (fun t _ hz hk => ⟨(), trivial, Or.inl ⟨rfl, by simp [k_stage, k_args, bI_0.mp h1]⟩, ⟨hz, fun q h1 _ => hk q h1⟩⟩) (fun z h => by cases h) (Nat.le_of_ble_eq_true rfl) (Nat.le_of_ble_eq_true rfl)
  · skip
    refine lv_iload_n hx hb dX0_stage_7 rfl (lv_at hl 2 rfl) ?_
    refine ck0_isValue hx hb hml hown hB hl.1  dX0_stage_8 (Nat.le_of_ble_eq_true rfl) (Nat.le_of_ble_eq_true rfl) ⟨Nat.zero_le _, Nat.zero_le _⟩ (Nat.le_of_ble_eq_true rfl) ?_
    refine lv_if_eq (tgt := 22) hx hb dX0_stage_11 rfl (fun h2 => ?_) (fun h2 => ?_)
    · skip
      exact vx_throw0 (mc := 1) (ms := 6) (A := AA) (names := ["java/lang/RuntimeException", "java/lang/Exception"]) hx hb hlt hown (by decide) (by decide) (hB _ mX0_cl_IAE) (hB _ mX0_i_IAE) (xh_IAE (fun w h => hB w (inxX0_IAE w h)) hN) ot_IAE hZU hZN hS (hl.1.trans hml.symm) dX0_stage_22 dX0_stage_25 dX0_stage_26 dX0_stage_29 (fun x h => (ht x h).elim) (Nat.le_of_ble_eq_true rfl) (Nat.le_of_ble_eq_true rfl) (Nat.le_of_ble_eq_true rfl) (Nat.le_of_ble_eq_true rfl) hlocks (fun t _ hz hk => ⟨(), trivial, Or.inl ⟨rfl, by simp [k_stage, k_args, bI_0.mp h2]⟩, ⟨hz, fun q h1 _ => hk q h1⟩⟩) (fun z h => by cases h) (Nat.le_of_ble_eq_true rfl) (Nat.le_of_ble_eq_true rfl)
    · skip
      have hka : k_args key v = true := by simp [k_args, bI_n0.mp h1, bI_n0.mp h2]
      refine lv_aload_n hx hb dX0_stage_14 rfl (lv_at hl 0 rfl) ?_
      refine lv_iload_n hx hb dX0_stage_15 rfl (lv_at hl 1 rfl) ?_
      refine ck0_isStaged hx hb hml hown hB hl.1 hP hK hnb hnb8 dX0_stage_16 (Nat.le_of_ble_eq_true rfl) (Nat.le_of_ble_eq_true rfl) ⟨Nat.zero_le _, Nat.zero_le _⟩ (Nat.le_of_ble_eq_true rfl) ?_
      refine lv_if_eq (tgt := 30) hx hb dX0_stage_19 rfl (fun h3 => ?_) (fun h3 => ?_)
      · skip
        have hst : f_isSt (oK σ) key nb 0 = false := bI_0.mp h3
        refine lv_aload_n hx hb dX0_stage_30 rfl (lv_at hl 0 rfl) ?_
        refine va_get (D := (dC, dI)) (ci := 0) (v := .int (oOn σ)) (C := RX0) (T := TX0) (N := 12) hx hb hB inX0 hown hK hP 0 rfl rfl 5 (by decide) (hB _ mX0_f_powered) (fun _ h9 => h9) rfl dX0_stage_31 ?_
        refine lv_if_eq (tgt := 53) hx hb dX0_stage_34 rfl (fun h4 => ?_) (fun h4 => ?_)
        · skip
          exact vx_throw0 (mc := 1) (ms := 6) (A := AA) (names := ["java/lang/RuntimeException", "java/lang/Exception"]) hx hb hlt hown (by decide) (by decide) (hB _ mX0_cl_ISE) (hB _ mX0_i_ISE) (xh_ISE (fun w h => hB w (inxX0_ISE w h)) hN) ot_ISE hZU hZN hS (hl.1.trans hml.symm) dX0_stage_53 dX0_stage_56 dX0_stage_57 dX0_stage_60 (fun x h => (ht x h).elim) (Nat.le_of_ble_eq_true rfl) (Nat.le_of_ble_eq_true rfl) (Nat.le_of_ble_eq_true rfl) (Nat.le_of_ble_eq_true rfl) hlocks (fun t _ hz hk => ⟨(), trivial, Or.inr ⟨rfl, by simp [k_stage, hka, hst, h4]⟩, ⟨hz, fun q h1 _ => hk q h1⟩⟩) (fun z h => by cases h) (Nat.le_of_ble_eq_true rfl) (Nat.le_of_ble_eq_true rfl)
        · skip
          refine lv_aload_n hx hb dX0_stage_37 rfl (lv_at hl 0 rfl) ?_
          refine va_get (D := (dC, dI)) (ci := 0) (v := .int (oBo σ)) (C := RX0) (T := TX0) (N := 12) hx hb hB inX0 hown hK hP 0 rfl rfl 10 (by decide) (hB _ mX0_f_batchOpen) (fun _ h9 => h9) rfl dX0_stage_38 ?_
          refine lv_if_eq (tgt := 53) hx hb dX0_stage_41 rfl (fun h5 => ?_) (fun h5 => ?_)
          · skip
            exact vx_throw0 (mc := 1) (ms := 6) (A := AA) (names := ["java/lang/RuntimeException", "java/lang/Exception"]) hx hb hlt hown (by decide) (by decide) (hB _ mX0_cl_ISE) (hB _ mX0_i_ISE) (xh_ISE (fun w h => hB w (inxX0_ISE w h)) hN) ot_ISE hZU hZN hS (hl.1.trans hml.symm) dX0_stage_53 dX0_stage_56 dX0_stage_57 dX0_stage_60 (fun x h => (ht x h).elim) (Nat.le_of_ble_eq_true rfl) (Nat.le_of_ble_eq_true rfl) (Nat.le_of_ble_eq_true rfl) (Nat.le_of_ble_eq_true rfl) hlocks (fun t _ hz hk => ⟨(), trivial, Or.inr ⟨rfl, by simp [k_stage, hka, hst, h5]⟩, ⟨hz, fun q h1 _ => hk q h1⟩⟩) (fun z h => by cases h) (Nat.le_of_ble_eq_true rfl) (Nat.le_of_ble_eq_true rfl)
          · skip
            refine lv_aload_n hx hb dX0_stage_44 rfl (lv_at hl 0 rfl) ?_
            refine va_get (D := (dC, dI)) (ci := 0) (v := .int (oBs σ)) (C := RX0) (T := TX0) (N := 12) hx hb hB inX0 hown hK hP 0 rfl rfl 11 (by decide) (hB _ mX0_f_batchSize) (fun _ h9 => h9) rfl dX0_stage_45 ?_
            refine lv_bipush (v := 8) hx hb dX0_stage_48 (by decide) ?_
            rw [hnb]
            refine lv_icmp_lt (tgt := 61) hx hb dX0_stage_50 rfl (fun h6 => ?_) (fun h6 => ?_)
            · skip
              have hlt8 : nb < 8 := (nI_ltI (by omega) (by decide)).mp h6
              refine lv_aload_n hx hb dX0_stage_61 rfl (lv_at hl 0 rfl) ?_
              refine va_get (D := (dC, dI)) (ci := 0) (v := .ref (A 4)) (C := RX0) (T := TX0) (N := 12) hx hb hB inX0 hown hK hP 0 rfl rfl 7 (by decide) (hB _ mX0_f_stagedKeys) (fun _ h9 => h9) rfl dX0_stage_62 ?_
              refine lv_aload_n hx hb dX0_stage_65 rfl (lv_at hl 0 rfl) ?_
              refine va_get (D := (dC, dI)) (ci := 0) (v := .int (oBs σ)) (C := RX0) (T := TX0) (N := 12) hx hb hB inX0 hown hK hP 0 rfl rfl 11 (by decide) (hB _ mX0_f_batchSize) (fun _ h9 => h9) rfl dX0_stage_66 ?_
              refine lv_iload_n hx hb dX0_stage_69 rfl (lv_at hl 1 rfl) ?_
              refine va_iast (D := (dC, dI)) (i := (oBs σ)) (x := key) hx hb hK hP hD hS 4 0 rfl rfl (by rw [hnb]; exact vp_in_nI hlt8 (by decide)) dX0_stage_70 (fun H locs hP hD hS => ?_)
              rw [show ((oBs σ)).toNatClampNeg = nb from by rw [hnb]; exact nI_clamp (by omega)] at hP hD
              have hP : va_P (dC, dI) vwCl (wO A cI (mkO (oW σ) (oT σ) (oL σ) (oSet σ) (oWr σ) (oOn σ) (oUn σ) (upd (oK σ) (nb) (key)) (oV σ) (oP σ) (oBo σ) (oBs σ))) H := hP
              have hD : va_D AA (wO A cI (mkO (oW σ) (oT σ) (oL σ) (oSet σ) (oWr σ) (oOn σ) (oUn σ) (upd (oK σ) (nb) (key)) (oV σ) (oP σ) (oBo σ) (oBs σ))) := hD
              refine lv_aload_n hx hb dX0_stage_71 rfl (lv_at hl 0 rfl) ?_
              refine va_get (D := (dC, dI)) (ci := 0) (v := .ref (A 5)) (C := RX0) (T := TX0) (N := 12) hx hb hB inX0 hown hK hP 0 rfl rfl 8 (by decide) (hB _ mX0_f_stagedValues) (fun _ h9 => h9) rfl dX0_stage_72 ?_
              refine lv_aload_n hx hb dX0_stage_75 rfl (lv_at hl 0 rfl) ?_
              refine va_get (D := (dC, dI)) (ci := 0) (v := .int (oBs σ)) (C := RX0) (T := TX0) (N := 12) hx hb hB inX0 hown hK hP 0 rfl rfl 11 (by decide) (hB _ mX0_f_batchSize) (fun _ h9 => h9) rfl dX0_stage_76 ?_
              refine lv_iload_n hx hb dX0_stage_79 rfl (lv_at hl 2 rfl) ?_
              refine va_iast (D := (dC, dI)) (i := (oBs σ)) (x := v) hx hb hK hP hD hS 5 0 rfl rfl (by rw [hnb]; exact vp_in_nI hlt8 (by decide)) dX0_stage_80 (fun H locs hP hD hS => ?_)
              rw [show ((oBs σ)).toNatClampNeg = nb from by rw [hnb]; exact nI_clamp (by omega)] at hP hD
              have hP : va_P (dC, dI) vwCl (wO A cI (mkO (oW σ) (oT σ) (oL σ) (oSet σ) (oWr σ) (oOn σ) (oUn σ) (upd (oK σ) (nb) (key)) (upd (oV σ) (nb) (v)) (oP σ) (oBo σ) (oBs σ))) H := hP
              have hD : va_D AA (wO A cI (mkO (oW σ) (oT σ) (oL σ) (oSet σ) (oWr σ) (oOn σ) (oUn σ) (upd (oK σ) (nb) (key)) (upd (oV σ) (nb) (v)) (oP σ) (oBo σ) (oBs σ))) := hD
              refine lv_aload_n hx hb dX0_stage_81 rfl (lv_at hl 0 rfl) ?_
              refine lv_dup hx hb dX0_stage_82 rfl ?_
              refine va_get (D := (dC, dI)) (ci := 0) (v := .int (oBs σ)) (C := RX0) (T := TX0) (N := 12) hx hb hB inX0 hown hK hP 0 rfl rfl 11 (by decide) (hB _ mX0_f_batchSize) (fun _ h9 => h9) rfl dX0_stage_83 ?_
              refine lv_iconst (v := 1) hx hb dX0_stage_86 (by decide) ?_
              refine lv_iadd hx hb dX0_stage_87 ?_
              rw [show oBs σ + 1 = nI (nb + 1) from by rw [hnb, nI_1]]
              refine va_put (D := (dC, dI)) (ci := 0) (v := .int (nI (nb + 1))) (ty := .int) (C := RX0) (T := TX0) (N := 12) hx hb hB inX0 tyX0 tyX0_ok nmX0 hown hK hP hD hS 0 rfl rfl 11 (by decide) (hB _ mX0_f_batchSize) (fun _ h9 => h9) rfl (by decide +kernel) rfl rfl (Nat.le_of_ble_eq_true rfl) dX0_stage_88 (fun H locs hP hD hS => ?_)
              have hP : va_P (dC, dI) vwCl (wO A cI (mkO (oW σ) (oT σ) (oL σ) (oSet σ) (oWr σ) (oOn σ) (oUn σ) (upd (oK σ) (nb) (key)) (upd (oV σ) (nb) (v)) (oP σ) (oBo σ) ((nI (nb + 1))))) H := hP
              have hD : va_D AA (wO A cI (mkO (oW σ) (oT σ) (oL σ) (oSet σ) (oWr σ) (oOn σ) (oUn σ) (upd (oK σ) (nb) (key)) (upd (oV σ) (nb) (v)) (oP σ) (oBo σ) ((nI (nb + 1))))) := hD
              refine lv_aload_n hx hb dX0_stage_91 rfl (lv_at hl 0 rfl) ?_
              refine va_get (D := (dC, dI)) (ci := 0) (v := .int ((nI (nb + 1)))) (C := RX0) (T := TX0) (N := 12) hx hb hB inX0 hown hK hP 0 rfl rfl 11 (by decide) (hB _ mX0_f_batchSize) (fun _ h9 => h9) rfl dX0_stage_92 ?_
              refine W.widen (k := 1) (n := 6) (Nat.zero_le _) (Nat.zero_le _) ?_
              exact vx_ret (W.iret (v := ((nI (nb + 1)))) hx hb hr (fun t ht hW => ⟨⟨((nI (nb + 1))), mkO (oW σ) (oT σ) (oL σ) (oSet σ) (oWr σ) (oOn σ) (oUn σ) (upd (oK σ) (nb) (key)) (upd (oV σ) (nb) (v)) (oP σ) (oBo σ) ((nI (nb + 1))), rfl, ⟨by simp [k_stage, hka, hst, h4, h5, hlt8], rfl, rfl⟩, by rw [ht]; exact hP, va_K.moved hW.alike hK, hD⟩, hS.F ht⟩) hS.2.2 dX0_stage_95)
            · skip
              have hge : ¬ nb < 8 := fun h => h6 ((nI_ltI (by omega) (by decide)).mpr h)
              exact vx_throw0 (mc := 1) (ms := 6) (A := AA) (names := ["java/lang/RuntimeException", "java/lang/Exception"]) hx hb hlt hown (by decide) (by decide) (hB _ mX0_cl_ISE) (hB _ mX0_i_ISE) (xh_ISE (fun w h => hB w (inxX0_ISE w h)) hN) ot_ISE hZU hZN hS (hl.1.trans hml.symm) dX0_stage_53 dX0_stage_56 dX0_stage_57 dX0_stage_60 (fun x h => (ht x h).elim) (Nat.le_of_ble_eq_true rfl) (Nat.le_of_ble_eq_true rfl) (Nat.le_of_ble_eq_true rfl) (Nat.le_of_ble_eq_true rfl) hlocks (fun t _ hz hk => ⟨(), trivial, Or.inr ⟨rfl, by simp [k_stage, hka, hst, hge]⟩, ⟨hz, fun q h1 _ => hk q h1⟩⟩) (fun z h => by cases h) (Nat.le_of_ble_eq_true rfl) (Nat.le_of_ble_eq_true rfl)
      · skip
        exact vx_throw0 (mc := 1) (ms := 6) (A := AA) (names := ["java/lang/RuntimeException", "java/lang/Exception"]) hx hb hlt hown (by decide) (by decide) (hB _ mX0_cl_IAE) (hB _ mX0_i_IAE) (xh_IAE (fun w h => hB w (inxX0_IAE w h)) hN) ot_IAE hZU hZN hS (hl.1.trans hml.symm) dX0_stage_22 dX0_stage_25 dX0_stage_26 dX0_stage_29 (fun x h => (ht x h).elim) (Nat.le_of_ble_eq_true rfl) (Nat.le_of_ble_eq_true rfl) (Nat.le_of_ble_eq_true rfl) (Nat.le_of_ble_eq_true rfl) hlocks (fun t _ hz hk => ⟨(), trivial, Or.inl ⟨rfl, by simp [k_stage, k_args, bI_n0.mp h3]⟩, ⟨hz, fun q h1 _ => hk q h1⟩⟩) (fun z h => by cases h) (Nat.le_of_ble_eq_true rfl) (Nat.le_of_ble_eq_true rfl)
set_option maxHeartbeats 4000000 in
set_option maxRecDepth 100000 in
theorem cx0_abandon (l : Launch) (hlt : l.stackTraces = false) (dC : Nat → ClassId) (dI : Nat → Nat → Nat) (A : Nat → Nat) (cI : ClassId) (σ : OS) (sz : Nat) : vx_Met l yX0_abandon wsX0_abandon (rkx 7) (va_Pc [.ref (A 0)] (oPreX (dC, dI) A cI σ sz)) (va_Qi (fun r u => k_open σ = 0 ∧ r = oBs σ ∧ u = f_close σ) (oB (dC, dI) A cI (oX A cI σ sz)) (oX A cI σ sz)) (vx_X (fun _ : Unit => True) (fun E (_ : Unit) (_ : State) => (E = "java/lang/IllegalStateException" ∧ k_open σ = 1)) (fun q => sz ≤ q)) 1 6 (oX A cI σ sz) := by
  refine vx_ofW (cc := cX0_abandon) (maxL := 2) (ret := (some .int)) (by decide) rfl ?_
  intro p e s m args below meth c s₁ B hml ht hv
  obtain ⟨rfl, ⟨hsz, hP, hK, hD0⟩, hN, hZU, hZN⟩ := hv
  have hx := B.exec
  have hb := B.bytes
  have hr := B.returns
  have hB : ∀ w ∈ bX0, w.before _ s = true := fun w h => atoms_spec (ws := wsX0_abandon) B.pre w (List.mem_cons_of_mem _ h)
  have hown : s.vm.findClass RX0 = some m.cls := findClass_of_methodNamed B.named
  have hlocks := B.notSynchronized
  subst hsz
  have hD : va_D (oX A cI σ s.heap.size) (wO A cI σ) := hD0.self (sz := s.heap.size)
  have hA : ∀ q : Nat, s.heap.size ≤ q → oX A cI σ s.heap.size q := fun q h => Or.inr h
  generalize oX A cI σ s.heap.size = AA at hD hA hZU hZN ⊢
  have hS : va_S AA s.heap s.heap [] := va_S.rf
  have hl := lv_entry ([.ref (A 0)]) (n := 2) (Nat.le_of_ble_eq_true rfl)
  rw [lg_entry_eq]
  generalize (lg_sl ([.ref (A 0)]) ++ List.replicate (2 - (lg_sl ([.ref (A 0)])).length) Slot.unset).toArray = ls at hl ⊢
  have hl : lv_has ls 2 [(0, .ref (A 0))] := hl
  refine lv_aload_n hx hb dX0_abandon_0 rfl (lv_at hl 0 rfl) ?_
  refine va_get (D := (dC, dI)) (ci := 0) (v := .int (oOn σ)) (C := RX0) (T := TX0) (N := 12) hx hb hB inX0 hown hK hP 0 rfl rfl 5 (by decide) (hB _ mX0_f_powered) (fun _ h9 => h9) rfl dX0_abandon_1 ?_
  refine lv_if_eq (tgt := 14) hx hb dX0_abandon_4 rfl (fun h1 => ?_) (fun h1 => ?_)
  · skip
    exact vx_throw0 (mc := 1) (ms := 6) (A := AA) (names := ["java/lang/RuntimeException", "java/lang/Exception"]) hx hb hlt hown (by decide) (by decide) (hB _ mX0_cl_ISE) (hB _ mX0_i_ISE) (xh_ISE (fun w h => hB w (inxX0_ISE w h)) hN) ot_ISE hZU hZN hS (hl.1.trans hml.symm) dX0_abandon_14 dX0_abandon_17 dX0_abandon_18 dX0_abandon_21 (fun x h => (ht x h).elim) (Nat.le_of_ble_eq_true rfl) (Nat.le_of_ble_eq_true rfl) (Nat.le_of_ble_eq_true rfl) (Nat.le_of_ble_eq_true rfl) hlocks (fun t _ hz hk => ⟨(), trivial, ⟨rfl, by simp [k_open, h1]⟩, ⟨hz, fun q h1 _ => hk q h1⟩⟩) (fun z h => by cases h) (Nat.le_of_ble_eq_true rfl) (Nat.le_of_ble_eq_true rfl)
  · skip
    refine lv_aload_n hx hb dX0_abandon_7 rfl (lv_at hl 0 rfl) ?_
    refine va_get (D := (dC, dI)) (ci := 0) (v := .int (oBo σ)) (C := RX0) (T := TX0) (N := 12) hx hb hB inX0 hown hK hP 0 rfl rfl 10 (by decide) (hB _ mX0_f_batchOpen) (fun _ h9 => h9) rfl dX0_abandon_8 ?_
    refine lv_if_ne (tgt := 22) hx hb dX0_abandon_11 rfl (fun h2 => ?_) (fun h2 => ?_)
    · skip
      have hk0 : k_open σ = 0 := by simp [k_open, h1, h2]
      refine lv_aload_n hx hb dX0_abandon_22 rfl (lv_at hl 0 rfl) ?_
      refine va_get (D := (dC, dI)) (ci := 0) (v := .int (oBs σ)) (C := RX0) (T := TX0) (N := 12) hx hb hB inX0 hown hK hP 0 rfl rfl 11 (by decide) (hB _ mX0_f_batchSize) (fun _ h9 => h9) rfl dX0_abandon_23 ?_
      refine lv_istore_n hx hb dX0_abandon_26 rfl hl (by decide) rfl (fun ls hl => ?_)
      have hl : lv_has ls 2 [(1, .int (oBs σ)), (0, .ref (A 0))] := hl
      refine lv_aload_n hx hb dX0_abandon_27 rfl (lv_at hl 1 rfl) ?_
      refine ck0_closeBatch hx hb hml hown hB hl.1 hP hK hD hS hA  dX0_abandon_28 (Nat.le_of_ble_eq_true rfl) (Nat.le_of_ble_eq_true rfl) ⟨Nat.zero_le _, Nat.zero_le _⟩ (Nat.le_of_ble_eq_true rfl) (fun H locs hP hD hS => ?_)
      refine lv_iload_n hx hb dX0_abandon_31 rfl (lv_at hl 0 rfl) ?_
      refine W.widen (k := 1) (n := 6) (Nat.zero_le _) (Nat.zero_le _) ?_
      exact vx_ret (W.iret (v := (oBs σ)) hx hb hr (fun t ht hW => ⟨⟨(oBs σ), f_close σ, rfl, ⟨hk0, rfl, rfl⟩, by rw [ht]; exact hP, va_K.moved hW.alike hK, hD⟩, hS.F ht⟩) hS.2.2 dX0_abandon_32)
    · skip
      exact vx_throw0 (mc := 1) (ms := 6) (A := AA) (names := ["java/lang/RuntimeException", "java/lang/Exception"]) hx hb hlt hown (by decide) (by decide) (hB _ mX0_cl_ISE) (hB _ mX0_i_ISE) (xh_ISE (fun w h => hB w (inxX0_ISE w h)) hN) ot_ISE hZU hZN hS (hl.1.trans hml.symm) dX0_abandon_14 dX0_abandon_17 dX0_abandon_18 dX0_abandon_21 (fun x h => (ht x h).elim) (Nat.le_of_ble_eq_true rfl) (Nat.le_of_ble_eq_true rfl) (Nat.le_of_ble_eq_true rfl) (Nat.le_of_ble_eq_true rfl) hlocks (fun t _ hz hk => ⟨(), trivial, ⟨rfl, by simp [k_open, h2]⟩, ⟨hz, fun q h1 _ => hk q h1⟩⟩) (fun z h => by cases h) (Nat.le_of_ble_eq_true rfl) (Nat.le_of_ble_eq_true rfl)
theorem f_planL_bs : ∀ (n i fr : Nat) (σ : OS), oBs (f_planL n i fr σ).2 = oBs σ
  | 0, _, _, _ => rfl
  | n + 1, i, fr, σ => by
    rw [f_planL]
    split
    · rfl
    · rw [f_planL_bs n]; rfl
theorem f_plan_bs (σ : OS) (nb : Nat) : oBs (f_plan σ nb).2 = oBs σ := f_planL_bs nb 0 0 σ
set_option maxHeartbeats 4000000 in
set_option maxRecDepth 100000 in
theorem cx0_commit (l : Launch) (hlt : l.stackTraces = false) (dC : Nat → ClassId) (dI : Nat → Nat → Nat) (A : Nat → Nat) (cI : ClassId) (σ : OS) (sz : Nat) (nb : Nat) (hnb : oBs σ = nI nb) (hnb8 : nb ≤ 8) : vx_Met l yX0_commit wsX0_commit (rkx 7) (va_Pc [.ref (A 0)] (oPreX (dC, dI) A cI σ sz)) (va_Qi (fun r u => k_open σ = 0 ∧ r = r_commit σ nb ∧ u = s_commit σ nb) (oB (dC, dI) A cI (oX A cI σ sz)) (oX A cI σ sz)) (vx_X (fun _ : Unit => True) (fun E (_ : Unit) (_ : State) => (E = "java/lang/IllegalStateException" ∧ k_open σ = 1)) (fun q => sz ≤ q)) 1 6 (oX A cI σ sz) := by
  refine vx_ofW (cc := cX0_commit) (maxL := 4) (ret := (some .int)) (by decide) rfl ?_
  intro p e s m args below meth c s₁ B hml ht hv
  obtain ⟨rfl, ⟨hsz, hP, hK, hD0⟩, hN, hZU, hZN⟩ := hv
  have hx := B.exec
  have hb := B.bytes
  have hr := B.returns
  have hB : ∀ w ∈ bX0, w.before _ s = true := fun w h => atoms_spec (ws := wsX0_commit) B.pre w (List.mem_cons_of_mem _ h)
  have hown : s.vm.findClass RX0 = some m.cls := findClass_of_methodNamed B.named
  have hlocks := B.notSynchronized
  subst hsz
  have hD : va_D (oX A cI σ s.heap.size) (wO A cI σ) := hD0.self (sz := s.heap.size)
  have hA : ∀ q : Nat, s.heap.size ≤ q → oX A cI σ s.heap.size q := fun q h => Or.inr h
  generalize oX A cI σ s.heap.size = AA at hD hA hZU hZN ⊢
  have hS : va_S AA s.heap s.heap [] := va_S.rf
  have hl := lv_entry ([.ref (A 0)]) (n := 4) (Nat.le_of_ble_eq_true rfl)
  rw [lg_entry_eq]
  generalize (lg_sl ([.ref (A 0)]) ++ List.replicate (4 - (lg_sl ([.ref (A 0)])).length) Slot.unset).toArray = ls at hl ⊢
  have hl : lv_has ls 4 [(0, .ref (A 0))] := hl
  refine lv_aload_n hx hb dX0_commit_0 rfl (lv_at hl 0 rfl) ?_
  refine va_get (D := (dC, dI)) (ci := 0) (v := .int (oOn σ)) (C := RX0) (T := TX0) (N := 12) hx hb hB inX0 hown hK hP 0 rfl rfl 5 (by decide) (hB _ mX0_f_powered) (fun _ h9 => h9) rfl dX0_commit_1 ?_
  refine lv_if_eq (tgt := 14) hx hb dX0_commit_4 rfl (fun h1 => ?_) (fun h1 => ?_)
  · skip
    exact vx_throw0 (mc := 1) (ms := 6) (A := AA) (names := ["java/lang/RuntimeException", "java/lang/Exception"]) hx hb hlt hown (by decide) (by decide) (hB _ mX0_cl_ISE) (hB _ mX0_i_ISE) (xh_ISE (fun w h => hB w (inxX0_ISE w h)) hN) ot_ISE hZU hZN hS (hl.1.trans hml.symm) dX0_commit_14 dX0_commit_17 dX0_commit_18 dX0_commit_21 (fun x h => (ht x h).elim) (Nat.le_of_ble_eq_true rfl) (Nat.le_of_ble_eq_true rfl) (Nat.le_of_ble_eq_true rfl) (Nat.le_of_ble_eq_true rfl) hlocks (fun t _ hz hk => ⟨(), trivial, ⟨rfl, by simp [k_open, h1]⟩, ⟨hz, fun q h1 _ => hk q h1⟩⟩) (fun z h => by cases h) (Nat.le_of_ble_eq_true rfl) (Nat.le_of_ble_eq_true rfl)
  · skip
    refine lv_aload_n hx hb dX0_commit_7 rfl (lv_at hl 0 rfl) ?_
    refine va_get (D := (dC, dI)) (ci := 0) (v := .int (oBo σ)) (C := RX0) (T := TX0) (N := 12) hx hb hB inX0 hown hK hP 0 rfl rfl 10 (by decide) (hB _ mX0_f_batchOpen) (fun _ h9 => h9) rfl dX0_commit_8 ?_
    refine lv_if_ne (tgt := 22) hx hb dX0_commit_11 rfl (fun h2 => ?_) (fun h2 => ?_)
    · skip
      have hk0 : k_open σ = 0 := by simp [k_open, h1, h2]
      refine lv_aload_n hx hb dX0_commit_22 rfl (lv_at hl 0 rfl) ?_
      refine va_get (D := (dC, dI)) (ci := 0) (v := .int (oBs σ)) (C := RX0) (T := TX0) (N := 12) hx hb hB inX0 hown hK hP 0 rfl rfl 11 (by decide) (hB _ mX0_f_batchSize) (fun _ h9 => h9) rfl dX0_commit_23 ?_
      rw [hnb]
      refine lv_if_ne (tgt := 35) hx hb dX0_commit_26 rfl (fun h3 => ?_) (fun h3 => ?_)
      · skip
        have hnb0 : ¬ nb = 0 := fun h => h3 (by rw [h]; rfl)
        refine lv_aload_n hx hb dX0_commit_35 rfl (lv_at hl 0 rfl) ?_
        refine ck0_lowestEmptyNote hx hb hml hown hB hl.1 hP hK dX0_commit_36 (Nat.le_of_ble_eq_true rfl) (Nat.le_of_ble_eq_true rfl) ⟨Nat.zero_le _, Nat.zero_le _⟩ (Nat.le_of_ble_eq_true rfl) ?_
        refine lv_istore_n hx hb dX0_commit_39 rfl hl (by decide) rfl (fun ls hl => ?_)
        have hl : lv_has ls 4 [(1, .int (f_first (f_empty (oL σ)) 40 0)), (0, .ref (A 0))] := hl
        refine lv_iload_n hx hb dX0_commit_40 rfl (lv_at hl 0 rfl) ?_
        refine lv_iconst (v := (-1)) hx hb dX0_commit_41 (by decide) ?_
        refine lv_icmp_eq (tgt := 52) hx hb dX0_commit_42 rfl (fun h4 => ?_) (fun h4 => ?_)
        · skip
          refine lv_iconst (v := (-1)) hx hb dX0_commit_52 (by decide) ?_
          refine W.widen (k := 1) (n := 6) (Nat.zero_le _) (Nat.zero_le _) ?_
          exact vx_ret (W.iret (v := (-1)) hx hb hr (fun t ht hW => ⟨⟨(-1), σ, rfl, ⟨hk0, by rw [r_commit, if_neg hnb0, if_pos h4], by rw [s_commit, if_neg hnb0, if_pos h4]⟩, by rw [ht]; exact hP, va_K.moved hW.alike hK, hD⟩, hS.F ht⟩) hS.2.2 dX0_commit_53)
        · skip
          obtain ⟨k, hk, ek⟩ : ∃ k, k < 40 ∧ f_first (f_empty (oL σ)) 40 0 = nI k := by rcases f_first_in (f_empty (oL σ)) 40 0 with h | ⟨k, -, h2, h3, -⟩; exact absurd h h4; exact ⟨k, by omega, h3⟩
          have ekc : f_noteOf σ = k := by unfold f_noteOf; rw [ek]; exact nI_clamp (by omega)
          rw [ek] at hl
          refine lv_aload_n hx hb dX0_commit_45 rfl (lv_at hl 1 rfl) ?_
          refine ck0_planLines hx hb hml hown hB hl.1 hP hK hD hS hA hnb hnb8 dX0_commit_46 (Nat.le_of_ble_eq_true rfl) (Nat.le_of_ble_eq_true rfl) ⟨Nat.zero_le _, Nat.zero_le _⟩ (Nat.le_of_ble_eq_true rfl) (fun H locs hP hD hS => ?_)
          refine lv_if_ne (tgt := 54) hx hb dX0_commit_49 rfl (fun h5 => ?_) (fun h5 => ?_)
          · skip
            have hpl : (f_plan σ nb).1 = true := bI_n0.mp h5
            have hnbp : oBs (f_plan σ nb).2 = nI nb := (f_plan_bs σ nb).trans hnb
            refine lv_aload_n hx hb dX0_commit_54 rfl (lv_at hl 1 rfl) ?_
            refine va_get (D := (dC, dI)) (ci := 0) (v := .int (oWr ((f_plan σ nb).2))) (C := RX0) (T := TX0) (N := 12) hx hb hB inX0 hown hK hP 0 rfl rfl 4 (by decide) (hB _ mX0_f_writes) (fun _ h9 => h9) rfl dX0_commit_55 ?_
            refine lv_istore_n hx hb dX0_commit_58 rfl hl (by decide) rfl (fun ls hl => ?_)
            have hl : lv_has ls 4 [(2, .int (oWr ((f_plan σ nb).2))), (1, .int (nI k)), (0, .ref (A 0))] := hl
            refine lv_aload_n hx hb dX0_commit_59 rfl (lv_at hl 2 rfl) ?_
            refine lv_iload_n hx hb dX0_commit_60 rfl (lv_at hl 1 rfl) ?_
            refine ck0_writeNote hx hb hml hown hB hl.1 hP hK hD hS hA hk hnbp hnb8 dX0_commit_61 (Nat.le_of_ble_eq_true rfl) (Nat.le_of_ble_eq_true rfl) ⟨Nat.zero_le _, Nat.zero_le _⟩ (Nat.le_of_ble_eq_true rfl) (fun H locs hP hD hS => ?_)
            refine lv_if_eq (tgt := 79) hx hb dX0_commit_64 rfl (fun h6 => ?_) (fun h6 => ?_)
            · skip
              have hrun : f_run σ nb = (false, (f_note (f_plan σ nb).2 k nb).2) := by unfold f_run; rw [ekc, if_neg (by rw [bI_0.mp h6]; decide)]
              refine lv_iconst (v := 0) hx hb dX0_commit_79 (by decide) ?_
              refine lv_istore_n hx hb dX0_commit_80 rfl hl (by decide) rfl (fun ls hl => ?_)
              have hl : lv_has ls 4 [(3, .int 0), (2, .int (oWr ((f_plan σ nb).2))), (1, .int (nI k)), (0, .ref (A 0))] := hl
              refine lv_aload_n hx hb dX0_commit_81 rfl (lv_at hl 3 rfl) ?_
              refine ck0_closeBatch hx hb hml hown hB hl.1 hP hK hD hS hA  dX0_commit_82 (Nat.le_of_ble_eq_true rfl) (Nat.le_of_ble_eq_true rfl) ⟨Nat.zero_le _, Nat.zero_le _⟩ (Nat.le_of_ble_eq_true rfl) (fun H locs hP hD hS => ?_)
              refine lv_iload_n hx hb dX0_commit_85 rfl (lv_at hl 0 rfl) ?_
              refine lv_if_eq (tgt := 98) hx hb dX0_commit_86 rfl (fun h7 => ?_) (fun h7 => ?_)
              · skip
                refine lv_bipush (v := (-2)) hx hb dX0_commit_98 (by decide) ?_
                refine W.widen (k := 1) (n := 6) (Nat.zero_le _) (Nat.zero_le _) ?_
                exact vx_ret (W.iret (v := (-2)) hx hb hr (fun t ht hW => ⟨⟨(-2), f_close (f_note (f_plan σ nb).2 k nb).2, rfl, ⟨hk0, by rw [r_commit, if_neg hnb0, if_neg h4, if_neg (by rw [hpl]; decide), hrun, if_neg Bool.false_ne_true], by rw [s_commit, if_neg hnb0, if_neg h4, if_neg (by rw [hpl]; decide), hrun]⟩, by rw [ht]; exact hP, va_K.moved hW.alike hK, hD⟩, hS.F ht⟩) hS.2.2 dX0_commit_100)
              · skip
                exact absurd rfl h7
            · skip
              refine lv_aload_n hx hb dX0_commit_67 rfl (lv_at hl 2 rfl) ?_
              refine lv_iload_n hx hb dX0_commit_68 rfl (lv_at hl 1 rfl) ?_
              refine ck0_carryOutNote hx hb hml hown hB hl.1 hP hK hD hS hA hk dX0_commit_69 (Nat.le_of_ble_eq_true rfl) (Nat.le_of_ble_eq_true rfl) ⟨Nat.zero_le _, Nat.zero_le _⟩ (Nat.le_of_ble_eq_true rfl) (fun H locs hP hD hS => ?_)
              have hrun : f_run σ nb = f_car (f_note (f_plan σ nb).2 k nb).2 k := by unfold f_run; rw [ekc, if_pos (bI_n0.mp h6)]
              refine lv_if_eq (tgt := 79) hx hb dX0_commit_72 rfl (fun h7 => ?_) (fun h7 => ?_)
              · skip
                refine lv_iconst (v := 0) hx hb dX0_commit_79 (by decide) ?_
                refine lv_istore_n hx hb dX0_commit_80 rfl hl (by decide) rfl (fun ls hl => ?_)
                have hl : lv_has ls 4 [(3, .int 0), (2, .int (oWr ((f_plan σ nb).2))), (1, .int (nI k)), (0, .ref (A 0))] := hl
                refine lv_aload_n hx hb dX0_commit_81 rfl (lv_at hl 3 rfl) ?_
                refine ck0_closeBatch hx hb hml hown hB hl.1 hP hK hD hS hA  dX0_commit_82 (Nat.le_of_ble_eq_true rfl) (Nat.le_of_ble_eq_true rfl) ⟨Nat.zero_le _, Nat.zero_le _⟩ (Nat.le_of_ble_eq_true rfl) (fun H locs hP hD hS => ?_)
                refine lv_iload_n hx hb dX0_commit_85 rfl (lv_at hl 0 rfl) ?_
                refine lv_if_eq (tgt := 98) hx hb dX0_commit_86 rfl (fun h8 => ?_) (fun h8 => ?_)
                · skip
                  refine lv_bipush (v := (-2)) hx hb dX0_commit_98 (by decide) ?_
                  refine W.widen (k := 1) (n := 6) (Nat.zero_le _) (Nat.zero_le _) ?_
                  exact vx_ret (W.iret (v := (-2)) hx hb hr (fun t ht hW => ⟨⟨(-2), f_close (f_car (f_note (f_plan σ nb).2 k nb).2 k).2, rfl, ⟨hk0, by rw [r_commit, if_neg hnb0, if_neg h4, if_neg (by rw [hpl]; decide), hrun, if_neg (by rw [bI_0.mp h7]; decide)], by rw [s_commit, if_neg hnb0, if_neg h4, if_neg (by rw [hpl]; decide), hrun]⟩, by rw [ht]; exact hP, va_K.moved hW.alike hK, hD⟩, hS.F ht⟩) hS.2.2 dX0_commit_100)
                · skip
                  exact absurd rfl h8
              · skip
                refine lv_iconst (v := 1) hx hb dX0_commit_75 (by decide) ?_
                refine lv_goto (tgt := 80) hx hb dX0_commit_76 rfl ?_
                refine lv_istore_n hx hb dX0_commit_80 rfl hl (by decide) rfl (fun ls hl => ?_)
                have hl : lv_has ls 4 [(3, .int 1), (2, .int (oWr ((f_plan σ nb).2))), (1, .int (nI k)), (0, .ref (A 0))] := hl
                refine lv_aload_n hx hb dX0_commit_81 rfl (lv_at hl 3 rfl) ?_
                refine ck0_closeBatch hx hb hml hown hB hl.1 hP hK hD hS hA  dX0_commit_82 (Nat.le_of_ble_eq_true rfl) (Nat.le_of_ble_eq_true rfl) ⟨Nat.zero_le _, Nat.zero_le _⟩ (Nat.le_of_ble_eq_true rfl) (fun H locs hP hD hS => ?_)
                refine lv_iload_n hx hb dX0_commit_85 rfl (lv_at hl 0 rfl) ?_
                refine lv_if_eq (tgt := 98) hx hb dX0_commit_86 rfl (fun h8 => ?_) (fun h8 => ?_)
                · skip
                  exact absurd h8 (by decide)
                · skip
                  refine lv_aload_n hx hb dX0_commit_89 rfl (lv_at hl 3 rfl) ?_
                  refine va_get (D := (dC, dI)) (ci := 0) (v := .int (oWr (f_close (f_car (f_note (f_plan σ nb).2 k nb).2 k).2))) (C := RX0) (T := TX0) (N := 12) hx hb hB inX0 hown hK hP 0 rfl rfl 4 (by decide) (hB _ mX0_f_writes) (fun _ h9 => h9) rfl dX0_commit_90 ?_
                  refine lv_iload_n hx hb dX0_commit_93 rfl (lv_at hl 1 rfl) ?_
                  refine lv_isub hx hb dX0_commit_94 ?_
                  refine lv_goto (tgt := 100) hx hb dX0_commit_95 rfl ?_
                  refine W.widen (k := 1) (n := 6) (Nat.zero_le _) (Nat.zero_le _) ?_
                  exact vx_ret (W.iret (v := ((oWr (f_close (f_car (f_note (f_plan σ nb).2 k nb).2 k).2)) - (oWr ((f_plan σ nb).2)))) hx hb hr (fun t ht hW => ⟨⟨((oWr (f_close (f_car (f_note (f_plan σ nb).2 k nb).2 k).2)) - (oWr ((f_plan σ nb).2))), f_close (f_car (f_note (f_plan σ nb).2 k nb).2 k).2, rfl, ⟨hk0, by rw [r_commit, if_neg hnb0, if_neg h4, if_neg (by rw [hpl]; decide), hrun, if_pos (bI_n0.mp h7)]; rfl, by rw [s_commit, if_neg hnb0, if_neg h4, if_neg (by rw [hpl]; decide), hrun]⟩, by rw [ht]; exact hP, va_K.moved hW.alike hK, hD⟩, hS.F ht⟩) hS.2.2 dX0_commit_100)
          · skip
            have hpl : (f_plan σ nb).1 = false := bI_0.mp h5
            refine lv_iconst (v := (-1)) hx hb dX0_commit_52 (by decide) ?_
            refine W.widen (k := 1) (n := 6) (Nat.zero_le _) (Nat.zero_le _) ?_
            exact vx_ret (W.iret (v := (-1)) hx hb hr (fun t ht hW => ⟨⟨(-1), (f_plan σ nb).2, rfl, ⟨hk0, by rw [r_commit, if_neg hnb0, if_neg h4, if_pos hpl], by rw [s_commit, if_neg hnb0, if_neg h4, if_pos hpl]⟩, by rw [ht]; exact hP, va_K.moved hW.alike hK, hD⟩, hS.F ht⟩) hS.2.2 dX0_commit_53)
      · skip
        have hnb0 : nb = 0 := by rcases Nat.eq_zero_or_pos nb with h | h; exact h; exact absurd h3 (nI_ne0 h (by omega))
        refine lv_aload_n hx hb dX0_commit_29 rfl (lv_at hl 0 rfl) ?_
        refine ck0_closeBatch hx hb hml hown hB hl.1 hP hK hD hS hA  dX0_commit_30 (Nat.le_of_ble_eq_true rfl) (Nat.le_of_ble_eq_true rfl) ⟨Nat.zero_le _, Nat.zero_le _⟩ (Nat.le_of_ble_eq_true rfl) (fun H locs hP hD hS => ?_)
        refine lv_iconst (v := 0) hx hb dX0_commit_33 (by decide) ?_
        refine W.widen (k := 1) (n := 6) (Nat.zero_le _) (Nat.zero_le _) ?_
        exact vx_ret (W.iret (v := 0) hx hb hr (fun t ht hW => ⟨⟨0, f_close σ, rfl, ⟨hk0, by rw [r_commit, if_pos hnb0], by rw [s_commit, if_pos hnb0]⟩, by rw [ht]; exact hP, va_K.moved hW.alike hK, hD⟩, hS.F ht⟩) hS.2.2 dX0_commit_34)
    · skip
      exact vx_throw0 (mc := 1) (ms := 6) (A := AA) (names := ["java/lang/RuntimeException", "java/lang/Exception"]) hx hb hlt hown (by decide) (by decide) (hB _ mX0_cl_ISE) (hB _ mX0_i_ISE) (xh_ISE (fun w h => hB w (inxX0_ISE w h)) hN) ot_ISE hZU hZN hS (hl.1.trans hml.symm) dX0_commit_14 dX0_commit_17 dX0_commit_18 dX0_commit_21 (fun x h => (ht x h).elim) (Nat.le_of_ble_eq_true rfl) (Nat.le_of_ble_eq_true rfl) (Nat.le_of_ble_eq_true rfl) (Nat.le_of_ble_eq_true rfl) hlocks (fun t _ hz hk => ⟨(), trivial, ⟨rfl, by simp [k_open, h2]⟩, ⟨hz, fun q h1 _ => hk q h1⟩⟩) (fun z h => by cases h) (Nat.le_of_ble_eq_true rfl) (Nat.le_of_ble_eq_true rfl)
