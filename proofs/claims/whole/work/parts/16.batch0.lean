set_option maxHeartbeats 4000000 in
set_option maxRecDepth 100000 in
theorem cm0_writeNote (l : Launch) (dC : Nat → ClassId) (dI : Nat → Nat → Nat) (A : Nat → Nat) (cI : ClassId) (σ : OS) (sz : Nat) (b : Nat) (nb : Nat) (hb40 : b < 40) (hnb : oBs σ = nI nb) (hnb8 : nb ≤ 8) : Met l yX0_writeNote wsX0_writeNote (rk 2) (va_Pc [.ref (A 0), .int (nI b)] (oPre (dC, dI) A cI σ sz)) (va_Qi (fun r u => r = bI (f_note σ b nb).1 ∧ u = (f_note σ b nb).2) (oB (dC, dI) A cI (oX A cI σ sz)) (oX A cI σ sz)) 0 0 (oX A cI σ sz) := by
  refine Met.ofW (cc := cX0_writeNote) (maxL := 4) (ret := (some .boolean)) (by decide) rfl ?_
  intro p e s m args below meth c s₁ B hml hv
  obtain ⟨rfl, hsz, hP, hK, hD0⟩ := hv
  have hx := B.exec
  have hb := B.bytes
  have hr := B.returns
  have hB : ∀ w ∈ bX0, w.before _ s = true := fun w h => atoms_spec (ws := wsX0_writeNote) B.pre w (List.mem_cons_of_mem _ h)
  have hown : s.vm.findClass RX0 = some m.cls := findClass_of_methodNamed B.named
  have hlocks := B.notSynchronized
  subst hsz
  have hD : va_D (oX A cI σ s.heap.size) (wO A cI σ) := hD0.self (sz := s.heap.size)
  have hA : ∀ q : Nat, s.heap.size ≤ q → oX A cI σ s.heap.size q := fun q h => Or.inr h
  generalize oX A cI σ s.heap.size = AA at hD hA ⊢
  have hS : va_S AA s.heap s.heap [] := va_S.rf
  have hl := lv_entry ([.ref (A 0), .int (nI b)]) (n := 4) (Nat.le_of_ble_eq_true rfl)
  rw [lg_entry_eq]
  generalize (lg_sl ([.ref (A 0), .int (nI b)]) ++ List.replicate (4 - (lg_sl ([.ref (A 0), .int (nI b)])).length) Slot.unset).toArray = ls at hl ⊢
  have hl : lv_has ls 4 [(0, .ref (A 0)), (1, .int (nI b))] := hl
  refine lv_iload_n hx hb dX0_writeNote_0 rfl (lv_at hl 1 rfl) ?_
  refine lv_bipush (v := 9) hx hb dX0_writeNote_1 (by decide) ?_
  refine lv_imul hx hb dX0_writeNote_3 ?_
  have hb9 : nI b * 9 = nI (b * 9) := by rw [← pk_mul]; rfl
  rw [hb9]
  refine lv_istore_n hx hb dX0_writeNote_4 rfl hl (by decide) rfl (fun ls hl => ?_)
  have hl : lv_has ls 4 [(2, .int (nI (b * 9))), (0, .ref (A 0)), (1, .int (nI b))] := hl
  refine lv_iconst (v := 0) hx hb dX0_writeNote_5 (by decide) ?_
  refine lv_istore_n hx hb dX0_writeNote_6 rfl hl (by decide) rfl (fun ls hl => ?_)
  have hl : lv_has ls 4 [(3, .int 0), (2, .int (nI (b * 9))), (0, .ref (A 0)), (1, .int (nI b))] := hl
  have hl := lv_sub (l' := [(0, .ref (A 0)), (1, .int (nI b)), (2, .int (nI (b * 9))), (3, .int 0)]) hl [2, 3, 1, 0] rfl
  have loop : ∀ (n i : Nat) (τ : OS) (ls : Array Slot) (H : Heap) (locs : List Loc), i + n = nb → oBs τ = nI nb → lv_has ls 4 [(0, .ref (A 0)), (1, .int (nI b)), (2, .int (nI (b * 9))), (3, .int (nI i))] → va_P (dC, dI) vwCl (wO A cI τ) H → va_D AA (wO A cI τ) → va_S AA s.heap H locs → f_noteL b n i τ = f_note σ b nb → W p l e (headSpec wsX0_writeNote (rk 2)).room s m ([.ref (A 0), .int (nI b)]).toArray below meth c H locs 0 0 (MQ below (va_Qi (fun r u => r = bI (f_note σ b nb).1 ∧ u = (f_note σ b nb).2) (oB (dC, dI) A cI AA) AA) ([.ref (A 0), .int (nI b)]).toArray s 0 0 AA) (F0 m 7 ls []) := by
    intro n
    induction n with
    | zero =>
    intro i τ ls H locs hi hbs hl hP hD hS hF
    have hi8 : i = nb := by omega
    subst hi8
    refine lv_iload_n hx hb dX0_writeNote_7 rfl (lv_at hl 3 rfl) ?_
    refine lv_aload_n hx hb dX0_writeNote_8 rfl (lv_at hl 0 rfl) ?_
    refine va_get (D := (dC, dI)) (ci := 0) (v := .int (oBs τ)) (C := RX0) (T := TX0) (N := 12) hx hb hB inX0 hown hK hP 0 rfl rfl 11 (by decide) (hB _ mX0_f_batchSize) (fun _ h9 => h9) rfl dX0_writeNote_9 ?_
    rw [hbs]
    refine lv_icmp_ge (tgt := 43) hx hb dX0_writeNote_12 rfl (fun h1 => ?_) (fun h1 => ?_)
    · skip
      refine lv_aload_n hx hb dX0_writeNote_43 rfl (lv_at hl 0 rfl) ?_
      refine lv_aload_n hx hb dX0_writeNote_44 rfl (lv_at hl 0 rfl) ?_
      refine va_get (D := (dC, dI)) (ci := 0) (v := .ref (A 3)) (C := RX0) (T := TX0) (N := 12) hx hb hB inX0 hown hK hP 0 rfl rfl 2 (by decide) (hB _ mX0_f_lineRow) (fun _ h9 => h9) rfl dX0_writeNote_45 ?_
      refine lv_iload_n hx hb dX0_writeNote_48 rfl (lv_at hl 2 rfl) ?_
      refine lv_bipush (v := 8) hx hb dX0_writeNote_49 (by decide) ?_
      refine lv_iadd hx hb dX0_writeNote_51 ?_
      have hix : nI (b * 9) + 8 = nI (b * 9 + 8) := by rw [← nI_add]; rfl
      rw [hix]
      refine lv_iconst (v := 1) hx hb dX0_writeNote_52 (by decide) ?_
      refine ck0_write3 hx hb hml hown hB hl.1 hP hK hD hS hA (by omega) dX0_writeNote_53 (Nat.le_of_ble_eq_true rfl) (Nat.le_of_ble_eq_true rfl) ⟨Nat.zero_le _, Nat.zero_le _⟩ (Nat.le_of_ble_eq_true rfl) (fun H locs hP hD hS => ?_)
      exact W.zret (v := (bI (f_ok τ (f_add (oL τ (b * 9 + 8)) 1)))) hx hb hr (bI_nar _) (fun t ht hW => ⟨⟨(bI (f_ok τ (f_add (oL τ (b * 9 + 8)) 1))), f_wr3 τ (b * 9 + 8) 1, rfl, ⟨by rw [← hF]; rfl, by rw [← hF]; rfl⟩, by rw [ht]; exact hP, va_K.moved hW.alike hK, hD⟩, hS.F ht⟩) hS.2.2 dX0_writeNote_56
    · skip
      exact absurd (nI_le (Nat.le_refl _) (by omega)) h1
    | succ n ih =>
    intro i τ ls H locs hi hbs hl hP hD hS hF
    refine lv_iload_n hx hb dX0_writeNote_7 rfl (lv_at hl 3 rfl) ?_
    refine lv_aload_n hx hb dX0_writeNote_8 rfl (lv_at hl 0 rfl) ?_
    refine va_get (D := (dC, dI)) (ci := 0) (v := .int (oBs τ)) (C := RX0) (T := TX0) (N := 12) hx hb hB inX0 hown hK hP 0 rfl rfl 11 (by decide) (hB _ mX0_f_batchSize) (fun _ h9 => h9) rfl dX0_writeNote_9 ?_
    rw [hbs]
    refine lv_icmp_ge (tgt := 43) hx hb dX0_writeNote_12 rfl (fun h1 => ?_) (fun h1 => ?_)
    · skip
      exact absurd h1 (nI_ge (by omega) (by omega))
    · skip
      refine lv_aload_n hx hb dX0_writeNote_15 rfl (lv_at hl 0 rfl) ?_
      refine lv_aload_n hx hb dX0_writeNote_16 rfl (lv_at hl 0 rfl) ?_
      refine va_get (D := (dC, dI)) (ci := 0) (v := .ref (A 3)) (C := RX0) (T := TX0) (N := 12) hx hb hB inX0 hown hK hP 0 rfl rfl 2 (by decide) (hB _ mX0_f_lineRow) (fun _ h9 => h9) rfl dX0_writeNote_17 ?_
      refine lv_iload_n hx hb dX0_writeNote_20 rfl (lv_at hl 2 rfl) ?_
      refine lv_iload_n hx hb dX0_writeNote_21 rfl (lv_at hl 3 rfl) ?_
      refine lv_iadd hx hb dX0_writeNote_22 ?_
      rw [nI_add]
      refine lv_aload_n hx hb dX0_writeNote_23 rfl (lv_at hl 0 rfl) ?_
      refine va_get (D := (dC, dI)) (ci := 0) (v := .ref (A 6)) (C := RX0) (T := TX0) (N := 12) hx hb hB inX0 hown hK hP 0 rfl rfl 9 (by decide) (hB _ mX0_f_plannedLines) (fun _ h9 => h9) rfl dX0_writeNote_24 ?_
      refine lv_iload_n hx hb dX0_writeNote_27 rfl (lv_at hl 3 rfl) ?_
      refine va_iald (D := (dC, dI)) (i := (nI i)) hx hb hK hP 6 0 rfl rfl (vp_in_nI (by omega) (by decide)) dX0_writeNote_28 ?_
      rw [show ((nI i)).toNatClampNeg = i from nI_clamp (by omega)]
      refine ck0_write3 hx hb hml hown hB hl.1 hP hK hD hS hA (by omega) dX0_writeNote_29 (Nat.le_of_ble_eq_true rfl) (Nat.le_of_ble_eq_true rfl) ⟨Nat.zero_le _, Nat.zero_le _⟩ (Nat.le_of_ble_eq_true rfl) (fun H locs hP hD hS => ?_)
      refine lv_if_ne (tgt := 37) hx hb dX0_writeNote_32 rfl (fun h2 => ?_) (fun h2 => ?_)
      · skip
        refine lv_iinc (k := 3) (v := (nI (i + 1))) hx hb dX0_writeNote_37 hl rfl (nI_1 i) (by decide) rfl (fun ls hl => ?_)
        have hl : lv_has ls 4 [(3, .int (nI (i + 1))), (0, .ref (A 0)), (1, .int (nI b)), (2, .int (nI (b * 9)))] := hl
        refine lv_goto (tgt := 7) hx hb dX0_writeNote_40 rfl ?_
        refine ih (i + 1) _ ls H locs (by omega) ((f_wr3_bs _ _ _).trans hbs) (lv_sub hl [1, 2, 3, 0] rfl) hP hD hS ?_
        rw [← hF]; exact (if_pos (bI_n0.mp h2)).symm
      · skip
        refine lv_iconst (v := 0) hx hb dX0_writeNote_35 (by decide) ?_
        exact W.zret (v := 0) hx hb hr (rfl) (fun t ht hW => ⟨⟨0, f_wr3 τ (b * 9 + i) (oP τ i), rfl, ⟨by rw [← hF, f_noteL, if_neg (by rw [bI_0.mp h2]; decide)]; rfl, by rw [← hF, f_noteL, if_neg (by rw [bI_0.mp h2]; decide)]⟩, by rw [ht]; exact hP, va_K.moved hW.alike hK, hD⟩, hS.F ht⟩) hS.2.2 dX0_writeNote_36
  exact loop nb 0 σ ls s.heap [] (by omega) hnb hl hP hD hS rfl
set_option maxRecDepth 100000 in
theorem ck0_writeNote {p : Program} {l : Launch} {e : Env} {R : Room} {s : State} {m : MethodId} {args : Array Value} {below : List Frame} {meth : Method} {c : Code} {H : Heap} {locs : List Loc} {cells slots : Nat} {Q : State → Prop} {cc : ByteArray} {nL pc : Nat} {ls : Array Slot} {rest : List Value} {A0 : Nat → Prop} {H0 : Heap} {dC : Nat → ClassId} {dI : Nat → Nat → Nat} {A : Nat → Nat} {cI : ClassId} {σ : OS} {b : Nat} {nb : Nat} (hx : p.tables.exec = Jvm.exec) (hb : c.code = cc) (hml : c.maxLocals = nL) (hown : s.vm.findClass RX0 = some m.cls) (hB : ∀ w ∈ bX0, w.before args s = true) (hsz : ls.size = nL) (hP : va_P (dC, dI) vwCl (wO A cI σ) H) (hK : va_K (dC, dI) vwCl [(cI, .int)] s) (hD : va_D A0 (wO A cI σ)) (hS : va_S A0 H0 H locs) (hA : ∀ q, H0.size ≤ q → A0 q) (hb40 : b < 40) (hnb : oBs σ = nI nb) (hnb8 : nb ≤ 8) (hd : decode cc pc = .ok (.invokevirtual 94, 3)) (hF : 3 ≤ R.frames) (hLo : 83 ≤ R.locals) (hc : cells ≤ R.cells ∧ slots ≤ R.slots) (hst : (rest.map fun v => v.category).sum ≤ 8)
    (kk : ∀ (H1 : Heap) (locs1 : List Loc), va_P (dC, dI) vwCl (wO A cI ((f_note σ b nb).2)) H1 → va_D A0 (wO A cI ((f_note σ b nb).2)) → va_S A0 H0 H1 locs1 → W p l e R s m args below meth c H1 locs1 cells slots Q (F0 m (pc + 3) ls (.int (bI (f_note σ b nb).1) :: rest))) : W p l e R s m args below meth c H locs cells slots Q (F0 m pc ls (.int (nI b) :: .ref (A 0) :: rest)) := by
  have hFc := va_free (wc := wO A cI σ) hD hS hA [0, 1, 2, 3, 4, 5, 6] rfl
  refine va_calli (va_runV (C := RX0) (As := [.int (nI b)]) (rest := rest) ⟨hx, hb, hml, hown, hB⟩ (cm0_writeNote l dC dI A cI σ H.size b nb hb40 hnb hnb8) (cwV 1 hB goX0_writeNote rfl rfl rfl ⟨rfl, by decide, by decide, by decide +kernel⟩ ⟨hF, hLo⟩) ⟨fun a U g mk q => by obtain ⟨q0, q1, qP, qK, qD⟩ := q; exact ⟨q0, q1, qP, va_K.moved (u := U) (U := U.calling g mk a) (Vm.Alike.refl U.vm) qK, qD⟩, va_recv (q := (RX0, TX0, 12)) hK hP rfl (q0 := 0) rfl, fun U hU hW => ⟨rfl, by rw [hU], by rw [hU]; exact hP, va_K.moved hW.alike hK, hD.weaken (fun _ _ _ _ => trivial)⟩⟩ rfl rfl hsz rfl (lv_room hst) hd hc) hS (fun q _ h => hFc q h) hFc (fun r u t H1 locs1 ht hvm hw hBu hz1 hk1 hS1 => ?_)
  obtain ⟨rfl, rfl⟩ := hw
  obtain ⟨hP1, hK1, hD1⟩ := hBu
  rw [ht] at hP1
  exact kk H1 locs1 hP1 (hD1.weaken (fun k q _ h => hFc q.1 h)) hS1
set_option maxHeartbeats 4000000 in
set_option maxRecDepth 100000 in
theorem cm0_carryOutNote (l : Launch) (dC : Nat → ClassId) (dI : Nat → Nat → Nat) (A : Nat → Nat) (cI : ClassId) (σ : OS) (sz : Nat) (b : Nat) (hb40 : b < 40) : Met l yX0_carryOutNote wsX0_carryOutNote (rk 3) (va_Pc [.ref (A 0), .int (nI b)] (oPre (dC, dI) A cI σ sz)) (va_Qi (fun r u => r = bI (f_car σ b).1 ∧ u = (f_car σ b).2) (oB (dC, dI) A cI (oX A cI σ sz)) (oX A cI σ sz)) 0 0 (oX A cI σ sz) := by
  refine Met.ofW (cc := cX0_carryOutNote) (maxL := 5) (ret := (some .boolean)) (by decide) rfl ?_
  intro p e s m args below meth c s₁ B hml hv
  obtain ⟨rfl, hsz, hP, hK, hD0⟩ := hv
  have hx := B.exec
  have hb := B.bytes
  have hr := B.returns
  have hB : ∀ w ∈ bX0, w.before _ s = true := fun w h => atoms_spec (ws := wsX0_carryOutNote) B.pre w (List.mem_cons_of_mem _ h)
  have hown : s.vm.findClass RX0 = some m.cls := findClass_of_methodNamed B.named
  have hlocks := B.notSynchronized
  subst hsz
  have hD : va_D (oX A cI σ s.heap.size) (wO A cI σ) := hD0.self (sz := s.heap.size)
  have hA : ∀ q : Nat, s.heap.size ≤ q → oX A cI σ s.heap.size q := fun q h => Or.inr h
  generalize oX A cI σ s.heap.size = AA at hD hA ⊢
  have hS : va_S AA s.heap s.heap [] := va_S.rf
  have hl := lv_entry ([.ref (A 0), .int (nI b)]) (n := 5) (Nat.le_of_ble_eq_true rfl)
  rw [lg_entry_eq]
  generalize (lg_sl ([.ref (A 0), .int (nI b)]) ++ List.replicate (5 - (lg_sl ([.ref (A 0), .int (nI b)])).length) Slot.unset).toArray = ls at hl ⊢
  have hl : lv_has ls 5 [(0, .ref (A 0)), (1, .int (nI b))] := hl
  refine lv_iload_n hx hb dX0_carryOutNote_0 rfl (lv_at hl 1 rfl) ?_
  refine lv_bipush (v := 9) hx hb dX0_carryOutNote_1 (by decide) ?_
  refine lv_imul hx hb dX0_carryOutNote_3 ?_
  have hb9 : nI b * 9 = nI (b * 9) := by rw [← pk_mul]; rfl
  rw [hb9]
  refine lv_istore_n hx hb dX0_carryOutNote_4 rfl hl (by decide) rfl (fun ls hl => ?_)
  have hl : lv_has ls 5 [(2, .int (nI (b * 9))), (0, .ref (A 0)), (1, .int (nI b))] := hl
  refine lv_iconst (v := 0) hx hb dX0_carryOutNote_5 (by decide) ?_
  refine lv_istore_n hx hb dX0_carryOutNote_6 rfl hl (by decide) rfl (fun ls hl => ?_)
  have hl : lv_has ls 5 [(3, .int 0), (2, .int (nI (b * 9))), (0, .ref (A 0)), (1, .int (nI b))] := hl
  have hl := lv_sub (l' := [(0, .ref (A 0)), (1, .int (nI b)), (2, .int (nI (b * 9))), (3, .int 0)]) hl [2, 3, 1, 0] rfl
  have loop : ∀ (n i : Nat) (τ : OS) (ls : Array Slot) (H : Heap) (locs : List Loc), i + n = 8 → lv_has ls 5 [(0, .ref (A 0)), (1, .int (nI b)), (2, .int (nI (b * 9))), (3, .int (nI i))] → va_P (dC, dI) vwCl (wO A cI τ) H → va_D AA (wO A cI τ) → va_S AA s.heap H locs → f_carL b n i τ = f_car σ b → W p l e (headSpec wsX0_carryOutNote (rk 3)).room s m ([.ref (A 0), .int (nI b)]).toArray below meth c H locs 0 0 (MQ below (va_Qi (fun r u => r = bI (f_car σ b).1 ∧ u = (f_car σ b).2) (oB (dC, dI) A cI AA) AA) ([.ref (A 0), .int (nI b)]).toArray s 0 0 AA) (F0 m 7 ls []) := by
    intro n
    induction n with
    | zero =>
    intro i τ ls H locs hi hl hP hD hS hF
    have hi8 : i = 8 := by omega
    subst hi8
    refine lv_iload_n hx hb dX0_carryOutNote_7 rfl (lv_at hl 3 rfl) ?_
    refine lv_bipush (v := 8) hx hb dX0_carryOutNote_8 (by decide) ?_
    refine lv_icmp_ge (tgt := 61) hx hb dX0_carryOutNote_10 rfl (fun h1 => ?_) (fun h1 => ?_)
    · skip
      refine lv_aload_n hx hb dX0_carryOutNote_61 rfl (lv_at hl 0 rfl) ?_
      refine lv_aload_n hx hb dX0_carryOutNote_62 rfl (lv_at hl 0 rfl) ?_
      refine va_get (D := (dC, dI)) (ci := 0) (v := .ref (A 3)) (C := RX0) (T := TX0) (N := 12) hx hb hB inX0 hown hK hP 0 rfl rfl 2 (by decide) (hB _ mX0_f_lineRow) (fun _ h9 => h9) rfl dX0_carryOutNote_63 ?_
      refine lv_iload_n hx hb dX0_carryOutNote_66 rfl (lv_at hl 2 rfl) ?_
      refine lv_bipush (v := 8) hx hb dX0_carryOutNote_67 (by decide) ?_
      refine lv_iadd hx hb dX0_carryOutNote_69 ?_
      have hix : nI (b * 9) + 8 = nI (b * 9 + 8) := by rw [← nI_add]; rfl
      rw [hix]
      refine lv_iconst (v := 3) hx hb dX0_carryOutNote_70 (by decide) ?_
      refine ck0_write3 hx hb hml hown hB hl.1 hP hK hD hS hA (by omega) dX0_carryOutNote_71 (Nat.le_of_ble_eq_true rfl) (Nat.le_of_ble_eq_true rfl) ⟨Nat.zero_le _, Nat.zero_le _⟩ (Nat.le_of_ble_eq_true rfl) (fun H locs hP hD hS => ?_)
      exact W.zret (v := (bI (f_ok τ (f_add (oL τ (b * 9 + 8)) 3)))) hx hb hr (bI_nar _) (fun t ht hW => ⟨⟨(bI (f_ok τ (f_add (oL τ (b * 9 + 8)) 3))), f_wr3 τ (b * 9 + 8) 3, rfl, ⟨by rw [← hF]; rfl, by rw [← hF]; rfl⟩, by rw [ht]; exact hP, va_K.moved hW.alike hK, hD⟩, hS.F ht⟩) hS.2.2 dX0_carryOutNote_74
    · skip
      exact absurd (by decide) h1
    | succ n ih =>
    intro i τ ls H locs hi hl hP hD hS hF
    refine lv_iload_n hx hb dX0_carryOutNote_7 rfl (lv_at hl 3 rfl) ?_
    refine lv_bipush (v := 8) hx hb dX0_carryOutNote_8 (by decide) ?_
    refine lv_icmp_ge (tgt := 61) hx hb dX0_carryOutNote_10 rfl (fun h1 => ?_) (fun h1 => ?_)
    · skip
      exact absurd h1 (nI_ge (b := 8) (by omega) (by decide))
    · skip
      refine lv_aload_n hx hb dX0_carryOutNote_13 rfl (lv_at hl 0 rfl) ?_
      refine va_get (D := (dC, dI)) (ci := 0) (v := .ref (A 3)) (C := RX0) (T := TX0) (N := 12) hx hb hB inX0 hown hK hP 0 rfl rfl 2 (by decide) (hB _ mX0_f_lineRow) (fun _ h9 => h9) rfl dX0_carryOutNote_14 ?_
      refine lv_iload_n hx hb dX0_carryOutNote_17 rfl (lv_at hl 2 rfl) ?_
      refine lv_iload_n hx hb dX0_carryOutNote_18 rfl (lv_at hl 3 rfl) ?_
      refine lv_iadd hx hb dX0_carryOutNote_19 ?_
      rw [nI_add]
      refine va_iald (D := (dC, dI)) (i := (nI (b * 9 + i))) hx hb hK hP 3 0 rfl rfl (vp_in_nI (by omega) (by decide)) dX0_carryOutNote_20 ?_
      rw [show ((nI (b * 9 + i))).toNatClampNeg = b * 9 + i from nI_clamp (by omega)]
      refine lv_topi (fun x ex => ?_)
      have ex : x = oL τ (b * 9 + i) := ex
      refine lv_istore hx hb dX0_carryOutNote_21 hl (by decide) rfl (fun ls hl => ?_)
      have hl : lv_has ls 5 [(4, .int x), (0, .ref (A 0)), (1, .int (nI b)), (2, .int (nI (b * 9))), (3, .int (nI i))] := hl
      refine lv_iload hx hb dX0_carryOutNote_23 (lv_at hl 0 rfl) ?_
      refine ck0_namesWord hx hb hml hown hB hl.1  dX0_carryOutNote_25 (Nat.le_of_ble_eq_true rfl) (Nat.le_of_ble_eq_true rfl) ⟨Nat.zero_le _, Nat.zero_le _⟩ (Nat.le_of_ble_eq_true rfl) ?_
      refine lv_if_eq (tgt := 55) hx hb dX0_carryOutNote_28 rfl (fun h2 => ?_) (fun h2 => ?_)
      · skip
        refine lv_iinc (k := 4) (v := (nI (i + 1))) hx hb dX0_carryOutNote_55 hl rfl (nI_1 i) (by decide) rfl (fun ls hl => ?_)
        have hl : lv_has ls 5 [(3, .int (nI (i + 1))), (4, .int x), (0, .ref (A 0)), (1, .int (nI b)), (2, .int (nI (b * 9)))] := hl
        refine lv_goto (tgt := 7) hx hb dX0_carryOutNote_58 rfl ?_
        refine ih (i + 1) _ ls H locs (by omega) (lv_sub hl [2, 3, 4, 0] rfl) hP hD hS ?_
        rw [← hF]; exact (if_neg (by rw [← ex, bI_0.mp h2]; decide)).symm
      · skip
        have hnm : f_names x = true := bI_n0.mp h2
        obtain ⟨hw1, hw2⟩ := f_names_in hnm
        refine lv_aload_n hx hb dX0_carryOutNote_31 rfl (lv_at hl 1 rfl) ?_
        refine lv_iload hx hb dX0_carryOutNote_32 (lv_at hl 0 rfl) ?_
        refine ck0_keyOfLine hx hb hml hown hB hl.1  dX0_carryOutNote_34 (Nat.le_of_ble_eq_true rfl) (Nat.le_of_ble_eq_true rfl) ⟨Nat.zero_le _, Nat.zero_le _⟩ (Nat.le_of_ble_eq_true rfl) ?_
        refine lv_iload hx hb dX0_carryOutNote_37 (lv_at hl 0 rfl) ?_
        refine ck0_valueOfLine hx hb hml hown hB hl.1  dX0_carryOutNote_39 (Nat.le_of_ble_eq_true rfl) (Nat.le_of_ble_eq_true rfl) ⟨Nat.zero_le _, Nat.zero_le _⟩ (Nat.le_of_ble_eq_true rfl) ?_
        refine lv_iload hx hb dX0_carryOutNote_42 (lv_at hl 0 rfl) ?_
        refine ck0_wordOfLine hx hb hml hown hB hl.1  dX0_carryOutNote_44 (Nat.le_of_ble_eq_true rfl) (Nat.le_of_ble_eq_true rfl) ⟨Nat.zero_le _, Nat.zero_le _⟩ (Nat.le_of_ble_eq_true rfl) ?_
        rw [hw2]
        refine ck0_writePut hx hb hml hown hB hl.1 hP hK hD hS hA hw1 dX0_carryOutNote_47 (Nat.le_of_ble_eq_true rfl) (Nat.le_of_ble_eq_true rfl) ⟨Nat.zero_le _, Nat.zero_le _⟩ (Nat.le_of_ble_eq_true rfl) (fun H locs hP hD hS => ?_)
        refine lv_if_ne (tgt := 55) hx hb dX0_carryOutNote_50 rfl (fun h3 => ?_) (fun h3 => ?_)
        · skip
          refine lv_iinc (k := 4) (v := (nI (i + 1))) hx hb dX0_carryOutNote_55 hl rfl (nI_1 i) (by decide) rfl (fun ls hl => ?_)
          have hl : lv_has ls 5 [(3, .int (nI (i + 1))), (4, .int x), (0, .ref (A 0)), (1, .int (nI b)), (2, .int (nI (b * 9)))] := hl
          refine lv_goto (tgt := 7) hx hb dX0_carryOutNote_58 rfl ?_
          refine ih (i + 1) _ ls H locs (by omega) (lv_sub hl [2, 3, 4, 0] rfl) hP hD hS ?_
          rw [← hF, f_carL, ← ex, if_pos hnm, if_pos (bI_n0.mp h3)]
        · skip
          refine lv_iconst (v := 0) hx hb dX0_carryOutNote_53 (by decide) ?_
          exact W.zret (v := 0) hx hb hr (rfl) (fun t ht hW => ⟨⟨0, (f_put τ (f_lwN x) (f_lk x) (f_lv x)).2, rfl, ⟨by rw [← hF, f_carL, ← ex, if_pos hnm, if_neg (by rw [bI_0.mp h3]; decide)]; rfl, by rw [← hF, f_carL, ← ex, if_pos hnm, if_neg (by rw [bI_0.mp h3]; decide)]⟩, by rw [ht]; exact hP, va_K.moved hW.alike hK, hD⟩, hS.F ht⟩) hS.2.2 dX0_carryOutNote_54
  exact loop 8 0 σ ls s.heap [] rfl hl hP hD hS rfl
set_option maxRecDepth 100000 in
theorem ck0_carryOutNote {p : Program} {l : Launch} {e : Env} {R : Room} {s : State} {m : MethodId} {args : Array Value} {below : List Frame} {meth : Method} {c : Code} {H : Heap} {locs : List Loc} {cells slots : Nat} {Q : State → Prop} {cc : ByteArray} {nL pc : Nat} {ls : Array Slot} {rest : List Value} {A0 : Nat → Prop} {H0 : Heap} {dC : Nat → ClassId} {dI : Nat → Nat → Nat} {A : Nat → Nat} {cI : ClassId} {σ : OS} {b : Nat} (hx : p.tables.exec = Jvm.exec) (hb : c.code = cc) (hml : c.maxLocals = nL) (hown : s.vm.findClass RX0 = some m.cls) (hB : ∀ w ∈ bX0, w.before args s = true) (hsz : ls.size = nL) (hP : va_P (dC, dI) vwCl (wO A cI σ) H) (hK : va_K (dC, dI) vwCl [(cI, .int)] s) (hD : va_D A0 (wO A cI σ)) (hS : va_S A0 H0 H locs) (hA : ∀ q, H0.size ≤ q → A0 q) (hb40 : b < 40) (hd : decode cc pc = .ok (.invokevirtual 97, 3)) (hF : 4 ≤ R.frames) (hLo : 114 ≤ R.locals) (hc : cells ≤ R.cells ∧ slots ≤ R.slots) (hst : (rest.map fun v => v.category).sum ≤ 8)
    (kk : ∀ (H1 : Heap) (locs1 : List Loc), va_P (dC, dI) vwCl (wO A cI ((f_car σ b).2)) H1 → va_D A0 (wO A cI ((f_car σ b).2)) → va_S A0 H0 H1 locs1 → W p l e R s m args below meth c H1 locs1 cells slots Q (F0 m (pc + 3) ls (.int (bI (f_car σ b).1) :: rest))) : W p l e R s m args below meth c H locs cells slots Q (F0 m pc ls (.int (nI b) :: .ref (A 0) :: rest)) := by
  have hFc := va_free (wc := wO A cI σ) hD hS hA [0, 1, 2, 3, 4, 5, 6] rfl
  refine va_calli (va_runV (C := RX0) (As := [.int (nI b)]) (rest := rest) ⟨hx, hb, hml, hown, hB⟩ (cm0_carryOutNote l dC dI A cI σ H.size b hb40) (cwV 1 hB goX0_carryOutNote rfl rfl rfl ⟨rfl, by decide, by decide, by decide +kernel⟩ ⟨hF, hLo⟩) ⟨fun a U g mk q => by obtain ⟨q0, q1, qP, qK, qD⟩ := q; exact ⟨q0, q1, qP, va_K.moved (u := U) (U := U.calling g mk a) (Vm.Alike.refl U.vm) qK, qD⟩, va_recv (q := (RX0, TX0, 12)) hK hP rfl (q0 := 0) rfl, fun U hU hW => ⟨rfl, by rw [hU], by rw [hU]; exact hP, va_K.moved hW.alike hK, hD.weaken (fun _ _ _ _ => trivial)⟩⟩ rfl rfl hsz rfl (lv_room hst) hd hc) hS (fun q _ h => hFc q h) hFc (fun r u t H1 locs1 ht hvm hw hBu hz1 hk1 hS1 => ?_)
  obtain ⟨rfl, rfl⟩ := hw
  obtain ⟨hP1, hK1, hD1⟩ := hBu
  rw [ht] at hP1
  exact kk H1 locs1 hP1 (hD1.weaken (fun k q _ h => hFc q.1 h)) hS1
set_option maxHeartbeats 4000000 in
set_option maxRecDepth 100000 in
theorem cm0_planLines (l : Launch) (dC : Nat → ClassId) (dI : Nat → Nat → Nat) (A : Nat → Nat) (cI : ClassId) (σ : OS) (sz : Nat) (nb : Nat) (hnb : oBs σ = nI nb) (hnb8 : nb ≤ 8) : Met l yX0_planLines wsX0_planLines (rk 4) (va_Pc [.ref (A 0)] (oPre (dC, dI) A cI σ sz)) (va_Qi (fun r u => r = bI (f_plan σ nb).1 ∧ u = (f_plan σ nb).2) (oB (dC, dI) A cI (oX A cI σ sz)) (oX A cI σ sz)) 0 0 (oX A cI σ sz) := by
  refine Met.ofW (cc := cX0_planLines) (maxL := 5) (ret := (some .boolean)) (by decide) rfl ?_
  intro p e s m args below meth c s₁ B hml hv
  obtain ⟨rfl, hsz, hP, hK, hD0⟩ := hv
  have hx := B.exec
  have hb := B.bytes
  have hr := B.returns
  have hB : ∀ w ∈ bX0, w.before _ s = true := fun w h => atoms_spec (ws := wsX0_planLines) B.pre w (List.mem_cons_of_mem _ h)
  have hown : s.vm.findClass RX0 = some m.cls := findClass_of_methodNamed B.named
  have hlocks := B.notSynchronized
  subst hsz
  have hD : va_D (oX A cI σ s.heap.size) (wO A cI σ) := hD0.self (sz := s.heap.size)
  have hA : ∀ q : Nat, s.heap.size ≤ q → oX A cI σ s.heap.size q := fun q h => Or.inr h
  generalize oX A cI σ s.heap.size = AA at hD hA ⊢
  have hS : va_S AA s.heap s.heap [] := va_S.rf
  have hl := lv_entry ([.ref (A 0)]) (n := 5) (Nat.le_of_ble_eq_true rfl)
  rw [lg_entry_eq]
  generalize (lg_sl ([.ref (A 0)]) ++ List.replicate (5 - (lg_sl ([.ref (A 0)])).length) Slot.unset).toArray = ls at hl ⊢
  have hl : lv_has ls 5 [(0, .ref (A 0))] := hl
  refine lv_iconst (v := 0) hx hb dX0_planLines_0 (by decide) ?_
  refine lv_istore_n hx hb dX0_planLines_1 rfl hl (by decide) rfl (fun ls hl => ?_)
  have hl : lv_has ls 5 [(1, .int 0), (0, .ref (A 0))] := hl
  refine lv_iconst (v := 0) hx hb dX0_planLines_2 (by decide) ?_
  refine lv_istore_n hx hb dX0_planLines_3 rfl hl (by decide) rfl (fun ls hl => ?_)
  have hl : lv_has ls 5 [(2, .int 0), (1, .int 0), (0, .ref (A 0))] := hl
  have hl := lv_sub (l' := [(0, .ref (A 0)), (1, .int 0), (2, .int 0)]) hl [2, 1, 0] rfl
  have loop : ∀ (n i fr : Nat) (τ : OS) (ls : Array Slot) (H : Heap) (locs : List Loc), i + n = nb → fr ≤ 160 → oBs τ = nI nb → lv_has ls 5 [(0, .ref (A 0)), (1, .int (nI fr)), (2, .int (nI i))] → va_P (dC, dI) vwCl (wO A cI τ) H → va_D AA (wO A cI τ) → va_S AA s.heap H locs → f_planL n i fr τ = f_plan σ nb → W p l e (headSpec wsX0_planLines (rk 4)).room s m ([.ref (A 0)]).toArray below meth c H locs 0 0 (MQ below (va_Qi (fun r u => r = bI (f_plan σ nb).1 ∧ u = (f_plan σ nb).2) (oB (dC, dI) A cI AA) AA) ([.ref (A 0)]).toArray s 0 0 AA) (F0 m 4 ls []) := by
    intro n
    induction n with
    | zero =>
    intro i fr τ ls H locs hi hfr hbs hl hP hD hS hF
    have hi8 : i = nb := by omega
    subst hi8
    refine lv_iload_n hx hb dX0_planLines_4 rfl (lv_at hl 2 rfl) ?_
    refine lv_aload_n hx hb dX0_planLines_5 rfl (lv_at hl 0 rfl) ?_
    refine va_get (D := (dC, dI)) (ci := 0) (v := .int (oBs τ)) (C := RX0) (T := TX0) (N := 12) hx hb hB inX0 hown hK hP 0 rfl rfl 11 (by decide) (hB _ mX0_f_batchSize) (fun _ h9 => h9) rfl dX0_planLines_6 ?_
    rw [hbs]
    refine lv_icmp_ge (tgt := 79) hx hb dX0_planLines_9 rfl (fun h1 => ?_) (fun h1 => ?_)
    · skip
      refine lv_iconst (v := 1) hx hb dX0_planLines_79 (by decide) ?_
      exact W.zret (v := 1) hx hb hr (rfl) (fun t ht hW => ⟨⟨1, τ, rfl, ⟨by rw [← hF]; rfl, by rw [← hF]; rfl⟩, by rw [ht]; exact hP, va_K.moved hW.alike hK, hD⟩, hS.F ht⟩) hS.2.2 dX0_planLines_80
    · skip
      exact absurd (nI_le (Nat.le_refl _) (by omega)) h1
    | succ n ih =>
    intro i fr τ ls H locs hi hfr hbs hl hP hD hS hF
    refine lv_iload_n hx hb dX0_planLines_4 rfl (lv_at hl 2 rfl) ?_
    refine lv_aload_n hx hb dX0_planLines_5 rfl (lv_at hl 0 rfl) ?_
    refine va_get (D := (dC, dI)) (ci := 0) (v := .int (oBs τ)) (C := RX0) (T := TX0) (N := 12) hx hb hB inX0 hown hK hP 0 rfl rfl 11 (by decide) (hB _ mX0_f_batchSize) (fun _ h9 => h9) rfl dX0_planLines_6 ?_
    rw [hbs]
    refine lv_icmp_ge (tgt := 79) hx hb dX0_planLines_9 rfl (fun h1 => ?_) (fun h1 => ?_)
    · skip
      exact absurd h1 (nI_ge (by omega) (by omega))
    · skip
      refine lv_aload_n hx hb dX0_planLines_12 rfl (lv_at hl 0 rfl) ?_
      refine va_get (D := (dC, dI)) (ci := 0) (v := .ref (A 4)) (C := RX0) (T := TX0) (N := 12) hx hb hB inX0 hown hK hP 0 rfl rfl 7 (by decide) (hB _ mX0_f_stagedKeys) (fun _ h9 => h9) rfl dX0_planLines_13 ?_
      refine lv_iload_n hx hb dX0_planLines_16 rfl (lv_at hl 2 rfl) ?_
      refine va_iald (D := (dC, dI)) (i := (nI i)) hx hb hK hP 4 0 rfl rfl (vp_in_nI (by omega) (by decide)) dX0_planLines_17 ?_
      rw [show ((nI i)).toNatClampNeg = i from nI_clamp (by omega)]
      refine lv_istore_n hx hb dX0_planLines_18 rfl hl (by decide) rfl (fun ls hl => ?_)
      have hl : lv_has ls 5 [(3, .int ((oK τ) (i))), (0, .ref (A 0)), (1, .int (nI fr)), (2, .int (nI i))] := hl
      refine lv_aload_n hx hb dX0_planLines_19 rfl (lv_at hl 1 rfl) ?_
      refine lv_iload_n hx hb dX0_planLines_20 rfl (lv_at hl 0 rfl) ?_
      refine lv_aload_n hx hb dX0_planLines_21 rfl (lv_at hl 1 rfl) ?_
      refine va_get (D := (dC, dI)) (ci := 0) (v := .ref (A 5)) (C := RX0) (T := TX0) (N := 12) hx hb hB inX0 hown hK hP 0 rfl rfl 8 (by decide) (hB _ mX0_f_stagedValues) (fun _ h9 => h9) rfl dX0_planLines_22 ?_
      refine lv_iload_n hx hb dX0_planLines_25 rfl (lv_at hl 3 rfl) ?_
      refine va_iald (D := (dC, dI)) (i := (nI i)) hx hb hK hP 5 0 rfl rfl (vp_in_nI (by omega) (by decide)) dX0_planLines_26 ?_
      rw [show ((nI i)).toNatClampNeg = i from nI_clamp (by omega)]
      refine lv_iload_n hx hb dX0_planLines_27 rfl (lv_at hl 2 rfl) ?_
      refine ck0_wordThatTakes hx hb hml hown hB hl.1 hP hK hfr dX0_planLines_28 (Nat.le_of_ble_eq_true rfl) (Nat.le_of_ble_eq_true rfl) ⟨Nat.zero_le _, Nat.zero_le _⟩ (Nat.le_of_ble_eq_true rfl) ?_
      refine lv_istore hx hb dX0_planLines_31 hl (by decide) rfl (fun ls hl => ?_)
      have hl : lv_has ls 5 [(4, .int (f_tk τ i fr)), (3, .int ((oK τ) (i))), (0, .ref (A 0)), (1, .int (nI fr)), (2, .int (nI i))] := hl
      refine lv_iload hx hb dX0_planLines_33 (lv_at hl 0 rfl) ?_
      refine lv_iconst (v := (-1)) hx hb dX0_planLines_35 (by decide) ?_
      refine lv_icmp_ne (tgt := 41) hx hb dX0_planLines_36 rfl (fun h2 => ?_) (fun h2 => ?_)
      · skip
        obtain ⟨k, hk, ek⟩ : ∃ k, k < 160 ∧ f_tk τ i fr = nI k := (f_takes_in _ _ _ _ _ hfr).resolve_left h2
        have ekc : (f_tk τ i fr).toNatClampNeg = k := by rw [ek]; exact nI_clamp (by omega)
        rw [ek] at hl
        have hF2 : f_planL n (i + 1) (if f_fresh (oW τ) (oT τ) k = true then k + 1 else fr) (f_setP τ i (f_line (oK τ i) (oV τ i) (nI k))) = f_plan σ nb := by rw [← hF, f_planL, if_neg h2, ekc, ek]
        refine lv_aload_n hx hb dX0_planLines_41 rfl (lv_at hl 2 rfl) ?_
        refine lv_iload hx hb dX0_planLines_42 (lv_at hl 0 rfl) ?_
        refine ck0_isFresh hx hb hml hown hB hl.1 hP hK hk dX0_planLines_44 (Nat.le_of_ble_eq_true rfl) (Nat.le_of_ble_eq_true rfl) ⟨Nat.zero_le _, Nat.zero_le _⟩ (Nat.le_of_ble_eq_true rfl) ?_
        refine lv_if_eq (tgt := 55) hx hb dX0_planLines_47 rfl (fun h3 => ?_) (fun h3 => ?_)
        · skip
          rw [if_neg (by rw [bI_0.mp h3]; decide)] at hF2
          refine lv_aload_n hx hb dX0_planLines_55 rfl (lv_at hl 2 rfl) ?_
          refine va_get (D := (dC, dI)) (ci := 0) (v := .ref (A 6)) (C := RX0) (T := TX0) (N := 12) hx hb hB inX0 hown hK hP 0 rfl rfl 9 (by decide) (hB _ mX0_f_plannedLines) (fun _ h9 => h9) rfl dX0_planLines_56 ?_
          refine lv_iload_n hx hb dX0_planLines_59 rfl (lv_at hl 4 rfl) ?_
          refine lv_iload_n hx hb dX0_planLines_60 rfl (lv_at hl 1 rfl) ?_
          refine lv_aload_n hx hb dX0_planLines_61 rfl (lv_at hl 2 rfl) ?_
          refine va_get (D := (dC, dI)) (ci := 0) (v := .ref (A 5)) (C := RX0) (T := TX0) (N := 12) hx hb hB inX0 hown hK hP 0 rfl rfl 8 (by decide) (hB _ mX0_f_stagedValues) (fun _ h9 => h9) rfl dX0_planLines_62 ?_
          refine lv_iload_n hx hb dX0_planLines_65 rfl (lv_at hl 4 rfl) ?_
          refine va_iald (D := (dC, dI)) (i := (nI i)) hx hb hK hP 5 0 rfl rfl (vp_in_nI (by omega) (by decide)) dX0_planLines_66 ?_
          rw [show ((nI i)).toNatClampNeg = i from nI_clamp (by omega)]
          refine lv_iload hx hb dX0_planLines_67 (lv_at hl 0 rfl) ?_
          refine ck0_lineFor hx hb hml hown hB hl.1  dX0_planLines_69 (Nat.le_of_ble_eq_true rfl) (Nat.le_of_ble_eq_true rfl) ⟨Nat.zero_le _, Nat.zero_le _⟩ (Nat.le_of_ble_eq_true rfl) ?_
          refine va_iast (D := (dC, dI)) (i := (nI i)) (x := (f_line (oK τ i) (oV τ i) (nI k))) hx hb hK hP hD hS 6 0 rfl rfl (vp_in_nI (by omega) (by decide)) dX0_planLines_72 (fun H locs hP hD hS => ?_)
          rw [show ((nI i)).toNatClampNeg = i from nI_clamp (by omega)] at hP hD
          have hP : va_P (dC, dI) vwCl (wO A cI (mkO (oW τ) (oT τ) (oL τ) (oSet τ) (oWr τ) (oOn τ) (oUn τ) (oK τ) (oV τ) (upd (oP τ) (i) ((f_line (oK τ i) (oV τ i) (nI k)))) (oBo τ) (oBs τ))) H := hP
          have hD : va_D AA (wO A cI (mkO (oW τ) (oT τ) (oL τ) (oSet τ) (oWr τ) (oOn τ) (oUn τ) (oK τ) (oV τ) (upd (oP τ) (i) ((f_line (oK τ i) (oV τ i) (nI k)))) (oBo τ) (oBs τ))) := hD
          refine lv_iinc (k := 4) (v := (nI (i + 1))) hx hb dX0_planLines_73 hl rfl (nI_1 i) (by decide) rfl (fun ls hl => ?_)
          have hl : lv_has ls 5 [(2, .int (nI (i + 1))), (4, .int (nI k)), (3, .int ((oK τ) (i))), (0, .ref (A 0)), (1, .int (nI fr))] := hl
          refine lv_goto (tgt := 4) hx hb dX0_planLines_76 rfl ?_
          exact ih (i + 1) fr (f_setP τ i (f_line (oK τ i) (oV τ i) (nI k))) ls H locs (by omega) hfr hbs (lv_sub hl [3, 4, 0] rfl) hP hD hS hF2
        · skip
          rw [if_pos (bI_n0.mp h3)] at hF2
          refine lv_iload hx hb dX0_planLines_50 (lv_at hl 0 rfl) ?_
          refine lv_iconst (v := 1) hx hb dX0_planLines_52 (by decide) ?_
          refine lv_iadd hx hb dX0_planLines_53 ?_
          rw [nI_1]
          refine lv_istore_n hx hb dX0_planLines_54 rfl hl (by decide) rfl (fun ls hl => ?_)
          have hl : lv_has ls 5 [(1, .int (nI (k + 1))), (4, .int (nI k)), (3, .int ((oK τ) (i))), (0, .ref (A 0)), (2, .int (nI i))] := hl
          refine lv_aload_n hx hb dX0_planLines_55 rfl (lv_at hl 3 rfl) ?_
          refine va_get (D := (dC, dI)) (ci := 0) (v := .ref (A 6)) (C := RX0) (T := TX0) (N := 12) hx hb hB inX0 hown hK hP 0 rfl rfl 9 (by decide) (hB _ mX0_f_plannedLines) (fun _ h9 => h9) rfl dX0_planLines_56 ?_
          refine lv_iload_n hx hb dX0_planLines_59 rfl (lv_at hl 4 rfl) ?_
          refine lv_iload_n hx hb dX0_planLines_60 rfl (lv_at hl 2 rfl) ?_
          refine lv_aload_n hx hb dX0_planLines_61 rfl (lv_at hl 3 rfl) ?_
          refine va_get (D := (dC, dI)) (ci := 0) (v := .ref (A 5)) (C := RX0) (T := TX0) (N := 12) hx hb hB inX0 hown hK hP 0 rfl rfl 8 (by decide) (hB _ mX0_f_stagedValues) (fun _ h9 => h9) rfl dX0_planLines_62 ?_
          refine lv_iload_n hx hb dX0_planLines_65 rfl (lv_at hl 4 rfl) ?_
          refine va_iald (D := (dC, dI)) (i := (nI i)) hx hb hK hP 5 0 rfl rfl (vp_in_nI (by omega) (by decide)) dX0_planLines_66 ?_
          rw [show ((nI i)).toNatClampNeg = i from nI_clamp (by omega)]
          refine lv_iload hx hb dX0_planLines_67 (lv_at hl 1 rfl) ?_
          refine ck0_lineFor hx hb hml hown hB hl.1  dX0_planLines_69 (Nat.le_of_ble_eq_true rfl) (Nat.le_of_ble_eq_true rfl) ⟨Nat.zero_le _, Nat.zero_le _⟩ (Nat.le_of_ble_eq_true rfl) ?_
          refine va_iast (D := (dC, dI)) (i := (nI i)) (x := (f_line (oK τ i) (oV τ i) (nI k))) hx hb hK hP hD hS 6 0 rfl rfl (vp_in_nI (by omega) (by decide)) dX0_planLines_72 (fun H locs hP hD hS => ?_)
          rw [show ((nI i)).toNatClampNeg = i from nI_clamp (by omega)] at hP hD
          have hP : va_P (dC, dI) vwCl (wO A cI (mkO (oW τ) (oT τ) (oL τ) (oSet τ) (oWr τ) (oOn τ) (oUn τ) (oK τ) (oV τ) (upd (oP τ) (i) ((f_line (oK τ i) (oV τ i) (nI k)))) (oBo τ) (oBs τ))) H := hP
          have hD : va_D AA (wO A cI (mkO (oW τ) (oT τ) (oL τ) (oSet τ) (oWr τ) (oOn τ) (oUn τ) (oK τ) (oV τ) (upd (oP τ) (i) ((f_line (oK τ i) (oV τ i) (nI k)))) (oBo τ) (oBs τ))) := hD
          refine lv_iinc (k := 4) (v := (nI (i + 1))) hx hb dX0_planLines_73 hl rfl (nI_1 i) (by decide) rfl (fun ls hl => ?_)
          have hl : lv_has ls 5 [(2, .int (nI (i + 1))), (1, .int (nI (k + 1))), (4, .int (nI k)), (3, .int ((oK τ) (i))), (0, .ref (A 0))] := hl
          refine lv_goto (tgt := 4) hx hb dX0_planLines_76 rfl ?_
          exact ih (i + 1) (k + 1) (f_setP τ i (f_line (oK τ i) (oV τ i) (nI k))) ls H locs (by omega) (by omega) hbs (lv_sub hl [4, 1, 0] rfl) hP hD hS hF2
      · skip
        refine lv_iconst (v := 0) hx hb dX0_planLines_39 (by decide) ?_
        exact W.zret (v := 0) hx hb hr (rfl) (fun t ht hW => ⟨⟨0, τ, rfl, ⟨by rw [← hF, f_planL, if_pos h2]; rfl, by rw [← hF, f_planL, if_pos h2]⟩, by rw [ht]; exact hP, va_K.moved hW.alike hK, hD⟩, hS.F ht⟩) hS.2.2 dX0_planLines_40
  exact loop nb 0 0 σ ls s.heap [] (by omega) (by omega) hnb hl hP hD hS rfl
set_option maxRecDepth 100000 in
theorem ck0_planLines {p : Program} {l : Launch} {e : Env} {R : Room} {s : State} {m : MethodId} {args : Array Value} {below : List Frame} {meth : Method} {c : Code} {H : Heap} {locs : List Loc} {cells slots : Nat} {Q : State → Prop} {cc : ByteArray} {nL pc : Nat} {ls : Array Slot} {rest : List Value} {A0 : Nat → Prop} {H0 : Heap} {dC : Nat → ClassId} {dI : Nat → Nat → Nat} {A : Nat → Nat} {cI : ClassId} {σ : OS} {nb : Nat} (hx : p.tables.exec = Jvm.exec) (hb : c.code = cc) (hml : c.maxLocals = nL) (hown : s.vm.findClass RX0 = some m.cls) (hB : ∀ w ∈ bX0, w.before args s = true) (hsz : ls.size = nL) (hP : va_P (dC, dI) vwCl (wO A cI σ) H) (hK : va_K (dC, dI) vwCl [(cI, .int)] s) (hD : va_D A0 (wO A cI σ)) (hS : va_S A0 H0 H locs) (hA : ∀ q, H0.size ≤ q → A0 q) (hnb : oBs σ = nI nb) (hnb8 : nb ≤ 8) (hd : decode cc pc = .ok (.invokevirtual 90, 3)) (hF : 5 ≤ R.frames) (hLo : 144 ≤ R.locals) (hc : cells ≤ R.cells ∧ slots ≤ R.slots) (hst : (rest.map fun v => v.category).sum ≤ 8)
    (kk : ∀ (H1 : Heap) (locs1 : List Loc), va_P (dC, dI) vwCl (wO A cI ((f_plan σ nb).2)) H1 → va_D A0 (wO A cI ((f_plan σ nb).2)) → va_S A0 H0 H1 locs1 → W p l e R s m args below meth c H1 locs1 cells slots Q (F0 m (pc + 3) ls (.int (bI (f_plan σ nb).1) :: rest))) : W p l e R s m args below meth c H locs cells slots Q (F0 m pc ls (.ref (A 0) :: rest)) := by
  have hFc := va_free (wc := wO A cI σ) hD hS hA [0, 1, 2, 3, 4, 5, 6] rfl
  refine va_calli (va_runV (C := RX0) (As := []) (rest := rest) ⟨hx, hb, hml, hown, hB⟩ (cm0_planLines l dC dI A cI σ H.size nb hnb hnb8) (cwV 0 hB goX0_planLines rfl rfl rfl ⟨rfl, by decide, by decide, by decide +kernel⟩ ⟨hF, hLo⟩) ⟨fun a U g mk q => by obtain ⟨q0, q1, qP, qK, qD⟩ := q; exact ⟨q0, q1, qP, va_K.moved (u := U) (U := U.calling g mk a) (Vm.Alike.refl U.vm) qK, qD⟩, va_recv (q := (RX0, TX0, 12)) hK hP rfl (q0 := 0) rfl, fun U hU hW => ⟨rfl, by rw [hU], by rw [hU]; exact hP, va_K.moved hW.alike hK, hD.weaken (fun _ _ _ _ => trivial)⟩⟩ rfl rfl hsz rfl (lv_room hst) hd hc) hS (fun q _ h => hFc q h) hFc (fun r u t H1 locs1 ht hvm hw hBu hz1 hk1 hS1 => ?_)
  obtain ⟨rfl, rfl⟩ := hw
  obtain ⟨hP1, hK1, hD1⟩ := hBu
  rw [ht] at hP1
  exact kk H1 locs1 hP1 (hD1.weaken (fun k q _ h => hFc q.1 h)) hS1
