set_option maxHeartbeats 4000000 in
set_option maxRecDepth 100000 in
theorem cm0_isBelow (l : Launch) (n : Int32) (b : Int32) : Met l yX0_isBelow wsX0_isBelow (rk 0) (va_Pc [.int n, .int b] (fun U => True)) (QcRead (bI (f_below n b))) 0 0 (fun _ => False) := by
  refine Met.ofW (cc := cX0_isBelow) (maxL := 2) (ret := (some .boolean)) (by decide) rfl ?_
  intro p e s m args below meth c s₁ B hml hv
  obtain ⟨rfl, -⟩ := hv
  have hx := B.exec
  have hb := B.bytes
  have hr := B.returns
  have hB : ∀ w ∈ bX0, w.before _ s = true := fun w h => atoms_spec (ws := wsX0_isBelow) B.pre w (List.mem_cons_of_mem _ h)
  have hown : s.vm.findClass RX0 = some m.cls := findClass_of_methodNamed B.named
  have hlocks := B.notSynchronized
  have hl := lv_entry ([.int n, .int b]) (n := 2) (Nat.le_of_ble_eq_true rfl)
  rw [lg_entry_eq]
  generalize (lg_sl ([.int n, .int b]) ++ List.replicate (2 - (lg_sl ([.int n, .int b])).length) Slot.unset).toArray = ls at hl ⊢
  have hl : lv_has ls 2 [(0, .int n), (1, .int b)] := hl
  refine lv_iload_n hx hb dX0_isBelow_0 rfl (lv_at hl 0 rfl) ?_
  refine lv_if_lt (tgt := 13) hx hb dX0_isBelow_1 rfl (fun h1 => ?_) (fun h1 => ?_)
  · skip
    refine lv_iconst (v := 0) hx hb dX0_isBelow_13 (by decide) ?_
    exact W.zret (v := 0) hx hb hr (rfl) (fun t ht _ => ⟨congrArg (fun z => Outcome.returned (some (Value.int z))) (by simp [f_below, bI, h1]), ht⟩) (fun q h => by cases h) dX0_isBelow_14
  · skip
    refine lv_iload_n hx hb dX0_isBelow_4 rfl (lv_at hl 0 rfl) ?_
    refine lv_iload_n hx hb dX0_isBelow_5 rfl (lv_at hl 1 rfl) ?_
    refine lv_icmp_ge (tgt := 13) hx hb dX0_isBelow_6 rfl (fun h2 => ?_) (fun h2 => ?_)
    · skip
      refine lv_iconst (v := 0) hx hb dX0_isBelow_13 (by decide) ?_
      exact W.zret (v := 0) hx hb hr (rfl) (fun t ht _ => ⟨congrArg (fun z => Outcome.returned (some (Value.int z))) (by simp [f_below, bI, h2]), ht⟩) (fun q h => by cases h) dX0_isBelow_14
    · skip
      refine lv_iconst (v := 1) hx hb dX0_isBelow_9 (by decide) ?_
      refine lv_goto (tgt := 14) hx hb dX0_isBelow_10 rfl ?_
      exact W.zret (v := 1) hx hb hr (rfl) (fun t ht _ => ⟨congrArg (fun z => Outcome.returned (some (Value.int z))) (by simp [f_below, bI, h1, h2]), ht⟩) (fun q h => by cases h) dX0_isBelow_14
set_option maxRecDepth 100000 in
theorem ck0_isBelow {p : Program} {l : Launch} {e : Env} {R : Room} {s : State} {m : MethodId} {args : Array Value} {below : List Frame} {meth : Method} {c : Code} {H : Heap} {locs : List Loc} {cells slots : Nat} {Q : State → Prop} {cc : ByteArray} {nL pc : Nat} {ls : Array Slot} {rest : List Value} {n : Int32} {b : Int32} (hx : p.tables.exec = Jvm.exec) (hb : c.code = cc) (hml : c.maxLocals = nL) (hown : s.vm.findClass RX0 = some m.cls) (hB : ∀ w ∈ bX0, w.before args s = true) (hsz : ls.size = nL)   (hd : decode cc pc = .ok (.invokestatic 106, 3)) (hF : 1 ≤ R.frames) (hLo : 21 ≤ R.locals) (hc : cells ≤ R.cells ∧ slots ≤ R.slots) (hst : (rest.map fun v => v.category).sum ≤ 8)
    (kk : W p l e R s m args below meth c H locs cells slots Q (F0 m (pc + 3) ls (.int (bI (f_below n b)) :: rest))) : W p l e R s m args below meth c H locs cells slots Q (F0 m pc ls (.int b :: .int n :: rest)) := by
  refine W.callR (W.runS (As := [.int n, .int b]) (rest := rest) ⟨hx, hb, hml, hown, hB⟩ (cm0_isBelow l n b) (cwS 2 hB goX0_isBelow rfl rfl rfl ⟨rfl, by decide, by decide, by decide +kernel⟩ ⟨hF, hLo⟩) ⟨fun _ _ _ _ q => q, fun _ _ _ => ⟨rfl, trivial⟩⟩ rfl rfl hsz rfl (lv_room hst) hd hc) kk
set_option maxHeartbeats 4000000 in
set_option maxRecDepth 100000 in
theorem cm0_isKey (l : Launch) (n : Int32) : Met l yX0_isKey wsX0_isKey (rk 1) (va_Pc [.int n] (fun U => True)) (QcRead (bI (f_below n 64))) 0 0 (fun _ => False) := by
  refine Met.ofW (cc := cX0_isKey) (maxL := 1) (ret := (some .boolean)) (by decide) rfl ?_
  intro p e s m args below meth c s₁ B hml hv
  obtain ⟨rfl, -⟩ := hv
  have hx := B.exec
  have hb := B.bytes
  have hr := B.returns
  have hB : ∀ w ∈ bX0, w.before _ s = true := fun w h => atoms_spec (ws := wsX0_isKey) B.pre w (List.mem_cons_of_mem _ h)
  have hown : s.vm.findClass RX0 = some m.cls := findClass_of_methodNamed B.named
  have hlocks := B.notSynchronized
  have hl := lv_entry ([.int n]) (n := 1) (Nat.le_of_ble_eq_true rfl)
  rw [lg_entry_eq]
  generalize (lg_sl ([.int n]) ++ List.replicate (1 - (lg_sl ([.int n])).length) Slot.unset).toArray = ls at hl ⊢
  have hl : lv_has ls 1 [(0, .int n)] := hl
  refine lv_iload_n hx hb dX0_isKey_0 rfl (lv_at hl 0 rfl) ?_
  refine lv_bipush (v := 64) hx hb dX0_isKey_1 (by decide) ?_
  refine ck0_isBelow hx hb hml hown hB hl.1  dX0_isKey_3 (Nat.le_of_ble_eq_true rfl) (Nat.le_of_ble_eq_true rfl) ⟨Nat.zero_le _, Nat.zero_le _⟩ (Nat.le_of_ble_eq_true rfl) ?_
  exact W.zret (v := (bI (f_below n 64))) hx hb hr (bI_nar _) (fun t ht _ => ⟨congrArg (fun z => Outcome.returned (some (Value.int z))) (rfl), ht⟩) (fun q h => by cases h) dX0_isKey_6
set_option maxRecDepth 100000 in
theorem ck0_isKey {p : Program} {l : Launch} {e : Env} {R : Room} {s : State} {m : MethodId} {args : Array Value} {below : List Frame} {meth : Method} {c : Code} {H : Heap} {locs : List Loc} {cells slots : Nat} {Q : State → Prop} {cc : ByteArray} {nL pc : Nat} {ls : Array Slot} {rest : List Value} {n : Int32} (hx : p.tables.exec = Jvm.exec) (hb : c.code = cc) (hml : c.maxLocals = nL) (hown : s.vm.findClass RX0 = some m.cls) (hB : ∀ w ∈ bX0, w.before args s = true) (hsz : ls.size = nL)   (hd : decode cc pc = .ok (.invokestatic 48, 3)) (hF : 2 ≤ R.frames) (hLo : 50 ≤ R.locals) (hc : cells ≤ R.cells ∧ slots ≤ R.slots) (hst : (rest.map fun v => v.category).sum ≤ 8)
    (kk : W p l e R s m args below meth c H locs cells slots Q (F0 m (pc + 3) ls (.int (bI (f_below n 64)) :: rest))) : W p l e R s m args below meth c H locs cells slots Q (F0 m pc ls (.int n :: rest)) := by
  refine W.callR (W.runS (As := [.int n]) (rest := rest) ⟨hx, hb, hml, hown, hB⟩ (cm0_isKey l n) (cwS 1 hB goX0_isKey rfl rfl rfl ⟨rfl, by decide, by decide, by decide +kernel⟩ ⟨hF, hLo⟩) ⟨fun _ _ _ _ q => q, fun _ _ _ => ⟨rfl, trivial⟩⟩ rfl rfl hsz rfl (lv_room hst) hd hc) kk
set_option maxHeartbeats 4000000 in
set_option maxRecDepth 100000 in
theorem cm0_isValue (l : Launch) (n : Int32) : Met l yX0_isValue wsX0_isValue (rk 1) (va_Pc [.int n] (fun U => True)) (QcRead (bI (f_below n 65536))) 0 0 (fun _ => False) := by
  refine Met.ofW (cc := cX0_isValue) (maxL := 1) (ret := (some .boolean)) (by decide) rfl ?_
  intro p e s m args below meth c s₁ B hml hv
  obtain ⟨rfl, -⟩ := hv
  have hx := B.exec
  have hb := B.bytes
  have hr := B.returns
  have hB : ∀ w ∈ bX0, w.before _ s = true := fun w h => atoms_spec (ws := wsX0_isValue) B.pre w (List.mem_cons_of_mem _ h)
  have hown : s.vm.findClass RX0 = some m.cls := findClass_of_methodNamed B.named
  have hlocks := B.notSynchronized
  have hl := lv_entry ([.int n]) (n := 1) (Nat.le_of_ble_eq_true rfl)
  rw [lg_entry_eq]
  generalize (lg_sl ([.int n]) ++ List.replicate (1 - (lg_sl ([.int n])).length) Slot.unset).toArray = ls at hl ⊢
  have hl : lv_has ls 1 [(0, .int n)] := hl
  refine lv_iload_n hx hb dX0_isValue_0 rfl (lv_at hl 0 rfl) ?_
  refine lv_ldc (v := 65536) hx hb hown (hB _ mX0_k_122) dX0_isValue_1 ?_
  refine ck0_isBelow hx hb hml hown hB hl.1  dX0_isValue_3 (Nat.le_of_ble_eq_true rfl) (Nat.le_of_ble_eq_true rfl) ⟨Nat.zero_le _, Nat.zero_le _⟩ (Nat.le_of_ble_eq_true rfl) ?_
  exact W.zret (v := (bI (f_below n 65536))) hx hb hr (bI_nar _) (fun t ht _ => ⟨congrArg (fun z => Outcome.returned (some (Value.int z))) (rfl), ht⟩) (fun q h => by cases h) dX0_isValue_6
set_option maxRecDepth 100000 in
theorem ck0_isValue {p : Program} {l : Launch} {e : Env} {R : Room} {s : State} {m : MethodId} {args : Array Value} {below : List Frame} {meth : Method} {c : Code} {H : Heap} {locs : List Loc} {cells slots : Nat} {Q : State → Prop} {cc : ByteArray} {nL pc : Nat} {ls : Array Slot} {rest : List Value} {n : Int32} (hx : p.tables.exec = Jvm.exec) (hb : c.code = cc) (hml : c.maxLocals = nL) (hown : s.vm.findClass RX0 = some m.cls) (hB : ∀ w ∈ bX0, w.before args s = true) (hsz : ls.size = nL)   (hd : decode cc pc = .ok (.invokestatic 52, 3)) (hF : 2 ≤ R.frames) (hLo : 50 ≤ R.locals) (hc : cells ≤ R.cells ∧ slots ≤ R.slots) (hst : (rest.map fun v => v.category).sum ≤ 8)
    (kk : W p l e R s m args below meth c H locs cells slots Q (F0 m (pc + 3) ls (.int (bI (f_below n 65536)) :: rest))) : W p l e R s m args below meth c H locs cells slots Q (F0 m pc ls (.int n :: rest)) := by
  refine W.callR (W.runS (As := [.int n]) (rest := rest) ⟨hx, hb, hml, hown, hB⟩ (cm0_isValue l n) (cwS 1 hB goX0_isValue rfl rfl rfl ⟨rfl, by decide, by decide, by decide +kernel⟩ ⟨hF, hLo⟩) ⟨fun _ _ _ _ q => q, fun _ _ _ => ⟨rfl, trivial⟩⟩ rfl rfl hsz rfl (lv_room hst) hd hc) kk
set_option maxHeartbeats 4000000 in
set_option maxRecDepth 100000 in
theorem cm0_tagOf (l : Launch) (n : Int32) : Met l yX0_tagOf wsX0_tagOf (rk 0) (va_Pc [.int n] (fun U => True)) (QcRead (n + 128)) 0 0 (fun _ => False) := by
  refine Met.ofW (cc := cX0_tagOf) (maxL := 1) (ret := (some .int)) (by decide) rfl ?_
  intro p e s m args below meth c s₁ B hml hv
  obtain ⟨rfl, -⟩ := hv
  have hx := B.exec
  have hb := B.bytes
  have hr := B.returns
  have hB : ∀ w ∈ bX0, w.before _ s = true := fun w h => atoms_spec (ws := wsX0_tagOf) B.pre w (List.mem_cons_of_mem _ h)
  have hown : s.vm.findClass RX0 = some m.cls := findClass_of_methodNamed B.named
  have hlocks := B.notSynchronized
  have hl := lv_entry ([.int n]) (n := 1) (Nat.le_of_ble_eq_true rfl)
  rw [lg_entry_eq]
  generalize (lg_sl ([.int n]) ++ List.replicate (1 - (lg_sl ([.int n])).length) Slot.unset).toArray = ls at hl ⊢
  have hl : lv_has ls 1 [(0, .int n)] := hl
  refine lv_iload_n hx hb dX0_tagOf_0 rfl (lv_at hl 0 rfl) ?_
  refine lv_sipush (v := 128) hx hb dX0_tagOf_1 (by decide) ?_
  refine lv_iadd hx hb dX0_tagOf_4 ?_
  exact W.iret (v := (n + 128)) hx hb hr (fun t ht _ => ⟨congrArg (fun z => Outcome.returned (some (Value.int z))) (rfl), ht⟩) (fun q h => by cases h) dX0_tagOf_5
set_option maxRecDepth 100000 in
theorem ck0_tagOf {p : Program} {l : Launch} {e : Env} {R : Room} {s : State} {m : MethodId} {args : Array Value} {below : List Frame} {meth : Method} {c : Code} {H : Heap} {locs : List Loc} {cells slots : Nat} {Q : State → Prop} {cc : ByteArray} {nL pc : Nat} {ls : Array Slot} {rest : List Value} {n : Int32} (hx : p.tables.exec = Jvm.exec) (hb : c.code = cc) (hml : c.maxLocals = nL) (hown : s.vm.findClass RX0 = some m.cls) (hB : ∀ w ∈ bX0, w.before args s = true) (hsz : ls.size = nL)   (hd : decode cc pc = .ok (.invokestatic 137, 3)) (hF : 1 ≤ R.frames) (hLo : 20 ≤ R.locals) (hc : cells ≤ R.cells ∧ slots ≤ R.slots) (hst : (rest.map fun v => v.category).sum ≤ 8)
    (kk : W p l e R s m args below meth c H locs cells slots Q (F0 m (pc + 3) ls (.int (n + 128) :: rest))) : W p l e R s m args below meth c H locs cells slots Q (F0 m pc ls (.int n :: rest)) := by
  refine W.callR (W.runS (As := [.int n]) (rest := rest) ⟨hx, hb, hml, hown, hB⟩ (cm0_tagOf l n) (cwS 1 hB goX0_tagOf rfl rfl rfl ⟨rfl, by decide, by decide, by decide +kernel⟩ ⟨hF, hLo⟩) ⟨fun _ _ _ _ q => q, fun _ _ _ => ⟨rfl, trivial⟩⟩ rfl rfl hsz rfl (lv_room hst) hd hc) kk
set_option maxHeartbeats 4000000 in
set_option maxRecDepth 100000 in
theorem cm6_bitCount (l : Launch) (n : Int32) : Met l yJ6_bitCount_0f7a4 wsJ6_bc (rk 0) (va_Pc [.int n] (fun U => True)) (QcRead (f_bc n)) 0 0 (fun _ => False) := by
  refine Met.ofW (cc := cJ6_bitCount_0f7a4) (maxL := 1) (ret := (some .int)) (by decide) rfl ?_
  intro p e s m args below meth c s₁ B hml hv
  obtain ⟨rfl, -⟩ := hv
  have hx := B.exec
  have hb := B.bytes
  have hr := B.returns
  have hB := atoms_spec (ws := wsJ6_bc) B.pre
  have hown : s.vm.findClass RJ6 = some m.cls := findClass_of_methodNamed B.named
  have hlocks := B.notSynchronized
  have hl := lv_entry ([.int n]) (n := 1) (Nat.le_of_ble_eq_true rfl)
  rw [lg_entry_eq]
  generalize (lg_sl ([.int n]) ++ List.replicate (1 - (lg_sl ([.int n])).length) Slot.unset).toArray = ls at hl ⊢
  have hl : lv_has ls 1 [(0, .int n)] := hl
  refine lv_iload_n hx hb dJ6_bitCount_0f7a4_0 rfl (lv_at hl 0 rfl) ?_
  refine lv_iload_n hx hb dJ6_bitCount_0f7a4_1 rfl (lv_at hl 0 rfl) ?_
  refine lv_iconst (v := 1) hx hb dJ6_bitCount_0f7a4_2 (by decide) ?_
  refine lv_iushr (v := uS n 1) hx hb dJ6_bitCount_0f7a4_3 rfl ?_
  refine lv_ldcw (v := 1431655765) hx hb hown (hB (.constant RJ6 265 (1431655765)) (by decide +kernel)) dJ6_bitCount_0f7a4_4 ?_
  refine lv_iand hx hb dJ6_bitCount_0f7a4_7 ?_
  refine lv_isub hx hb dJ6_bitCount_0f7a4_8 ?_
  refine lv_topi (fun x1 e1 => ?_)
  refine lv_istore_n hx hb dJ6_bitCount_0f7a4_9 rfl hl (by decide) rfl (fun ls hl => ?_)
  have hl : lv_has ls 1 [(0, .int x1)] := hl
  refine lv_iload_n hx hb dJ6_bitCount_0f7a4_10 rfl (lv_at hl 0 rfl) ?_
  refine lv_ldcw (v := 858993459) hx hb hown (hB (.constant RJ6 266 (858993459)) (by decide +kernel)) dJ6_bitCount_0f7a4_11 ?_
  refine lv_iand hx hb dJ6_bitCount_0f7a4_14 ?_
  refine lv_iload_n hx hb dJ6_bitCount_0f7a4_15 rfl (lv_at hl 0 rfl) ?_
  refine lv_iconst (v := 2) hx hb dJ6_bitCount_0f7a4_16 (by decide) ?_
  refine lv_iushr (v := uS x1 2) hx hb dJ6_bitCount_0f7a4_17 rfl ?_
  refine lv_ldcw (v := 858993459) hx hb hown (hB (.constant RJ6 266 (858993459)) (by decide +kernel)) dJ6_bitCount_0f7a4_18 ?_
  refine lv_iand hx hb dJ6_bitCount_0f7a4_21 ?_
  refine lv_iadd hx hb dJ6_bitCount_0f7a4_22 ?_
  refine lv_topi (fun x2 e2 => ?_)
  refine lv_istore_n hx hb dJ6_bitCount_0f7a4_23 rfl hl (by decide) rfl (fun ls hl => ?_)
  have hl : lv_has ls 1 [(0, .int x2)] := hl
  refine lv_iload_n hx hb dJ6_bitCount_0f7a4_24 rfl (lv_at hl 0 rfl) ?_
  refine lv_iload_n hx hb dJ6_bitCount_0f7a4_25 rfl (lv_at hl 0 rfl) ?_
  refine lv_iconst (v := 4) hx hb dJ6_bitCount_0f7a4_26 (by decide) ?_
  refine lv_iushr (v := uS x2 4) hx hb dJ6_bitCount_0f7a4_27 rfl ?_
  refine lv_iadd hx hb dJ6_bitCount_0f7a4_28 ?_
  refine lv_ldcw (v := 252645135) hx hb hown (hB (.constant RJ6 267 (252645135)) (by decide +kernel)) dJ6_bitCount_0f7a4_29 ?_
  refine lv_iand hx hb dJ6_bitCount_0f7a4_32 ?_
  refine lv_topi (fun x3 e3 => ?_)
  refine lv_istore_n hx hb dJ6_bitCount_0f7a4_33 rfl hl (by decide) rfl (fun ls hl => ?_)
  have hl : lv_has ls 1 [(0, .int x3)] := hl
  refine lv_iload_n hx hb dJ6_bitCount_0f7a4_34 rfl (lv_at hl 0 rfl) ?_
  refine lv_iload_n hx hb dJ6_bitCount_0f7a4_35 rfl (lv_at hl 0 rfl) ?_
  refine lv_bipush (v := 8) hx hb dJ6_bitCount_0f7a4_36 (by decide) ?_
  refine lv_iushr (v := uS x3 8) hx hb dJ6_bitCount_0f7a4_38 rfl ?_
  refine lv_iadd hx hb dJ6_bitCount_0f7a4_39 ?_
  refine lv_topi (fun x4 e4 => ?_)
  refine lv_istore_n hx hb dJ6_bitCount_0f7a4_40 rfl hl (by decide) rfl (fun ls hl => ?_)
  have hl : lv_has ls 1 [(0, .int x4)] := hl
  refine lv_iload_n hx hb dJ6_bitCount_0f7a4_41 rfl (lv_at hl 0 rfl) ?_
  refine lv_iload_n hx hb dJ6_bitCount_0f7a4_42 rfl (lv_at hl 0 rfl) ?_
  refine lv_bipush (v := 16) hx hb dJ6_bitCount_0f7a4_43 (by decide) ?_
  refine lv_iushr (v := uS x4 16) hx hb dJ6_bitCount_0f7a4_45 rfl ?_
  refine lv_iadd hx hb dJ6_bitCount_0f7a4_46 ?_
  refine lv_topi (fun x5 e5 => ?_)
  refine lv_istore_n hx hb dJ6_bitCount_0f7a4_47 rfl hl (by decide) rfl (fun ls hl => ?_)
  have hl : lv_has ls 1 [(0, .int x5)] := hl
  refine lv_iload_n hx hb dJ6_bitCount_0f7a4_48 rfl (lv_at hl 0 rfl) ?_
  refine lv_bipush (v := 63) hx hb dJ6_bitCount_0f7a4_49 (by decide) ?_
  refine lv_iand hx hb dJ6_bitCount_0f7a4_51 ?_
  exact W.iret (v := (x5 &&& 63)) hx hb hr (fun t ht _ => ⟨congrArg (fun z => Outcome.returned (some (Value.int z))) (by rw [e5, e4, e3, e2, e1]; rfl), ht⟩) (fun q h => by cases h) dJ6_bitCount_0f7a4_52
set_option maxRecDepth 100000 in
theorem ck6_bitCount {p : Program} {l : Launch} {e : Env} {R : Room} {s : State} {m : MethodId} {args : Array Value} {below : List Frame} {meth : Method} {c : Code} {H : Heap} {locs : List Loc} {cells slots : Nat} {Q : State → Prop} {cc : ByteArray} {nL pc : Nat} {ls : Array Slot} {rest : List Value} {n : Int32} (hx : p.tables.exec = Jvm.exec) (hb : c.code = cc) (hml : c.maxLocals = nL) (hown : s.vm.findClass RX0 = some m.cls) (hB : ∀ w ∈ bX0, w.before args s = true) (hsz : ls.size = nL)   (hd : decode cc pc = .ok (.invokestatic 123, 3)) (hF : 1 ≤ R.frames) (hLo : 20 ≤ R.locals) (hc : cells ≤ R.cells ∧ slots ≤ R.slots) (hst : (rest.map fun v => v.category).sum ≤ 8)
    (kk : W p l e R s m args below meth c H locs cells slots Q (F0 m (pc + 3) ls (.int (f_bc n) :: rest))) : W p l e R s m args below meth c H locs cells slots Q (F0 m pc ls (.int n :: rest)) := by
  refine W.callR (W.runS (As := [.int n]) (rest := rest) ⟨hx, hb, hml, hown, hB⟩ (cm6_bitCount l n) (cwSJ 1 hB goJ_bc rfl rfl rfl ⟨by decide, by decide, by decide, by decide +kernel⟩ ⟨hF, hLo⟩) ⟨fun _ _ _ _ q => q, fun _ _ _ => ⟨rfl, trivial⟩⟩ rfl rfl hsz rfl (lv_room hst) hd hc) kk
set_option maxHeartbeats 4000000 in
set_option maxRecDepth 100000 in
theorem cm0_meaningOfGroup (l : Launch) (n : Int32) : Met l yX0_meaningOfGroup wsX0_meaningOfGroup (rk 1) (va_Pc [.int n] (fun U => True)) (QcRead (f_mg n)) 0 0 (fun _ => False) := by
  refine Met.ofW (cc := cX0_meaningOfGroup) (maxL := 2) (ret := (some .int)) (by decide) rfl ?_
  intro p e s m args below meth c s₁ B hml hv
  obtain ⟨rfl, -⟩ := hv
  have hx := B.exec
  have hb := B.bytes
  have hr := B.returns
  have hB : ∀ w ∈ bX0, w.before _ s = true := fun w h => atoms_spec (ws := wsX0_meaningOfGroup) B.pre w (List.mem_cons_of_mem _ h)
  have hown : s.vm.findClass RX0 = some m.cls := findClass_of_methodNamed B.named
  have hlocks := B.notSynchronized
  have hl := lv_entry ([.int n]) (n := 2) (Nat.le_of_ble_eq_true rfl)
  rw [lg_entry_eq]
  generalize (lg_sl ([.int n]) ++ List.replicate (2 - (lg_sl ([.int n])).length) Slot.unset).toArray = ls at hl ⊢
  have hl : lv_has ls 2 [(0, .int n)] := hl
  refine lv_iload_n hx hb dX0_meaningOfGroup_0 rfl (lv_at hl 0 rfl) ?_
  refine ck6_bitCount hx hb hml hown hB hl.1  dX0_meaningOfGroup_1 (Nat.le_of_ble_eq_true rfl) (Nat.le_of_ble_eq_true rfl) ⟨Nat.zero_le _, Nat.zero_le _⟩ (Nat.le_of_ble_eq_true rfl) ?_
  refine lv_iconst (v := 1) hx hb dX0_meaningOfGroup_4 (by decide) ?_
  refine lv_icmp_le (tgt := 15) hx hb dX0_meaningOfGroup_5 rfl (fun h1 => ?_) (fun h1 => ?_)
  · skip
    refine lv_iload_n hx hb dX0_meaningOfGroup_15 rfl (lv_at hl 0 rfl) ?_
    refine lv_istore_n hx hb dX0_meaningOfGroup_16 rfl hl (by decide) rfl (fun ls hl => ?_)
    have hl : lv_has ls 2 [(1, .int n), (0, .int n)] := hl
    refine lv_iload_n hx hb dX0_meaningOfGroup_17 rfl (lv_at hl 0 rfl) ?_
    refine lv_iconst (v := 4) hx hb dX0_meaningOfGroup_18 (by decide) ?_
    refine lv_icmp_ne (tgt := 26) hx hb dX0_meaningOfGroup_19 rfl (fun h2 => ?_) (fun h2 => ?_)
    · skip
      refine lv_iload_n hx hb dX0_meaningOfGroup_26 rfl (lv_at hl 0 rfl) ?_
      exact W.iret (v := n) hx hb hr (fun t ht _ => ⟨congrArg (fun z => Outcome.returned (some (Value.int z))) (by simp only [f_mg]; rw [if_pos h1, if_neg h2]), ht⟩) (fun q h => by cases h) dX0_meaningOfGroup_27
    · skip
      refine lv_iconst (v := 3) hx hb dX0_meaningOfGroup_22 (by decide) ?_
      refine lv_goto (tgt := 27) hx hb dX0_meaningOfGroup_23 rfl ?_
      exact W.iret (v := 3) hx hb hr (fun t ht _ => ⟨congrArg (fun z => Outcome.returned (some (Value.int z))) (by simp only [f_mg]; rw [if_pos h1, if_pos (by simpa using h2)]), ht⟩) (fun q h => by cases h) dX0_meaningOfGroup_27
  · skip
    refine lv_iload_n hx hb dX0_meaningOfGroup_8 rfl (lv_at hl 0 rfl) ?_
    refine lv_bipush (v := 7) hx hb dX0_meaningOfGroup_9 (by decide) ?_
    refine lv_ixor hx hb dX0_meaningOfGroup_11 ?_
    refine lv_goto (tgt := 16) hx hb dX0_meaningOfGroup_12 rfl ?_
    refine lv_istore_n hx hb dX0_meaningOfGroup_16 rfl hl (by decide) rfl (fun ls hl => ?_)
    have hl : lv_has ls 2 [(1, .int (n ^^^ 7)), (0, .int n)] := hl
    refine lv_iload_n hx hb dX0_meaningOfGroup_17 rfl (lv_at hl 0 rfl) ?_
    refine lv_iconst (v := 4) hx hb dX0_meaningOfGroup_18 (by decide) ?_
    refine lv_icmp_ne (tgt := 26) hx hb dX0_meaningOfGroup_19 rfl (fun h2 => ?_) (fun h2 => ?_)
    · skip
      refine lv_iload_n hx hb dX0_meaningOfGroup_26 rfl (lv_at hl 0 rfl) ?_
      exact W.iret (v := (n ^^^ 7)) hx hb hr (fun t ht _ => ⟨congrArg (fun z => Outcome.returned (some (Value.int z))) (by simp only [f_mg]; rw [if_neg h1, if_neg h2]), ht⟩) (fun q h => by cases h) dX0_meaningOfGroup_27
    · skip
      refine lv_iconst (v := 3) hx hb dX0_meaningOfGroup_22 (by decide) ?_
      refine lv_goto (tgt := 27) hx hb dX0_meaningOfGroup_23 rfl ?_
      exact W.iret (v := 3) hx hb hr (fun t ht _ => ⟨congrArg (fun z => Outcome.returned (some (Value.int z))) (by simp only [f_mg]; rw [if_neg h1, if_pos (by simpa using h2)]), ht⟩) (fun q h => by cases h) dX0_meaningOfGroup_27
set_option maxRecDepth 100000 in
theorem ck0_meaningOfGroup {p : Program} {l : Launch} {e : Env} {R : Room} {s : State} {m : MethodId} {args : Array Value} {below : List Frame} {meth : Method} {c : Code} {H : Heap} {locs : List Loc} {cells slots : Nat} {Q : State → Prop} {cc : ByteArray} {nL pc : Nat} {ls : Array Slot} {rest : List Value} {n : Int32} (hx : p.tables.exec = Jvm.exec) (hb : c.code = cc) (hml : c.maxLocals = nL) (hown : s.vm.findClass RX0 = some m.cls) (hB : ∀ w ∈ bX0, w.before args s = true) (hsz : ls.size = nL)   (hd : decode cc pc = .ok (.invokestatic 128, 3)) (hF : 2 ≤ R.frames) (hLo : 51 ≤ R.locals) (hc : cells ≤ R.cells ∧ slots ≤ R.slots) (hst : (rest.map fun v => v.category).sum ≤ 8)
    (kk : W p l e R s m args below meth c H locs cells slots Q (F0 m (pc + 3) ls (.int (f_mg n) :: rest))) : W p l e R s m args below meth c H locs cells slots Q (F0 m pc ls (.int n :: rest)) := by
  refine W.callR (W.runS (As := [.int n]) (rest := rest) ⟨hx, hb, hml, hown, hB⟩ (cm0_meaningOfGroup l n) (cwS 1 hB goX0_meaningOfGroup rfl rfl rfl ⟨rfl, by decide, by decide, by decide +kernel⟩ ⟨hF, hLo⟩) ⟨fun _ _ _ _ q => q, fun _ _ _ => ⟨rfl, trivial⟩⟩ rfl rfl hsz rfl (lv_room hst) hd hc) kk
set_option maxHeartbeats 4000000 in
set_option maxRecDepth 100000 in
theorem cm0_meaningOfWord (l : Launch) (c0 : Int32) : Met l yX0_meaningOfWord wsX0_meaningOfWord (rk 2) (va_Pc [.int c0] (fun U => True)) (QcRead (f_mw c0)) 0 0 (fun _ => False) := by
  refine Met.ofW (cc := cX0_meaningOfWord) (maxL := 4) (ret := (some .int)) (by decide) rfl ?_
  intro p e s m args below meth c s₁ B hml hv
  obtain ⟨rfl, -⟩ := hv
  have hx := B.exec
  have hb := B.bytes
  have hr := B.returns
  have hB : ∀ w ∈ bX0, w.before _ s = true := fun w h => atoms_spec (ws := wsX0_meaningOfWord) B.pre w (List.mem_cons_of_mem _ h)
  have hown : s.vm.findClass RX0 = some m.cls := findClass_of_methodNamed B.named
  have hlocks := B.notSynchronized
  have hl := lv_entry ([.int c0]) (n := 4) (Nat.le_of_ble_eq_true rfl)
  rw [lg_entry_eq]
  generalize (lg_sl ([.int c0]) ++ List.replicate (4 - (lg_sl ([.int c0])).length) Slot.unset).toArray = ls at hl ⊢
  have hl : lv_has ls 4 [(0, .int c0)] := hl
  refine lv_iconst (v := 0) hx hb dX0_meaningOfWord_0 (by decide) ?_
  refine lv_istore_n hx hb dX0_meaningOfWord_1 rfl hl (by decide) rfl (fun ls hl => ?_)
  have hl : lv_has ls 4 [(1, .int 0), (0, .int c0)] := hl
  refine lv_iconst (v := 0) hx hb dX0_meaningOfWord_2 (by decide) ?_
  refine lv_istore_n hx hb dX0_meaningOfWord_3 rfl hl (by decide) rfl (fun ls hl => ?_)
  have hl : lv_has ls 4 [(2, .int 0), (1, .int 0), (0, .int c0)] := hl
  have hl := lv_sub (l' := [(0, .int c0), (1, .int 0), (2, .int 0)]) hl [2, 1, 0] rfl
  have loop : ∀ (n i : Nat) (a : Int32) (ls : Array Slot), i + n = 8 → lv_has ls 4 [(0, .int c0), (1, .int a), (2, .int (nI i))] → f_mwL c0 n i a = f_mw c0 → W p l e (headSpec wsX0_meaningOfWord (rk 2)).room s m ([.int c0]).toArray below meth c s.heap [] 0 0 (MQ below (QcRead (f_mw c0)) ([.int c0]).toArray s 0 0 (fun _ => False)) (F0 m 4 ls []) := by
    intro n
    induction n with
    | zero =>
    intro i a ls hi hl hF
    have hi8 : i = 8 := by omega
    subst hi8
    refine lv_iload_n hx hb dX0_meaningOfWord_4 rfl (lv_at hl 2 rfl) ?_
    refine lv_bipush (v := 8) hx hb dX0_meaningOfWord_5 (by decide) ?_
    refine lv_icmp_ge (tgt := 36) hx hb dX0_meaningOfWord_7 rfl (fun h1 => ?_) (fun h1 => ?_)
    · skip
      refine lv_iload_n hx hb dX0_meaningOfWord_36 rfl (lv_at hl 1 rfl) ?_
      exact W.iret (v := a) hx hb hr (fun t ht _ => ⟨congrArg (fun z => Outcome.returned (some (Value.int z))) (hF), ht⟩) (fun q h => by cases h) dX0_meaningOfWord_37
    · skip
      exact absurd (by decide) h1
    | succ n ih =>
    intro i a ls hi hl hF
    refine lv_iload_n hx hb dX0_meaningOfWord_4 rfl (lv_at hl 2 rfl) ?_
    refine lv_bipush (v := 8) hx hb dX0_meaningOfWord_5 (by decide) ?_
    refine lv_icmp_ge (tgt := 36) hx hb dX0_meaningOfWord_7 rfl (fun h1 => ?_) (fun h1 => ?_)
    · skip
      exact absurd h1 (nI_ge (b := 8) (by omega) (by decide))
    · skip
      refine lv_iload_n hx hb dX0_meaningOfWord_10 rfl (lv_at hl 0 rfl) ?_
      refine lv_iconst (v := 3) hx hb dX0_meaningOfWord_11 (by decide) ?_
      refine lv_iload_n hx hb dX0_meaningOfWord_12 rfl (lv_at hl 2 rfl) ?_
      refine lv_imul hx hb dX0_meaningOfWord_13 ?_
      refine lv_iushr (v := uS c0 (3 * (nI i))) hx hb dX0_meaningOfWord_14 rfl ?_
      refine lv_bipush (v := 7) hx hb dX0_meaningOfWord_15 (by decide) ?_
      refine lv_iand hx hb dX0_meaningOfWord_17 ?_
      refine lv_istore_n hx hb dX0_meaningOfWord_18 rfl hl (by decide) rfl (fun ls hl => ?_)
      have hl : lv_has ls 4 [(3, .int ((uS c0 (3 * (nI i))) &&& 7)), (0, .int c0), (1, .int a), (2, .int (nI i))] := hl
      refine lv_iload_n hx hb dX0_meaningOfWord_19 rfl (lv_at hl 2 rfl) ?_
      refine lv_iload_n hx hb dX0_meaningOfWord_20 rfl (lv_at hl 0 rfl) ?_
      refine ck0_meaningOfGroup hx hb hml hown hB hl.1  dX0_meaningOfWord_21 (Nat.le_of_ble_eq_true rfl) (Nat.le_of_ble_eq_true rfl) ⟨Nat.zero_le _, Nat.zero_le _⟩ (Nat.le_of_ble_eq_true rfl) ?_
      refine lv_iconst (v := 2) hx hb dX0_meaningOfWord_24 (by decide) ?_
      refine lv_iload_n hx hb dX0_meaningOfWord_25 rfl (lv_at hl 3 rfl) ?_
      refine lv_imul hx hb dX0_meaningOfWord_26 ?_
      refine lv_ishl hx hb dX0_meaningOfWord_27 ?_
      refine lv_ior hx hb dX0_meaningOfWord_28 ?_
      refine lv_istore_n hx hb dX0_meaningOfWord_29 rfl hl (by decide) rfl (fun ls hl => ?_)
      have hl : lv_has ls 4 [(1, .int (a ||| ((f_mg (uS c0 (3 * nI i) &&& 7)) <<< ((2 * (nI i)) &&& 31)))), (3, .int ((uS c0 (3 * (nI i))) &&& 7)), (0, .int c0), (2, .int (nI i))] := hl
      refine lv_iinc (k := 3) (v := (nI (i + 1))) hx hb dX0_meaningOfWord_30 hl rfl (nI_1 i) (by decide) rfl (fun ls hl => ?_)
      have hl : lv_has ls 4 [(2, .int (nI (i + 1))), (1, .int (a ||| ((f_mg (uS c0 (3 * nI i) &&& 7)) <<< ((2 * (nI i)) &&& 31)))), (3, .int ((uS c0 (3 * (nI i))) &&& 7)), (0, .int c0)] := hl
      refine lv_goto (tgt := 4) hx hb dX0_meaningOfWord_33 rfl ?_
      exact ih (i + 1) _ ls (by omega) (lv_sub hl [3, 1, 0] rfl) hF
  exact loop 8 0 0 ls rfl hl rfl
set_option maxRecDepth 100000 in
theorem ck0_meaningOfWord {p : Program} {l : Launch} {e : Env} {R : Room} {s : State} {m : MethodId} {args : Array Value} {below : List Frame} {meth : Method} {c : Code} {H : Heap} {locs : List Loc} {cells slots : Nat} {Q : State → Prop} {cc : ByteArray} {nL pc : Nat} {ls : Array Slot} {rest : List Value} {c0 : Int32} (hx : p.tables.exec = Jvm.exec) (hb : c.code = cc) (hml : c.maxLocals = nL) (hown : s.vm.findClass RX0 = some m.cls) (hB : ∀ w ∈ bX0, w.before args s = true) (hsz : ls.size = nL)   (hd : decode cc pc = .ok (.invokestatic 73, 3)) (hF : 3 ≤ R.frames) (hLo : 83 ≤ R.locals) (hc : cells ≤ R.cells ∧ slots ≤ R.slots) (hst : (rest.map fun v => v.category).sum ≤ 8)
    (kk : W p l e R s m args below meth c H locs cells slots Q (F0 m (pc + 3) ls (.int (f_mw c0) :: rest))) : W p l e R s m args below meth c H locs cells slots Q (F0 m pc ls (.int c0 :: rest)) := by
  refine W.callR (W.runS (As := [.int c0]) (rest := rest) ⟨hx, hb, hml, hown, hB⟩ (cm0_meaningOfWord l c0) (cwS 1 hB goX0_meaningOfWord rfl rfl rfl ⟨rfl, by decide, by decide, by decide +kernel⟩ ⟨hF, hLo⟩) ⟨fun _ _ _ _ q => q, fun _ _ _ => ⟨rfl, trivial⟩⟩ rfl rfl hsz rfl (lv_room hst) hd hc) kk
set_option maxHeartbeats 4000000 in
set_option maxRecDepth 100000 in
theorem cm0_patternOfGroup (l : Launch) (n : Int32) (v : Int32) : Met l yX0_patternOfGroup wsX0_patternOfGroup (rk 0) (va_Pc [.int n, .int v] (fun U => True)) (QcRead (f_pg n v)) 0 0 (fun _ => False) := by
  refine Met.ofW (cc := cX0_patternOfGroup) (maxL := 4) (ret := (some .int)) (by decide) rfl ?_
  intro p e s m args below meth c s₁ B hml hv
  obtain ⟨rfl, -⟩ := hv
  have hx := B.exec
  have hb := B.bytes
  have hr := B.returns
  have hB : ∀ w ∈ bX0, w.before _ s = true := fun w h => atoms_spec (ws := wsX0_patternOfGroup) B.pre w (List.mem_cons_of_mem _ h)
  have hown : s.vm.findClass RX0 = some m.cls := findClass_of_methodNamed B.named
  have hlocks := B.notSynchronized
  have hl := lv_entry ([.int n, .int v]) (n := 4) (Nat.le_of_ble_eq_true rfl)
  rw [lg_entry_eq]
  generalize (lg_sl ([.int n, .int v]) ++ List.replicate (4 - (lg_sl ([.int n, .int v])).length) Slot.unset).toArray = ls at hl ⊢
  have hl : lv_has ls 4 [(0, .int n), (1, .int v)] := hl
  refine lv_iload_n hx hb dX0_patternOfGroup_0 rfl (lv_at hl 1 rfl) ?_
  refine lv_if_ne (tgt := 8) hx hb dX0_patternOfGroup_1 rfl (fun h1 => ?_) (fun h1 => ?_)
  · skip
    refine lv_iconst (v := 1) hx hb dX0_patternOfGroup_8 (by decide) ?_
    refine lv_iload_n hx hb dX0_patternOfGroup_9 rfl (lv_at hl 1 rfl) ?_
    refine lv_iconst (v := 1) hx hb dX0_patternOfGroup_10 (by decide) ?_
    refine lv_isub hx hb dX0_patternOfGroup_11 ?_
    refine lv_ishl hx hb dX0_patternOfGroup_12 ?_
    have hs : f_sm v = (1 <<< ((v - 1) &&& 31)) := if_neg (by simpa using h1)
    rw [← hs]
    refine lv_istore_n hx hb dX0_patternOfGroup_13 rfl hl (by decide) rfl (fun ls hl => ?_)
    have hl : lv_has ls 4 [(2, .int (f_sm v)), (0, .int n), (1, .int v)] := hl
    refine lv_iload_n hx hb dX0_patternOfGroup_14 rfl (lv_at hl 1 rfl) ?_
    refine lv_iload_n hx hb dX0_patternOfGroup_15 rfl (lv_at hl 0 rfl) ?_
    refine lv_iconst (v := (-1)) hx hb dX0_patternOfGroup_16 (by decide) ?_
    refine lv_ixor hx hb dX0_patternOfGroup_17 ?_
    refine lv_iand hx hb dX0_patternOfGroup_18 ?_
    refine lv_if_ne (tgt := 24) hx hb dX0_patternOfGroup_19 rfl (fun h2 => ?_) (fun h2 => ?_)
    · skip
      refine lv_iload_n hx hb dX0_patternOfGroup_24 rfl (lv_at hl 0 rfl) ?_
      refine lv_bipush (v := 7) hx hb dX0_patternOfGroup_25 (by decide) ?_
      refine lv_ixor hx hb dX0_patternOfGroup_27 ?_
      refine lv_istore_n hx hb dX0_patternOfGroup_28 rfl hl (by decide) rfl (fun ls hl => ?_)
      have hl : lv_has ls 4 [(3, .int ((f_sm v) ^^^ 7)), (2, .int (f_sm v)), (0, .int n), (1, .int v)] := hl
      refine lv_iload_n hx hb dX0_patternOfGroup_29 rfl (lv_at hl 2 rfl) ?_
      refine lv_iload_n hx hb dX0_patternOfGroup_30 rfl (lv_at hl 0 rfl) ?_
      refine lv_iconst (v := (-1)) hx hb dX0_patternOfGroup_31 (by decide) ?_
      refine lv_ixor hx hb dX0_patternOfGroup_32 ?_
      refine lv_iand hx hb dX0_patternOfGroup_33 ?_
      refine lv_if_ne (tgt := 41) hx hb dX0_patternOfGroup_34 rfl (fun h3 => ?_) (fun h3 => ?_)
      · skip
        refine lv_iconst (v := (-1)) hx hb dX0_patternOfGroup_41 (by decide) ?_
        exact W.iret (v := (-1)) hx hb hr (fun t ht _ => ⟨congrArg (fun z => Outcome.returned (some (Value.int z))) (by simp only [f_pg]; rw [if_neg (by simpa using h2), if_neg (by simpa using h3)]), ht⟩) (fun q h => by cases h) dX0_patternOfGroup_42
      · skip
        refine lv_iload_n hx hb dX0_patternOfGroup_37 rfl (lv_at hl 0 rfl) ?_
        refine lv_goto (tgt := 42) hx hb dX0_patternOfGroup_38 rfl ?_
        exact W.iret (v := ((f_sm v) ^^^ 7)) hx hb hr (fun t ht _ => ⟨congrArg (fun z => Outcome.returned (some (Value.int z))) (by simp only [f_pg]; rw [if_neg (by simpa using h2), if_pos (by simpa using h3)]), ht⟩) (fun q h => by cases h) dX0_patternOfGroup_42
    · skip
      refine lv_iload_n hx hb dX0_patternOfGroup_22 rfl (lv_at hl 0 rfl) ?_
      exact W.iret (v := (f_sm v)) hx hb hr (fun t ht _ => ⟨congrArg (fun z => Outcome.returned (some (Value.int z))) (by simp only [f_pg]; rw [if_pos (by simpa using h2)]), ht⟩) (fun q h => by cases h) dX0_patternOfGroup_23
  · skip
    refine lv_iconst (v := 0) hx hb dX0_patternOfGroup_4 (by decide) ?_
    refine lv_goto (tgt := 13) hx hb dX0_patternOfGroup_5 rfl ?_
    have hs : f_sm v = 0 := if_pos (by simpa using h1)
    rw [← hs]
    refine lv_istore_n hx hb dX0_patternOfGroup_13 rfl hl (by decide) rfl (fun ls hl => ?_)
    have hl : lv_has ls 4 [(2, .int (f_sm v)), (0, .int n), (1, .int v)] := hl
    refine lv_iload_n hx hb dX0_patternOfGroup_14 rfl (lv_at hl 1 rfl) ?_
    refine lv_iload_n hx hb dX0_patternOfGroup_15 rfl (lv_at hl 0 rfl) ?_
    refine lv_iconst (v := (-1)) hx hb dX0_patternOfGroup_16 (by decide) ?_
    refine lv_ixor hx hb dX0_patternOfGroup_17 ?_
    refine lv_iand hx hb dX0_patternOfGroup_18 ?_
    refine lv_if_ne (tgt := 24) hx hb dX0_patternOfGroup_19 rfl (fun h2 => ?_) (fun h2 => ?_)
    · skip
      refine lv_iload_n hx hb dX0_patternOfGroup_24 rfl (lv_at hl 0 rfl) ?_
      refine lv_bipush (v := 7) hx hb dX0_patternOfGroup_25 (by decide) ?_
      refine lv_ixor hx hb dX0_patternOfGroup_27 ?_
      refine lv_istore_n hx hb dX0_patternOfGroup_28 rfl hl (by decide) rfl (fun ls hl => ?_)
      have hl : lv_has ls 4 [(3, .int ((f_sm v) ^^^ 7)), (2, .int (f_sm v)), (0, .int n), (1, .int v)] := hl
      refine lv_iload_n hx hb dX0_patternOfGroup_29 rfl (lv_at hl 2 rfl) ?_
      refine lv_iload_n hx hb dX0_patternOfGroup_30 rfl (lv_at hl 0 rfl) ?_
      refine lv_iconst (v := (-1)) hx hb dX0_patternOfGroup_31 (by decide) ?_
      refine lv_ixor hx hb dX0_patternOfGroup_32 ?_
      refine lv_iand hx hb dX0_patternOfGroup_33 ?_
      refine lv_if_ne (tgt := 41) hx hb dX0_patternOfGroup_34 rfl (fun h3 => ?_) (fun h3 => ?_)
      · skip
        refine lv_iconst (v := (-1)) hx hb dX0_patternOfGroup_41 (by decide) ?_
        exact W.iret (v := (-1)) hx hb hr (fun t ht _ => ⟨congrArg (fun z => Outcome.returned (some (Value.int z))) (by simp only [f_pg]; rw [if_neg (by simpa using h2), if_neg (by simpa using h3)]), ht⟩) (fun q h => by cases h) dX0_patternOfGroup_42
      · skip
        refine lv_iload_n hx hb dX0_patternOfGroup_37 rfl (lv_at hl 0 rfl) ?_
        refine lv_goto (tgt := 42) hx hb dX0_patternOfGroup_38 rfl ?_
        exact W.iret (v := ((f_sm v) ^^^ 7)) hx hb hr (fun t ht _ => ⟨congrArg (fun z => Outcome.returned (some (Value.int z))) (by simp only [f_pg]; rw [if_neg (by simpa using h2), if_pos (by simpa using h3)]), ht⟩) (fun q h => by cases h) dX0_patternOfGroup_42
    · skip
      refine lv_iload_n hx hb dX0_patternOfGroup_22 rfl (lv_at hl 0 rfl) ?_
      exact W.iret (v := (f_sm v)) hx hb hr (fun t ht _ => ⟨congrArg (fun z => Outcome.returned (some (Value.int z))) (by simp only [f_pg]; rw [if_pos (by simpa using h2)]), ht⟩) (fun q h => by cases h) dX0_patternOfGroup_23
set_option maxRecDepth 100000 in
theorem ck0_patternOfGroup {p : Program} {l : Launch} {e : Env} {R : Room} {s : State} {m : MethodId} {args : Array Value} {below : List Frame} {meth : Method} {c : Code} {H : Heap} {locs : List Loc} {cells slots : Nat} {Q : State → Prop} {cc : ByteArray} {nL pc : Nat} {ls : Array Slot} {rest : List Value} {n : Int32} {v : Int32} (hx : p.tables.exec = Jvm.exec) (hb : c.code = cc) (hml : c.maxLocals = nL) (hown : s.vm.findClass RX0 = some m.cls) (hB : ∀ w ∈ bX0, w.before args s = true) (hsz : ls.size = nL)   (hd : decode cc pc = .ok (.invokestatic 131, 3)) (hF : 1 ≤ R.frames) (hLo : 23 ≤ R.locals) (hc : cells ≤ R.cells ∧ slots ≤ R.slots) (hst : (rest.map fun v => v.category).sum ≤ 8)
    (kk : W p l e R s m args below meth c H locs cells slots Q (F0 m (pc + 3) ls (.int (f_pg n v) :: rest))) : W p l e R s m args below meth c H locs cells slots Q (F0 m pc ls (.int v :: .int n :: rest)) := by
  refine W.callR (W.runS (As := [.int n, .int v]) (rest := rest) ⟨hx, hb, hml, hown, hB⟩ (cm0_patternOfGroup l n v) (cwS 2 hB goX0_patternOfGroup rfl rfl rfl ⟨rfl, by decide, by decide, by decide +kernel⟩ ⟨hF, hLo⟩) ⟨fun _ _ _ _ q => q, fun _ _ _ => ⟨rfl, trivial⟩⟩ rfl rfl hsz rfl (lv_room hst) hd hc) kk
set_option maxHeartbeats 4000000 in
set_option maxRecDepth 100000 in
theorem cm0_patternOfWord (l : Launch) (c0 : Int32) (v0 : Int32) : Met l yX0_patternOfWord wsX0_patternOfWord (rk 1) (va_Pc [.int c0, .int v0] (fun U => True)) (QcRead (f_pw c0 v0)) 0 0 (fun _ => False) := by
  refine Met.ofW (cc := cX0_patternOfWord) (maxL := 7) (ret := (some .int)) (by decide) rfl ?_
  intro p e s m args below meth c s₁ B hml hv
  obtain ⟨rfl, -⟩ := hv
  have hx := B.exec
  have hb := B.bytes
  have hr := B.returns
  have hB : ∀ w ∈ bX0, w.before _ s = true := fun w h => atoms_spec (ws := wsX0_patternOfWord) B.pre w (List.mem_cons_of_mem _ h)
  have hown : s.vm.findClass RX0 = some m.cls := findClass_of_methodNamed B.named
  have hlocks := B.notSynchronized
  have hl := lv_entry ([.int c0, .int v0]) (n := 7) (Nat.le_of_ble_eq_true rfl)
  rw [lg_entry_eq]
  generalize (lg_sl ([.int c0, .int v0]) ++ List.replicate (7 - (lg_sl ([.int c0, .int v0])).length) Slot.unset).toArray = ls at hl ⊢
  have hl : lv_has ls 7 [(0, .int c0), (1, .int v0)] := hl
  refine lv_iconst (v := 0) hx hb dX0_patternOfWord_0 (by decide) ?_
  refine lv_istore_n hx hb dX0_patternOfWord_1 rfl hl (by decide) rfl (fun ls hl => ?_)
  have hl : lv_has ls 7 [(2, .int 0), (0, .int c0), (1, .int v0)] := hl
  refine lv_iconst (v := 0) hx hb dX0_patternOfWord_2 (by decide) ?_
  refine lv_istore_n hx hb dX0_patternOfWord_3 rfl hl (by decide) rfl (fun ls hl => ?_)
  have hl : lv_has ls 7 [(3, .int 0), (2, .int 0), (0, .int c0), (1, .int v0)] := hl
  have hl := lv_sub (l' := [(0, .int c0), (1, .int v0), (2, .int 0), (3, .int 0)]) hl [2, 3, 1, 0] rfl
  have loop : ∀ (n i : Nat) (a : Int32) (ls : Array Slot), i + n = 8 → lv_has ls 7 [(0, .int c0), (1, .int v0), (2, .int a), (3, .int (nI i))] → f_pwL c0 v0 n i a = f_pw c0 v0 → W p l e (headSpec wsX0_patternOfWord (rk 1)).room s m ([.int c0, .int v0]).toArray below meth c s.heap [] 0 0 (MQ below (QcRead (f_pw c0 v0)) ([.int c0, .int v0]).toArray s 0 0 (fun _ => False)) (F0 m 4 ls []) := by
    intro n
    induction n with
    | zero =>
    intro i a ls hi hl hF
    have hi8 : i = 8 := by omega
    subst hi8
    refine lv_iload_n hx hb dX0_patternOfWord_4 rfl (lv_at hl 3 rfl) ?_
    refine lv_bipush (v := 8) hx hb dX0_patternOfWord_5 (by decide) ?_
    refine lv_icmp_ge (tgt := 61) hx hb dX0_patternOfWord_7 rfl (fun h1 => ?_) (fun h1 => ?_)
    · skip
      refine lv_iload_n hx hb dX0_patternOfWord_61 rfl (lv_at hl 2 rfl) ?_
      exact W.iret (v := a) hx hb hr (fun t ht _ => ⟨congrArg (fun z => Outcome.returned (some (Value.int z))) (hF), ht⟩) (fun q h => by cases h) dX0_patternOfWord_62
    · skip
      exact absurd (by decide) h1
    | succ n ih =>
    intro i a ls hi hl hF
    refine lv_iload_n hx hb dX0_patternOfWord_4 rfl (lv_at hl 3 rfl) ?_
    refine lv_bipush (v := 8) hx hb dX0_patternOfWord_5 (by decide) ?_
    refine lv_icmp_ge (tgt := 61) hx hb dX0_patternOfWord_7 rfl (fun h1 => ?_) (fun h1 => ?_)
    · skip
      exact absurd h1 (nI_ge (b := 8) (by omega) (by decide))
    · skip
      refine lv_iload_n hx hb dX0_patternOfWord_10 rfl (lv_at hl 0 rfl) ?_
      refine lv_iconst (v := 3) hx hb dX0_patternOfWord_11 (by decide) ?_
      refine lv_iload_n hx hb dX0_patternOfWord_12 rfl (lv_at hl 3 rfl) ?_
      refine lv_imul hx hb dX0_patternOfWord_13 ?_
      refine lv_iushr (v := uS c0 (3 * (nI i))) hx hb dX0_patternOfWord_14 rfl ?_
      refine lv_bipush (v := 7) hx hb dX0_patternOfWord_15 (by decide) ?_
      refine lv_iand hx hb dX0_patternOfWord_17 ?_
      refine lv_istore hx hb dX0_patternOfWord_18 hl (by decide) rfl (fun ls hl => ?_)
      have hl : lv_has ls 7 [(4, .int ((uS c0 (3 * (nI i))) &&& 7)), (0, .int c0), (1, .int v0), (2, .int a), (3, .int (nI i))] := hl
      refine lv_iload_n hx hb dX0_patternOfWord_20 rfl (lv_at hl 2 rfl) ?_
      refine lv_iconst (v := 2) hx hb dX0_patternOfWord_21 (by decide) ?_
      refine lv_iload_n hx hb dX0_patternOfWord_22 rfl (lv_at hl 4 rfl) ?_
      refine lv_imul hx hb dX0_patternOfWord_23 ?_
      refine lv_iushr (v := uS v0 (2 * (nI i))) hx hb dX0_patternOfWord_24 rfl ?_
      refine lv_iconst (v := 3) hx hb dX0_patternOfWord_25 (by decide) ?_
      refine lv_iand hx hb dX0_patternOfWord_26 ?_
      refine lv_istore hx hb dX0_patternOfWord_27 hl (by decide) rfl (fun ls hl => ?_)
      have hl : lv_has ls 7 [(5, .int ((uS v0 (2 * (nI i))) &&& 3)), (4, .int ((uS c0 (3 * (nI i))) &&& 7)), (0, .int c0), (1, .int v0), (2, .int a), (3, .int (nI i))] := hl
      refine lv_iload hx hb dX0_patternOfWord_29 (lv_at hl 1 rfl) ?_
      refine lv_iload hx hb dX0_patternOfWord_31 (lv_at hl 0 rfl) ?_
      refine ck0_patternOfGroup hx hb hml hown hB hl.1  dX0_patternOfWord_33 (Nat.le_of_ble_eq_true rfl) (Nat.le_of_ble_eq_true rfl) ⟨Nat.zero_le _, Nat.zero_le _⟩ (Nat.le_of_ble_eq_true rfl) ?_
      refine lv_istore hx hb dX0_patternOfWord_36 hl (by decide) rfl (fun ls hl => ?_)
      have hl : lv_has ls 7 [(6, .int (f_pg (uS c0 (3 * nI i) &&& 7) (uS v0 (2 * nI i) &&& 3))), (5, .int ((uS v0 (2 * (nI i))) &&& 3)), (4, .int ((uS c0 (3 * (nI i))) &&& 7)), (0, .int c0), (1, .int v0), (2, .int a), (3, .int (nI i))] := hl
      refine lv_iload hx hb dX0_patternOfWord_38 (lv_at hl 0 rfl) ?_
      refine lv_iconst (v := (-1)) hx hb dX0_patternOfWord_40 (by decide) ?_
      refine lv_icmp_ne (tgt := 46) hx hb dX0_patternOfWord_41 rfl (fun h2 => ?_) (fun h2 => ?_)
      · skip
        refine lv_iload_n hx hb dX0_patternOfWord_46 rfl (lv_at hl 5 rfl) ?_
        refine lv_iload hx hb dX0_patternOfWord_47 (lv_at hl 0 rfl) ?_
        refine lv_iconst (v := 3) hx hb dX0_patternOfWord_49 (by decide) ?_
        refine lv_iload_n hx hb dX0_patternOfWord_50 rfl (lv_at hl 6 rfl) ?_
        refine lv_imul hx hb dX0_patternOfWord_51 ?_
        refine lv_ishl hx hb dX0_patternOfWord_52 ?_
        refine lv_ior hx hb dX0_patternOfWord_53 ?_
        refine lv_istore_n hx hb dX0_patternOfWord_54 rfl hl (by decide) rfl (fun ls hl => ?_)
        have hl : lv_has ls 7 [(2, .int (a ||| ((f_pg (uS c0 (3 * nI i) &&& 7) (uS v0 (2 * nI i) &&& 3)) <<< ((3 * (nI i)) &&& 31)))), (6, .int (f_pg (uS c0 (3 * nI i) &&& 7) (uS v0 (2 * nI i) &&& 3))), (5, .int ((uS v0 (2 * (nI i))) &&& 3)), (4, .int ((uS c0 (3 * (nI i))) &&& 7)), (0, .int c0), (1, .int v0), (3, .int (nI i))] := hl
        refine lv_iinc (k := 6) (v := (nI (i + 1))) hx hb dX0_patternOfWord_55 hl rfl (nI_1 i) (by decide) rfl (fun ls hl => ?_)
        have hl : lv_has ls 7 [(3, .int (nI (i + 1))), (2, .int (a ||| ((f_pg (uS c0 (3 * nI i) &&& 7) (uS v0 (2 * nI i) &&& 3)) <<< ((3 * (nI i)) &&& 31)))), (6, .int (f_pg (uS c0 (3 * nI i) &&& 7) (uS v0 (2 * nI i) &&& 3))), (5, .int ((uS v0 (2 * (nI i))) &&& 3)), (4, .int ((uS c0 (3 * (nI i))) &&& 7)), (0, .int c0), (1, .int v0)] := hl
        refine lv_goto (tgt := 4) hx hb dX0_patternOfWord_58 rfl ?_
        refine ih (i + 1) _ ls (by omega) (lv_sub hl [5, 6, 1, 0] rfl) ?_
        rw [← hF]; exact (if_neg (by simpa [f_grp, f_two] using h2)).symm
      · skip
        refine lv_iconst (v := (-1)) hx hb dX0_patternOfWord_44 (by decide) ?_
        exact W.iret (v := (-1)) hx hb hr (fun t ht _ => ⟨congrArg (fun z => Outcome.returned (some (Value.int z))) (by rw [← hF]; exact (if_pos (by simpa [f_grp, f_two] using h2)).symm), ht⟩) (fun q h => by cases h) dX0_patternOfWord_45
  exact loop 8 0 0 ls rfl hl rfl
set_option maxRecDepth 100000 in
theorem ck0_patternOfWord {p : Program} {l : Launch} {e : Env} {R : Room} {s : State} {m : MethodId} {args : Array Value} {below : List Frame} {meth : Method} {c : Code} {H : Heap} {locs : List Loc} {cells slots : Nat} {Q : State → Prop} {cc : ByteArray} {nL pc : Nat} {ls : Array Slot} {rest : List Value} {c0 : Int32} {v0 : Int32} (hx : p.tables.exec = Jvm.exec) (hb : c.code = cc) (hml : c.maxLocals = nL) (hown : s.vm.findClass RX0 = some m.cls) (hB : ∀ w ∈ bX0, w.before args s = true) (hsz : ls.size = nL)   (hd : decode cc pc = .ok (.invokestatic 134, 3)) (hF : 2 ≤ R.frames) (hLo : 56 ≤ R.locals) (hc : cells ≤ R.cells ∧ slots ≤ R.slots) (hst : (rest.map fun v => v.category).sum ≤ 8)
    (kk : W p l e R s m args below meth c H locs cells slots Q (F0 m (pc + 3) ls (.int (f_pw c0 v0) :: rest))) : W p l e R s m args below meth c H locs cells slots Q (F0 m pc ls (.int v0 :: .int c0 :: rest)) := by
  refine W.callR (W.runS (As := [.int c0, .int v0]) (rest := rest) ⟨hx, hb, hml, hown, hB⟩ (cm0_patternOfWord l c0 v0) (cwS 2 hB goX0_patternOfWord rfl rfl rfl ⟨rfl, by decide, by decide, by decide +kernel⟩ ⟨hF, hLo⟩) ⟨fun _ _ _ _ q => q, fun _ _ _ => ⟨rfl, trivial⟩⟩ rfl rfl hsz rfl (lv_room hst) hd hc) kk
set_option maxHeartbeats 4000000 in
set_option maxRecDepth 100000 in
theorem cm0_lineFor (l : Launch) (k : Int32) (v : Int32) (w : Int32) : Met l yX0_lineFor wsX0_lineFor (rk 0) (va_Pc [.int k, .int v, .int w] (fun U => True)) (QcRead (f_line k v w)) 0 0 (fun _ => False) := by
  refine Met.ofW (cc := cX0_lineFor) (maxL := 3) (ret := (some .int)) (by decide) rfl ?_
  intro p e s m args below meth c s₁ B hml hv
  obtain ⟨rfl, -⟩ := hv
  have hx := B.exec
  have hb := B.bytes
  have hr := B.returns
  have hB : ∀ w ∈ bX0, w.before _ s = true := fun w h => atoms_spec (ws := wsX0_lineFor) B.pre w (List.mem_cons_of_mem _ h)
  have hown : s.vm.findClass RX0 = some m.cls := findClass_of_methodNamed B.named
  have hlocks := B.notSynchronized
  have hl := lv_entry ([.int k, .int v, .int w]) (n := 3) (Nat.le_of_ble_eq_true rfl)
  rw [lg_entry_eq]
  generalize (lg_sl ([.int k, .int v, .int w]) ++ List.replicate (3 - (lg_sl ([.int k, .int v, .int w])).length) Slot.unset).toArray = ls at hl ⊢
  have hl : lv_has ls 3 [(0, .int k), (1, .int v), (2, .int w)] := hl
  refine lv_iload_n hx hb dX0_lineFor_0 rfl (lv_at hl 1 rfl) ?_
  refine lv_iload_n hx hb dX0_lineFor_1 rfl (lv_at hl 0 rfl) ?_
  refine lv_bipush (v := 16) hx hb dX0_lineFor_2 (by decide) ?_
  refine lv_ishl hx hb dX0_lineFor_4 ?_
  refine lv_ior hx hb dX0_lineFor_5 ?_
  refine lv_iload_n hx hb dX0_lineFor_6 rfl (lv_at hl 2 rfl) ?_
  refine lv_bipush (v := 22) hx hb dX0_lineFor_7 (by decide) ?_
  refine lv_ishl hx hb dX0_lineFor_9 ?_
  refine lv_ior hx hb dX0_lineFor_10 ?_
  refine lv_ldc (v := 1073741824) hx hb hown (hB _ mX0_k_168) dX0_lineFor_11 ?_
  refine lv_ior hx hb dX0_lineFor_13 ?_
  exact W.iret (v := (((v ||| (k <<< (16 &&& 31))) ||| (w <<< (22 &&& 31))) ||| 1073741824)) hx hb hr (fun t ht _ => ⟨congrArg (fun z => Outcome.returned (some (Value.int z))) (rfl), ht⟩) (fun q h => by cases h) dX0_lineFor_14
set_option maxRecDepth 100000 in
theorem ck0_lineFor {p : Program} {l : Launch} {e : Env} {R : Room} {s : State} {m : MethodId} {args : Array Value} {below : List Frame} {meth : Method} {c : Code} {H : Heap} {locs : List Loc} {cells slots : Nat} {Q : State → Prop} {cc : ByteArray} {nL pc : Nat} {ls : Array Slot} {rest : List Value} {k : Int32} {v : Int32} {w : Int32} (hx : p.tables.exec = Jvm.exec) (hb : c.code = cc) (hml : c.maxLocals = nL) (hown : s.vm.findClass RX0 = some m.cls) (hB : ∀ w ∈ bX0, w.before args s = true) (hsz : ls.size = nL)   (hd : decode cc pc = .ok (.invokestatic 149, 3)) (hF : 1 ≤ R.frames) (hLo : 22 ≤ R.locals) (hc : cells ≤ R.cells ∧ slots ≤ R.slots) (hst : (rest.map fun v => v.category).sum ≤ 8)
    (kk : W p l e R s m args below meth c H locs cells slots Q (F0 m (pc + 3) ls (.int (f_line k v w) :: rest))) : W p l e R s m args below meth c H locs cells slots Q (F0 m pc ls (.int w :: .int v :: .int k :: rest)) := by
  refine W.callR (W.runS (As := [.int k, .int v, .int w]) (rest := rest) ⟨hx, hb, hml, hown, hB⟩ (cm0_lineFor l k v w) (cwS 3 hB goX0_lineFor rfl rfl rfl ⟨rfl, by decide, by decide, by decide +kernel⟩ ⟨hF, hLo⟩) ⟨fun _ _ _ _ q => q, fun _ _ _ => ⟨rfl, trivial⟩⟩ rfl rfl hsz rfl (lv_room hst) hd hc) kk
set_option maxHeartbeats 4000000 in
set_option maxRecDepth 100000 in
theorem cm0_valueOfLine (l : Launch) (x : Int32) : Met l yX0_valueOfLine wsX0_valueOfLine (rk 0) (va_Pc [.int x] (fun U => True)) (QcRead (f_lv x)) 0 0 (fun _ => False) := by
  refine Met.ofW (cc := cX0_valueOfLine) (maxL := 1) (ret := (some .int)) (by decide) rfl ?_
  intro p e s m args below meth c s₁ B hml hv
  obtain ⟨rfl, -⟩ := hv
  have hx := B.exec
  have hb := B.bytes
  have hr := B.returns
  have hB : ∀ w ∈ bX0, w.before _ s = true := fun w h => atoms_spec (ws := wsX0_valueOfLine) B.pre w (List.mem_cons_of_mem _ h)
  have hown : s.vm.findClass RX0 = some m.cls := findClass_of_methodNamed B.named
  have hlocks := B.notSynchronized
  have hl := lv_entry ([.int x]) (n := 1) (Nat.le_of_ble_eq_true rfl)
  rw [lg_entry_eq]
  generalize (lg_sl ([.int x]) ++ List.replicate (1 - (lg_sl ([.int x])).length) Slot.unset).toArray = ls at hl ⊢
  have hl : lv_has ls 1 [(0, .int x)] := hl
  refine lv_iload_n hx hb dX0_valueOfLine_0 rfl (lv_at hl 0 rfl) ?_
  refine lv_ldc (v := 65535) hx hb hown (hB _ mX0_k_169) dX0_valueOfLine_1 ?_
  refine lv_iand hx hb dX0_valueOfLine_3 ?_
  exact W.iret (v := (x &&& 65535)) hx hb hr (fun t ht _ => ⟨congrArg (fun z => Outcome.returned (some (Value.int z))) (rfl), ht⟩) (fun q h => by cases h) dX0_valueOfLine_4
set_option maxRecDepth 100000 in
theorem ck0_valueOfLine {p : Program} {l : Launch} {e : Env} {R : Room} {s : State} {m : MethodId} {args : Array Value} {below : List Frame} {meth : Method} {c : Code} {H : Heap} {locs : List Loc} {cells slots : Nat} {Q : State → Prop} {cc : ByteArray} {nL pc : Nat} {ls : Array Slot} {rest : List Value} {x : Int32} (hx : p.tables.exec = Jvm.exec) (hb : c.code = cc) (hml : c.maxLocals = nL) (hown : s.vm.findClass RX0 = some m.cls) (hB : ∀ w ∈ bX0, w.before args s = true) (hsz : ls.size = nL)   (hd : decode cc pc = .ok (.invokestatic 162, 3)) (hF : 1 ≤ R.frames) (hLo : 20 ≤ R.locals) (hc : cells ≤ R.cells ∧ slots ≤ R.slots) (hst : (rest.map fun v => v.category).sum ≤ 8)
    (kk : W p l e R s m args below meth c H locs cells slots Q (F0 m (pc + 3) ls (.int (f_lv x) :: rest))) : W p l e R s m args below meth c H locs cells slots Q (F0 m pc ls (.int x :: rest)) := by
  refine W.callR (W.runS (As := [.int x]) (rest := rest) ⟨hx, hb, hml, hown, hB⟩ (cm0_valueOfLine l x) (cwS 1 hB goX0_valueOfLine rfl rfl rfl ⟨rfl, by decide, by decide, by decide +kernel⟩ ⟨hF, hLo⟩) ⟨fun _ _ _ _ q => q, fun _ _ _ => ⟨rfl, trivial⟩⟩ rfl rfl hsz rfl (lv_room hst) hd hc) kk
set_option maxHeartbeats 4000000 in
set_option maxRecDepth 100000 in
theorem cm0_keyOfLine (l : Launch) (x : Int32) : Met l yX0_keyOfLine wsX0_keyOfLine (rk 0) (va_Pc [.int x] (fun U => True)) (QcRead (f_lk x)) 0 0 (fun _ => False) := by
  refine Met.ofW (cc := cX0_keyOfLine) (maxL := 1) (ret := (some .int)) (by decide) rfl ?_
  intro p e s m args below meth c s₁ B hml hv
  obtain ⟨rfl, -⟩ := hv
  have hx := B.exec
  have hb := B.bytes
  have hr := B.returns
  have hB : ∀ w ∈ bX0, w.before _ s = true := fun w h => atoms_spec (ws := wsX0_keyOfLine) B.pre w (List.mem_cons_of_mem _ h)
  have hown : s.vm.findClass RX0 = some m.cls := findClass_of_methodNamed B.named
  have hlocks := B.notSynchronized
  have hl := lv_entry ([.int x]) (n := 1) (Nat.le_of_ble_eq_true rfl)
  rw [lg_entry_eq]
  generalize (lg_sl ([.int x]) ++ List.replicate (1 - (lg_sl ([.int x])).length) Slot.unset).toArray = ls at hl ⊢
  have hl : lv_has ls 1 [(0, .int x)] := hl
  refine lv_iload_n hx hb dX0_keyOfLine_0 rfl (lv_at hl 0 rfl) ?_
  refine lv_bipush (v := 16) hx hb dX0_keyOfLine_1 (by decide) ?_
  refine lv_iushr (v := uS x 16) hx hb dX0_keyOfLine_3 rfl ?_
  refine lv_bipush (v := 63) hx hb dX0_keyOfLine_4 (by decide) ?_
  refine lv_iand hx hb dX0_keyOfLine_6 ?_
  exact W.iret (v := ((uS x 16) &&& 63)) hx hb hr (fun t ht _ => ⟨congrArg (fun z => Outcome.returned (some (Value.int z))) (rfl), ht⟩) (fun q h => by cases h) dX0_keyOfLine_7
set_option maxRecDepth 100000 in
theorem ck0_keyOfLine {p : Program} {l : Launch} {e : Env} {R : Room} {s : State} {m : MethodId} {args : Array Value} {below : List Frame} {meth : Method} {c : Code} {H : Heap} {locs : List Loc} {cells slots : Nat} {Q : State → Prop} {cc : ByteArray} {nL pc : Nat} {ls : Array Slot} {rest : List Value} {x : Int32} (hx : p.tables.exec = Jvm.exec) (hb : c.code = cc) (hml : c.maxLocals = nL) (hown : s.vm.findClass RX0 = some m.cls) (hB : ∀ w ∈ bX0, w.before args s = true) (hsz : ls.size = nL)   (hd : decode cc pc = .ok (.invokestatic 159, 3)) (hF : 1 ≤ R.frames) (hLo : 20 ≤ R.locals) (hc : cells ≤ R.cells ∧ slots ≤ R.slots) (hst : (rest.map fun v => v.category).sum ≤ 8)
    (kk : W p l e R s m args below meth c H locs cells slots Q (F0 m (pc + 3) ls (.int (f_lk x) :: rest))) : W p l e R s m args below meth c H locs cells slots Q (F0 m pc ls (.int x :: rest)) := by
  refine W.callR (W.runS (As := [.int x]) (rest := rest) ⟨hx, hb, hml, hown, hB⟩ (cm0_keyOfLine l x) (cwS 1 hB goX0_keyOfLine rfl rfl rfl ⟨rfl, by decide, by decide, by decide +kernel⟩ ⟨hF, hLo⟩) ⟨fun _ _ _ _ q => q, fun _ _ _ => ⟨rfl, trivial⟩⟩ rfl rfl hsz rfl (lv_room hst) hd hc) kk
set_option maxHeartbeats 4000000 in
set_option maxRecDepth 100000 in
theorem cm0_wordOfLine (l : Launch) (x : Int32) : Met l yX0_wordOfLine wsX0_wordOfLine (rk 0) (va_Pc [.int x] (fun U => True)) (QcRead (f_lw x)) 0 0 (fun _ => False) := by
  refine Met.ofW (cc := cX0_wordOfLine) (maxL := 1) (ret := (some .int)) (by decide) rfl ?_
  intro p e s m args below meth c s₁ B hml hv
  obtain ⟨rfl, -⟩ := hv
  have hx := B.exec
  have hb := B.bytes
  have hr := B.returns
  have hB : ∀ w ∈ bX0, w.before _ s = true := fun w h => atoms_spec (ws := wsX0_wordOfLine) B.pre w (List.mem_cons_of_mem _ h)
  have hown : s.vm.findClass RX0 = some m.cls := findClass_of_methodNamed B.named
  have hlocks := B.notSynchronized
  have hl := lv_entry ([.int x]) (n := 1) (Nat.le_of_ble_eq_true rfl)
  rw [lg_entry_eq]
  generalize (lg_sl ([.int x]) ++ List.replicate (1 - (lg_sl ([.int x])).length) Slot.unset).toArray = ls at hl ⊢
  have hl : lv_has ls 1 [(0, .int x)] := hl
  refine lv_iload_n hx hb dX0_wordOfLine_0 rfl (lv_at hl 0 rfl) ?_
  refine lv_bipush (v := 22) hx hb dX0_wordOfLine_1 (by decide) ?_
  refine lv_iushr (v := uS x 22) hx hb dX0_wordOfLine_3 rfl ?_
  refine lv_sipush (v := 255) hx hb dX0_wordOfLine_4 (by decide) ?_
  refine lv_iand hx hb dX0_wordOfLine_7 ?_
  exact W.iret (v := ((uS x 22) &&& 255)) hx hb hr (fun t ht _ => ⟨congrArg (fun z => Outcome.returned (some (Value.int z))) (rfl), ht⟩) (fun q h => by cases h) dX0_wordOfLine_8
set_option maxRecDepth 100000 in
theorem ck0_wordOfLine {p : Program} {l : Launch} {e : Env} {R : Room} {s : State} {m : MethodId} {args : Array Value} {below : List Frame} {meth : Method} {c : Code} {H : Heap} {locs : List Loc} {cells slots : Nat} {Q : State → Prop} {cc : ByteArray} {nL pc : Nat} {ls : Array Slot} {rest : List Value} {x : Int32} (hx : p.tables.exec = Jvm.exec) (hb : c.code = cc) (hml : c.maxLocals = nL) (hown : s.vm.findClass RX0 = some m.cls) (hB : ∀ w ∈ bX0, w.before args s = true) (hsz : ls.size = nL)   (hd : decode cc pc = .ok (.invokestatic 165, 3)) (hF : 1 ≤ R.frames) (hLo : 20 ≤ R.locals) (hc : cells ≤ R.cells ∧ slots ≤ R.slots) (hst : (rest.map fun v => v.category).sum ≤ 8)
    (kk : W p l e R s m args below meth c H locs cells slots Q (F0 m (pc + 3) ls (.int (f_lw x) :: rest))) : W p l e R s m args below meth c H locs cells slots Q (F0 m pc ls (.int x :: rest)) := by
  refine W.callR (W.runS (As := [.int x]) (rest := rest) ⟨hx, hb, hml, hown, hB⟩ (cm0_wordOfLine l x) (cwS 1 hB goX0_wordOfLine rfl rfl rfl ⟨rfl, by decide, by decide, by decide +kernel⟩ ⟨hF, hLo⟩) ⟨fun _ _ _ _ q => q, fun _ _ _ => ⟨rfl, trivial⟩⟩ rfl rfl hsz rfl (lv_room hst) hd hc) kk
set_option maxHeartbeats 4000000 in
set_option maxRecDepth 100000 in
theorem cm0_namesWord (l : Launch) (x : Int32) : Met l yX0_namesWord wsX0_namesWord (rk 1) (va_Pc [.int x] (fun U => True)) (QcRead (bI (f_names x))) 0 0 (fun _ => False) := by
  refine Met.ofW (cc := cX0_namesWord) (maxL := 1) (ret := (some .boolean)) (by decide) rfl ?_
  intro p e s m args below meth c s₁ B hml hv
  obtain ⟨rfl, -⟩ := hv
  have hx := B.exec
  have hb := B.bytes
  have hr := B.returns
  have hB : ∀ w ∈ bX0, w.before _ s = true := fun w h => atoms_spec (ws := wsX0_namesWord) B.pre w (List.mem_cons_of_mem _ h)
  have hown : s.vm.findClass RX0 = some m.cls := findClass_of_methodNamed B.named
  have hlocks := B.notSynchronized
  have hl := lv_entry ([.int x]) (n := 1) (Nat.le_of_ble_eq_true rfl)
  rw [lg_entry_eq]
  generalize (lg_sl ([.int x]) ++ List.replicate (1 - (lg_sl ([.int x])).length) Slot.unset).toArray = ls at hl ⊢
  have hl : lv_has ls 1 [(0, .int x)] := hl
  refine lv_iload_n hx hb dX0_namesWord_0 rfl (lv_at hl 0 rfl) ?_
  refine lv_ldc (v := 1073741824) hx hb hown (hB _ mX0_k_168) dX0_namesWord_1 ?_
  refine lv_iand hx hb dX0_namesWord_3 ?_
  refine lv_if_eq (tgt := 21) hx hb dX0_namesWord_4 rfl (fun h1 => ?_) (fun h1 => ?_)
  · skip
    refine lv_iconst (v := 0) hx hb dX0_namesWord_21 (by decide) ?_
    exact W.zret (v := 0) hx hb hr (rfl) (fun t ht _ => ⟨congrArg (fun z => Outcome.returned (some (Value.int z))) (by simp [f_names, bI, h1]), ht⟩) (fun q h => by cases h) dX0_namesWord_22
  · skip
    refine lv_iload_n hx hb dX0_namesWord_7 rfl (lv_at hl 0 rfl) ?_
    refine ck0_wordOfLine hx hb hml hown hB hl.1  dX0_namesWord_8 (Nat.le_of_ble_eq_true rfl) (Nat.le_of_ble_eq_true rfl) ⟨Nat.zero_le _, Nat.zero_le _⟩ (Nat.le_of_ble_eq_true rfl) ?_
    refine lv_sipush (v := 160) hx hb dX0_namesWord_11 (by decide) ?_
    refine lv_icmp_ge (tgt := 21) hx hb dX0_namesWord_14 rfl (fun h2 => ?_) (fun h2 => ?_)
    · skip
      refine lv_iconst (v := 0) hx hb dX0_namesWord_21 (by decide) ?_
      exact W.zret (v := 0) hx hb hr (rfl) (fun t ht _ => ⟨congrArg (fun z => Outcome.returned (some (Value.int z))) (by simp [f_names, bI, h2]), ht⟩) (fun q h => by cases h) dX0_namesWord_22
    · skip
      refine lv_iconst (v := 1) hx hb dX0_namesWord_17 (by decide) ?_
      refine lv_goto (tgt := 22) hx hb dX0_namesWord_18 rfl ?_
      exact W.zret (v := 1) hx hb hr (rfl) (fun t ht _ => ⟨congrArg (fun z => Outcome.returned (some (Value.int z))) (by simp [f_names, bI, h1, h2]), ht⟩) (fun q h => by cases h) dX0_namesWord_22
set_option maxRecDepth 100000 in
theorem ck0_namesWord {p : Program} {l : Launch} {e : Env} {R : Room} {s : State} {m : MethodId} {args : Array Value} {below : List Frame} {meth : Method} {c : Code} {H : Heap} {locs : List Loc} {cells slots : Nat} {Q : State → Prop} {cc : ByteArray} {nL pc : Nat} {ls : Array Slot} {rest : List Value} {x : Int32} (hx : p.tables.exec = Jvm.exec) (hb : c.code = cc) (hml : c.maxLocals = nL) (hown : s.vm.findClass RX0 = some m.cls) (hB : ∀ w ∈ bX0, w.before args s = true) (hsz : ls.size = nL)   (hd : decode cc pc = .ok (.invokestatic 156, 3)) (hF : 2 ≤ R.frames) (hLo : 50 ≤ R.locals) (hc : cells ≤ R.cells ∧ slots ≤ R.slots) (hst : (rest.map fun v => v.category).sum ≤ 8)
    (kk : W p l e R s m args below meth c H locs cells slots Q (F0 m (pc + 3) ls (.int (bI (f_names x)) :: rest))) : W p l e R s m args below meth c H locs cells slots Q (F0 m pc ls (.int x :: rest)) := by
  refine W.callR (W.runS (As := [.int x]) (rest := rest) ⟨hx, hb, hml, hown, hB⟩ (cm0_namesWord l x) (cwS 1 hB goX0_namesWord rfl rfl rfl ⟨rfl, by decide, by decide, by decide +kernel⟩ ⟨hF, hLo⟩) ⟨fun _ _ _ _ q => q, fun _ _ _ => ⟨rfl, trivial⟩⟩ rfl rfl hsz rfl (lv_room hst) hd hc) kk
