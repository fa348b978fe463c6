set_option maxHeartbeats 4000000 in
set_option maxRecDepth 100000 in
theorem cm1_size (l : Launch) (x : Int32) : Met l yX1_size wsX1_size (rk 0) (va_Pc [.int x] (fun U => True)) (QcRead (g_size x)) 0 0 (fun _ => False) := by
  refine Met.ofW (cc := cX1_size) (maxL := 1) (ret := (some .int)) (by decide) rfl ?_
  intro p e s m args below meth c s₁ Bd hml hv
  obtain ⟨rfl, -⟩ := hv
  have hx := Bd.exec
  have hb := Bd.bytes
  have hr := Bd.returns
  have hB : ∀ w ∈ bX1, w.before _ s = true := fun w h => atoms_spec (ws := wsX1_size) Bd.pre w (List.mem_cons_of_mem _ h)
  have hown : s.vm.findClass RX1 = some m.cls := findClass_of_methodNamed Bd.named
  have hlocks := Bd.notSynchronized
  have hl := lv_entry ([.int x]) (n := 1) (Nat.le_of_ble_eq_true rfl)
  rw [lg_entry_eq]
  generalize (lg_sl ([.int x]) ++ List.replicate (1 - (lg_sl ([.int x])).length) Slot.unset).toArray = ls at hl ⊢
  have hl : lv_has ls 1 [(0, .int x)] := hl
  refine lv_iload_n hx hb dX1_size_0 rfl (lv_at hl 0 rfl) ?_
  refine lv_iconst (v := 1) hx hb dX1_size_1 (by decide) ?_
  refine lv_iand hx hb dX1_size_2 ?_
  refine lv_iload_n hx hb dX1_size_3 rfl (lv_at hl 0 rfl) ?_
  refine lv_iconst (v := 1) hx hb dX1_size_4 (by decide) ?_
  refine lv_ishr hx hb dX1_size_5 ?_
  refine lv_iconst (v := 1) hx hb dX1_size_6 (by decide) ?_
  refine lv_iand hx hb dX1_size_7 ?_
  refine lv_iadd hx hb dX1_size_8 ?_
  refine lv_iload_n hx hb dX1_size_9 rfl (lv_at hl 0 rfl) ?_
  refine lv_iconst (v := 2) hx hb dX1_size_10 (by decide) ?_
  refine lv_ishr hx hb dX1_size_11 ?_
  refine lv_iconst (v := 1) hx hb dX1_size_12 (by decide) ?_
  refine lv_iand hx hb dX1_size_13 ?_
  refine lv_iadd hx hb dX1_size_14 ?_
  exact W.iret (v := (((x &&& 1) + ((x >>> ((1 : Int32) &&& 31)) &&& 1)) + ((x >>> ((2 : Int32) &&& 31)) &&& 1))) hx hb hr (fun t ht _ => ⟨congrArg (fun z => Outcome.returned (some (Value.int z))) (rfl), ht⟩) (fun q h => by cases h) dX1_size_15
set_option maxRecDepth 100000 in
theorem ck1_size {p : Program} {l : Launch} {e : Env} {R : Room} {s : State} {m : MethodId} {args : Array Value} {below : List Frame} {meth : Method} {c : Code} {H : Heap} {locs : List Loc} {cells slots : Nat} {Q : State → Prop} {cc : ByteArray} {nL pc : Nat} {ls : Array Slot} {rest : List Value} {x : Int32} (hx : p.tables.exec = Jvm.exec) (hb : c.code = cc) (hml : c.maxLocals = nL) (hown : s.vm.findClass RX1 = some m.cls) (hB : ∀ w ∈ bX1, w.before args s = true) (hsz : ls.size = nL)   (hd : decode cc pc = .ok (.invokestatic 36, 3)) (hF : 1 ≤ R.frames) (hLo : 20 ≤ R.locals) (hc : cells ≤ R.cells ∧ slots ≤ R.slots) (hst : (rest.map fun v => v.category).sum ≤ 8)
    (kk : W p l e R s m args below meth c H locs cells slots Q (F0 m (pc + 3) ls (.int (g_size x) :: rest))) : W p l e R s m args below meth c H locs cells slots Q (F0 m pc ls (.int x :: rest)) := by
  refine W.callR (W.runS (As := [.int x]) (rest := rest) ⟨hx, hb, hml, hown, hB⟩ (cm1_size l x) (cwS 1 hB goX1_size rfl rfl rfl ⟨rfl, by decide, by decide, by decide +kernel⟩ ⟨hF, hLo⟩) ⟨fun _ _ _ _ q => q, fun _ _ _ => ⟨rfl, trivial⟩⟩ rfl rfl hsz rfl (lv_room hst) hd hc) kk
set_option maxHeartbeats 4000000 in
set_option maxRecDepth 100000 in
theorem cm1_single (l : Launch) (x : Int32) : Met l yX1_single wsX1_single (rk 0) (va_Pc [.int x] (fun U => True)) (QcRead (g_single x)) 0 0 (fun _ => False) := by
  refine Met.ofW (cc := cX1_single) (maxL := 1) (ret := (some .int)) (by decide) rfl ?_
  intro p e s m args below meth c s₁ Bd hml hv
  obtain ⟨rfl, -⟩ := hv
  have hx := Bd.exec
  have hb := Bd.bytes
  have hr := Bd.returns
  have hB : ∀ w ∈ bX1, w.before _ s = true := fun w h => atoms_spec (ws := wsX1_single) Bd.pre w (List.mem_cons_of_mem _ h)
  have hown : s.vm.findClass RX1 = some m.cls := findClass_of_methodNamed Bd.named
  have hlocks := Bd.notSynchronized
  have hl := lv_entry ([.int x]) (n := 1) (Nat.le_of_ble_eq_true rfl)
  rw [lg_entry_eq]
  generalize (lg_sl ([.int x]) ++ List.replicate (1 - (lg_sl ([.int x])).length) Slot.unset).toArray = ls at hl ⊢
  have hl : lv_has ls 1 [(0, .int x)] := hl
  refine lv_iload_n hx hb dX1_single_0 rfl (lv_at hl 0 rfl) ?_
  refine lv_if_ne (tgt := 8) hx hb dX1_single_1 rfl (fun h1 => ?_) (fun h1 => ?_)
  · skip
    refine lv_iload_n hx hb dX1_single_8 rfl (lv_at hl 0 rfl) ?_
    refine lv_iconst (v := 1) hx hb dX1_single_9 (by decide) ?_
    refine lv_icmp_ne (tgt := 17) hx hb dX1_single_10 rfl (fun h2 => ?_) (fun h2 => ?_)
    · skip
      refine lv_iload_n hx hb dX1_single_17 rfl (lv_at hl 0 rfl) ?_
      refine lv_iconst (v := 2) hx hb dX1_single_18 (by decide) ?_
      refine lv_icmp_ne (tgt := 26) hx hb dX1_single_19 rfl (fun h3 => ?_) (fun h3 => ?_)
      · skip
        refine lv_iconst (v := 3) hx hb dX1_single_26 (by decide) ?_
        exact W.iret (v := 3) hx hb hr (fun t ht _ => ⟨congrArg (fun z => Outcome.returned (some (Value.int z))) (by rw [g_single, if_neg h1, if_neg h2, if_neg h3]), ht⟩) (fun q h => by cases h) dX1_single_27
      · skip
        refine lv_iconst (v := 2) hx hb dX1_single_22 (by decide) ?_
        refine lv_goto (tgt := 27) hx hb dX1_single_23 rfl ?_
        exact W.iret (v := 2) hx hb hr (fun t ht _ => ⟨congrArg (fun z => Outcome.returned (some (Value.int z))) (by rw [g_single, if_neg h1, if_neg h2, if_pos h3]), ht⟩) (fun q h => by cases h) dX1_single_27
    · skip
      refine lv_iconst (v := 1) hx hb dX1_single_13 (by decide) ?_
      refine lv_goto (tgt := 27) hx hb dX1_single_14 rfl ?_
      exact W.iret (v := 1) hx hb hr (fun t ht _ => ⟨congrArg (fun z => Outcome.returned (some (Value.int z))) (by rw [g_single, if_neg h1, if_pos h2]), ht⟩) (fun q h => by cases h) dX1_single_27
  · skip
    refine lv_iconst (v := 0) hx hb dX1_single_4 (by decide) ?_
    refine lv_goto (tgt := 27) hx hb dX1_single_5 rfl ?_
    exact W.iret (v := 0) hx hb hr (fun t ht _ => ⟨congrArg (fun z => Outcome.returned (some (Value.int z))) (by rw [g_single, if_pos h1]), ht⟩) (fun q h => by cases h) dX1_single_27
set_option maxRecDepth 100000 in
theorem ck1_single {p : Program} {l : Launch} {e : Env} {R : Room} {s : State} {m : MethodId} {args : Array Value} {below : List Frame} {meth : Method} {c : Code} {H : Heap} {locs : List Loc} {cells slots : Nat} {Q : State → Prop} {cc : ByteArray} {nL pc : Nat} {ls : Array Slot} {rest : List Value} {x : Int32} (hx : p.tables.exec = Jvm.exec) (hb : c.code = cc) (hml : c.maxLocals = nL) (hown : s.vm.findClass RX1 = some m.cls) (hB : ∀ w ∈ bX1, w.before args s = true) (hsz : ls.size = nL)   (hd : decode cc pc = .ok (.invokestatic 40, 3)) (hF : 1 ≤ R.frames) (hLo : 20 ≤ R.locals) (hc : cells ≤ R.cells ∧ slots ≤ R.slots) (hst : (rest.map fun v => v.category).sum ≤ 8)
    (kk : W p l e R s m args below meth c H locs cells slots Q (F0 m (pc + 3) ls (.int (g_single x) :: rest))) : W p l e R s m args below meth c H locs cells slots Q (F0 m pc ls (.int x :: rest)) := by
  refine W.callR (W.runS (As := [.int x]) (rest := rest) ⟨hx, hb, hml, hown, hB⟩ (cm1_single l x) (cwS 1 hB goX1_single rfl rfl rfl ⟨rfl, by decide, by decide, by decide +kernel⟩ ⟨hF, hLo⟩) ⟨fun _ _ _ _ q => q, fun _ _ _ => ⟨rfl, trivial⟩⟩ rfl rfl hsz rfl (lv_room hst) hd hc) kk
set_option maxHeartbeats 4000000 in
set_option maxRecDepth 100000 in
theorem cm1_meaning (l : Launch) (x : Int32) : Met l yX1_meaning wsX1_meaning (rk 1) (va_Pc [.int x] (fun U => True)) (QcRead (g_mean x)) 0 0 (fun _ => False) := by
  refine Met.ofW (cc := cX1_meaning) (maxL := 1) (ret := (some .int)) (by decide) rfl ?_
  intro p e s m args below meth c s₁ Bd hml hv
  obtain ⟨rfl, -⟩ := hv
  have hx := Bd.exec
  have hb := Bd.bytes
  have hr := Bd.returns
  have hB : ∀ w ∈ bX1, w.before _ s = true := fun w h => atoms_spec (ws := wsX1_meaning) Bd.pre w (List.mem_cons_of_mem _ h)
  have hown : s.vm.findClass RX1 = some m.cls := findClass_of_methodNamed Bd.named
  have hlocks := Bd.notSynchronized
  have hl := lv_entry ([.int x]) (n := 1) (Nat.le_of_ble_eq_true rfl)
  rw [lg_entry_eq]
  generalize (lg_sl ([.int x]) ++ List.replicate (1 - (lg_sl ([.int x])).length) Slot.unset).toArray = ls at hl ⊢
  have hl : lv_has ls 1 [(0, .int x)] := hl
  refine lv_iload_n hx hb dX1_meaning_0 rfl (lv_at hl 0 rfl) ?_
  refine ck1_size hx hb hml hown hB hl.1  dX1_meaning_1 (Nat.le_of_ble_eq_true rfl) (Nat.le_of_ble_eq_true rfl) ⟨Nat.zero_le _, Nat.zero_le _⟩ (Nat.le_of_ble_eq_true rfl) ?_
  refine lv_iconst (v := 2) hx hb dX1_meaning_4 (by decide) ?_
  refine lv_icmp_ge (tgt := 15) hx hb dX1_meaning_5 rfl (fun h1 => ?_) (fun h1 => ?_)
  · skip
    refine lv_bipush (v := 7) hx hb dX1_meaning_15 (by decide) ?_
    refine lv_iload_n hx hb dX1_meaning_17 rfl (lv_at hl 0 rfl) ?_
    refine lv_isub hx hb dX1_meaning_18 ?_
    refine ck1_single hx hb hml hown hB hl.1  dX1_meaning_19 (Nat.le_of_ble_eq_true rfl) (Nat.le_of_ble_eq_true rfl) ⟨Nat.zero_le _, Nat.zero_le _⟩ (Nat.le_of_ble_eq_true rfl) ?_
    exact W.iret (v := (g_single (7 - x))) hx hb hr (fun t ht _ => ⟨congrArg (fun z => Outcome.returned (some (Value.int z))) (by rw [g_mean, if_pos h1]), ht⟩) (fun q h => by cases h) dX1_meaning_22
  · skip
    refine lv_iload_n hx hb dX1_meaning_8 rfl (lv_at hl 0 rfl) ?_
    refine ck1_single hx hb hml hown hB hl.1  dX1_meaning_9 (Nat.le_of_ble_eq_true rfl) (Nat.le_of_ble_eq_true rfl) ⟨Nat.zero_le _, Nat.zero_le _⟩ (Nat.le_of_ble_eq_true rfl) ?_
    refine lv_goto (tgt := 22) hx hb dX1_meaning_12 rfl ?_
    exact W.iret (v := (g_single x)) hx hb hr (fun t ht _ => ⟨congrArg (fun z => Outcome.returned (some (Value.int z))) (by rw [g_mean, if_neg h1]), ht⟩) (fun q h => by cases h) dX1_meaning_22
set_option maxRecDepth 100000 in
theorem ck1_meaning {p : Program} {l : Launch} {e : Env} {R : Room} {s : State} {m : MethodId} {args : Array Value} {below : List Frame} {meth : Method} {c : Code} {H : Heap} {locs : List Loc} {cells slots : Nat} {Q : State → Prop} {cc : ByteArray} {nL pc : Nat} {ls : Array Slot} {rest : List Value} {x : Int32} (hx : p.tables.exec = Jvm.exec) (hb : c.code = cc) (hml : c.maxLocals = nL) (hown : s.vm.findClass RX1 = some m.cls) (hB : ∀ w ∈ bX1, w.before args s = true) (hsz : ls.size = nL)   (hd : decode cc pc = .ok (.invokestatic 43, 3)) (hF : 2 ≤ R.frames) (hLo : 50 ≤ R.locals) (hc : cells ≤ R.cells ∧ slots ≤ R.slots) (hst : (rest.map fun v => v.category).sum ≤ 8)
    (kk : W p l e R s m args below meth c H locs cells slots Q (F0 m (pc + 3) ls (.int (g_mean x) :: rest))) : W p l e R s m args below meth c H locs cells slots Q (F0 m pc ls (.int x :: rest)) := by
  refine W.callR (W.runS (As := [.int x]) (rest := rest) ⟨hx, hb, hml, hown, hB⟩ (cm1_meaning l x) (cwS 1 hB goX1_meaning rfl rfl rfl ⟨rfl, by decide, by decide, by decide +kernel⟩ ⟨hF, hLo⟩) ⟨fun _ _ _ _ q => q, fun _ _ _ => ⟨rfl, trivial⟩⟩ rfl rfl hsz rfl (lv_room hst) hd hc) kk
set_option maxHeartbeats 4000000 in
set_option maxRecDepth 100000 in
theorem cm1_isKey (l : Launch) (x : Int32) : Met l yX1_isKey wsX1_isKey (rk 0) (va_Pc [.int x] (fun U => True)) (QcRead (bI (f_below x 64))) 0 0 (fun _ => False) := by
  refine Met.ofW (cc := cX1_isKey) (maxL := 1) (ret := (some .boolean)) (by decide) rfl ?_
  intro p e s m args below meth c s₁ Bd hml hv
  obtain ⟨rfl, -⟩ := hv
  have hx := Bd.exec
  have hb := Bd.bytes
  have hr := Bd.returns
  have hB : ∀ w ∈ bX1, w.before _ s = true := fun w h => atoms_spec (ws := wsX1_isKey) Bd.pre w (List.mem_cons_of_mem _ h)
  have hown : s.vm.findClass RX1 = some m.cls := findClass_of_methodNamed Bd.named
  have hlocks := Bd.notSynchronized
  have hl := lv_entry ([.int x]) (n := 1) (Nat.le_of_ble_eq_true rfl)
  rw [lg_entry_eq]
  generalize (lg_sl ([.int x]) ++ List.replicate (1 - (lg_sl ([.int x])).length) Slot.unset).toArray = ls at hl ⊢
  have hl : lv_has ls 1 [(0, .int x)] := hl
  refine lv_iload_n hx hb dX1_isKey_0 rfl (lv_at hl 0 rfl) ?_
  refine lv_if_lt (tgt := 14) hx hb dX1_isKey_1 rfl (fun h1 => ?_) (fun h1 => ?_)
  · skip
    refine lv_iconst (v := 0) hx hb dX1_isKey_14 (by decide) ?_
    exact W.zret (v := 0) hx hb hr (rfl) (fun t ht _ => ⟨congrArg (fun z => Outcome.returned (some (Value.int z))) (by simp [f_below, bI, h1]), ht⟩) (fun q h => by cases h) dX1_isKey_15
  · skip
    refine lv_iload_n hx hb dX1_isKey_4 rfl (lv_at hl 0 rfl) ?_
    refine lv_bipush (v := 64) hx hb dX1_isKey_5 (by decide) ?_
    refine lv_icmp_ge (tgt := 14) hx hb dX1_isKey_7 rfl (fun h2 => ?_) (fun h2 => ?_)
    · skip
      refine lv_iconst (v := 0) hx hb dX1_isKey_14 (by decide) ?_
      exact W.zret (v := 0) hx hb hr (rfl) (fun t ht _ => ⟨congrArg (fun z => Outcome.returned (some (Value.int z))) (by simp [f_below, bI, h2]), ht⟩) (fun q h => by cases h) dX1_isKey_15
    · skip
      refine lv_iconst (v := 1) hx hb dX1_isKey_10 (by decide) ?_
      refine lv_goto (tgt := 15) hx hb dX1_isKey_11 rfl ?_
      exact W.zret (v := 1) hx hb hr (rfl) (fun t ht _ => ⟨congrArg (fun z => Outcome.returned (some (Value.int z))) (by simp [f_below, bI, h1, h2]), ht⟩) (fun q h => by cases h) dX1_isKey_15
set_option maxRecDepth 100000 in
theorem ck1_isKey {p : Program} {l : Launch} {e : Env} {R : Room} {s : State} {m : MethodId} {args : Array Value} {below : List Frame} {meth : Method} {c : Code} {H : Heap} {locs : List Loc} {cells slots : Nat} {Q : State → Prop} {cc : ByteArray} {nL pc : Nat} {ls : Array Slot} {rest : List Value} {x : Int32} (hx : p.tables.exec = Jvm.exec) (hb : c.code = cc) (hml : c.maxLocals = nL) (hown : s.vm.findClass RX1 = some m.cls) (hB : ∀ w ∈ bX1, w.before args s = true) (hsz : ls.size = nL)   (hd : decode cc pc = .ok (.invokestatic 102, 3)) (hF : 1 ≤ R.frames) (hLo : 20 ≤ R.locals) (hc : cells ≤ R.cells ∧ slots ≤ R.slots) (hst : (rest.map fun v => v.category).sum ≤ 8)
    (kk : W p l e R s m args below meth c H locs cells slots Q (F0 m (pc + 3) ls (.int (bI (f_below x 64)) :: rest))) : W p l e R s m args below meth c H locs cells slots Q (F0 m pc ls (.int x :: rest)) := by
  refine W.callR (W.runS (As := [.int x]) (rest := rest) ⟨hx, hb, hml, hown, hB⟩ (cm1_isKey l x) (cwS 1 hB goX1_isKey rfl rfl rfl ⟨rfl, by decide, by decide, by decide +kernel⟩ ⟨hF, hLo⟩) ⟨fun _ _ _ _ q => q, fun _ _ _ => ⟨rfl, trivial⟩⟩ rfl rfl hsz rfl (lv_room hst) hd hc) kk
set_option maxHeartbeats 4000000 in
set_option maxRecDepth 100000 in
theorem cm1_isValue (l : Launch) (x : Int32) : Met l yX1_isValue wsX1_isValue (rk 0) (va_Pc [.int x] (fun U => True)) (QcRead (bI (f_below x 65536))) 0 0 (fun _ => False) := by
  refine Met.ofW (cc := cX1_isValue) (maxL := 1) (ret := (some .boolean)) (by decide) rfl ?_
  intro p e s m args below meth c s₁ Bd hml hv
  obtain ⟨rfl, -⟩ := hv
  have hx := Bd.exec
  have hb := Bd.bytes
  have hr := Bd.returns
  have hB : ∀ w ∈ bX1, w.before _ s = true := fun w h => atoms_spec (ws := wsX1_isValue) Bd.pre w (List.mem_cons_of_mem _ h)
  have hown : s.vm.findClass RX1 = some m.cls := findClass_of_methodNamed Bd.named
  have hlocks := Bd.notSynchronized
  have hl := lv_entry ([.int x]) (n := 1) (Nat.le_of_ble_eq_true rfl)
  rw [lg_entry_eq]
  generalize (lg_sl ([.int x]) ++ List.replicate (1 - (lg_sl ([.int x])).length) Slot.unset).toArray = ls at hl ⊢
  have hl : lv_has ls 1 [(0, .int x)] := hl
  refine lv_iload_n hx hb dX1_isValue_0 rfl (lv_at hl 0 rfl) ?_
  refine lv_if_lt (tgt := 14) hx hb dX1_isValue_1 rfl (fun h1 => ?_) (fun h1 => ?_)
  · skip
    refine lv_iconst (v := 0) hx hb dX1_isValue_14 (by decide) ?_
    exact W.zret (v := 0) hx hb hr (rfl) (fun t ht _ => ⟨congrArg (fun z => Outcome.returned (some (Value.int z))) (by simp [f_below, bI, h1]), ht⟩) (fun q h => by cases h) dX1_isValue_15
  · skip
    refine lv_iload_n hx hb dX1_isValue_4 rfl (lv_at hl 0 rfl) ?_
    refine lv_ldc (v := 65536) hx hb hown (hB _ mX1_k_85) dX1_isValue_5 ?_
    refine lv_icmp_ge (tgt := 14) hx hb dX1_isValue_7 rfl (fun h2 => ?_) (fun h2 => ?_)
    · skip
      refine lv_iconst (v := 0) hx hb dX1_isValue_14 (by decide) ?_
      exact W.zret (v := 0) hx hb hr (rfl) (fun t ht _ => ⟨congrArg (fun z => Outcome.returned (some (Value.int z))) (by simp [f_below, bI, h2]), ht⟩) (fun q h => by cases h) dX1_isValue_15
    · skip
      refine lv_iconst (v := 1) hx hb dX1_isValue_10 (by decide) ?_
      refine lv_goto (tgt := 15) hx hb dX1_isValue_11 rfl ?_
      exact W.zret (v := 1) hx hb hr (rfl) (fun t ht _ => ⟨congrArg (fun z => Outcome.returned (some (Value.int z))) (by simp [f_below, bI, h1, h2]), ht⟩) (fun q h => by cases h) dX1_isValue_15
set_option maxRecDepth 100000 in
theorem ck1_isValue {p : Program} {l : Launch} {e : Env} {R : Room} {s : State} {m : MethodId} {args : Array Value} {below : List Frame} {meth : Method} {c : Code} {H : Heap} {locs : List Loc} {cells slots : Nat} {Q : State → Prop} {cc : ByteArray} {nL pc : Nat} {ls : Array Slot} {rest : List Value} {x : Int32} (hx : p.tables.exec = Jvm.exec) (hb : c.code = cc) (hml : c.maxLocals = nL) (hown : s.vm.findClass RX1 = some m.cls) (hB : ∀ w ∈ bX1, w.before args s = true) (hsz : ls.size = nL)   (hd : decode cc pc = .ok (.invokestatic 105, 3)) (hF : 1 ≤ R.frames) (hLo : 20 ≤ R.locals) (hc : cells ≤ R.cells ∧ slots ≤ R.slots) (hst : (rest.map fun v => v.category).sum ≤ 8)
    (kk : W p l e R s m args below meth c H locs cells slots Q (F0 m (pc + 3) ls (.int (bI (f_below x 65536)) :: rest))) : W p l e R s m args below meth c H locs cells slots Q (F0 m pc ls (.int x :: rest)) := by
  refine W.callR (W.runS (As := [.int x]) (rest := rest) ⟨hx, hb, hml, hown, hB⟩ (cm1_isValue l x) (cwS 1 hB goX1_isValue rfl rfl rfl ⟨rfl, by decide, by decide, by decide +kernel⟩ ⟨hF, hLo⟩) ⟨fun _ _ _ _ q => q, fun _ _ _ => ⟨rfl, trivial⟩⟩ rfl rfl hsz rfl (lv_room hst) hd hc) kk
set_option maxHeartbeats 4000000 in
set_option maxRecDepth 100000 in
theorem cm1_pattern (l : Launch) (dC : Nat → ClassId) (dI : Nat → Nat → Nat) (B : Nat → Nat) (cI : ClassId) (cZ : ClassId) (μ : NS) (w : Nat) (g : Nat) (hw : w < 160) (hg : g < 8) : Met l yX1_pattern wsX1_pattern (rk 0) (va_Pc [.ref (B 0), .int (nI w), .int (nI g)] (fun U => va_P (dC, dI) vwCl (wN B cI cZ μ) U.heap ∧ va_K (dC, dI) vwCl [(cI, .int), (cZ, .boolean)] U)) (QcRead (g_pat (nWc μ) w g)) 0 0 (fun _ => False) := by
  refine Met.ofW (cc := cX1_pattern) (maxL := 5) (ret := (some .int)) (by decide) rfl ?_
  intro p e s m args below meth c s₁ Bd hml hv
  obtain ⟨rfl, hP, hK⟩ := hv
  have hx := Bd.exec
  have hb := Bd.bytes
  have hr := Bd.returns
  have hB : ∀ w ∈ bX1, w.before _ s = true := fun w h => atoms_spec (ws := wsX1_pattern) Bd.pre w (List.mem_cons_of_mem _ h)
  have hown : s.vm.findClass RX1 = some m.cls := findClass_of_methodNamed Bd.named
  have hlocks := Bd.notSynchronized
  have hl := lv_entry ([.ref (B 0), .int (nI w), .int (nI g)]) (n := 5) (Nat.le_of_ble_eq_true rfl)
  rw [lg_entry_eq]
  generalize (lg_sl ([.ref (B 0), .int (nI w), .int (nI g)]) ++ List.replicate (5 - (lg_sl ([.ref (B 0), .int (nI w), .int (nI g)])).length) Slot.unset).toArray = ls at hl ⊢
  have hl : lv_has ls 5 [(0, .ref (B 0)), (1, .int (nI w)), (2, .int (nI g))] := hl
  refine lv_iconst (v := 0) hx hb dX1_pattern_0 (by decide) ?_
  refine lv_istore_n hx hb dX1_pattern_1 rfl hl (by decide) rfl (fun ls hl => ?_)
  have hl : lv_has ls 5 [(3, .int 0), (0, .ref (B 0)), (1, .int (nI w)), (2, .int (nI g))] := hl
  refine lv_iconst (v := 0) hx hb dX1_pattern_2 (by decide) ?_
  refine lv_istore hx hb dX1_pattern_3 hl (by decide) rfl (fun ls hl => ?_)
  have hl : lv_has ls 5 [(4, .int 0), (3, .int 0), (0, .ref (B 0)), (1, .int (nI w)), (2, .int (nI g))] := hl
  have hl := lv_sub (l' := [(0, .ref (B 0)), (1, .int (nI w)), (2, .int (nI g)), (3, .int 0), (4, .int 0)]) hl [2, 3, 4, 1, 0] rfl
  have loop : ∀ (n i : Nat) (a : Int32) (ls : Array Slot), i + n = 3 → lv_has ls 5 [(0, .ref (B 0)), (1, .int (nI w)), (2, .int (nI g)), (3, .int a), (4, .int (nI i))] → g_patL (nWc μ) w g n i a = g_pat (nWc μ) w g → W p l e (headSpec wsX1_pattern (rk 0)).room s m ([.ref (B 0), .int (nI w), .int (nI g)]).toArray below meth c s.heap [] 0 0 (MQ below (QcRead (g_pat (nWc μ) w g)) ([.ref (B 0), .int (nI w), .int (nI g)]).toArray s 0 0 (fun _ => False)) (F0 m 5 ls []) := by
    intro n
    induction n with
    | zero =>
      intro i a ls hi hl hF
      have hi8 : i = 3 := by omega
      subst hi8
      refine lv_iload hx hb dX1_pattern_5 (lv_at hl 4 rfl) ?_
      refine lv_iconst (v := 3) hx hb dX1_pattern_7 (by decide) ?_
      refine lv_icmp_ge (tgt := 47) hx hb dX1_pattern_8 rfl (fun h1 => ?_) (fun h1 => ?_)
      · skip
        refine lv_iload_n hx hb dX1_pattern_47 rfl (lv_at hl 3 rfl) ?_
        exact W.iret (v := a) hx hb hr (fun t ht _ => ⟨congrArg (fun z => Outcome.returned (some (Value.int z))) (hF), ht⟩) (fun q h => by cases h) dX1_pattern_48
      · skip
        exact absurd (by decide) h1
    | succ n ih =>
      intro i a ls hi hl hF
      refine lv_iload hx hb dX1_pattern_5 (lv_at hl 4 rfl) ?_
      refine lv_iconst (v := 3) hx hb dX1_pattern_7 (by decide) ?_
      refine lv_icmp_ge (tgt := 47) hx hb dX1_pattern_8 rfl (fun h1 => ?_) (fun h1 => ?_)
      · skip
        exact absurd h1 (nI_ge (b := 3) (by omega) (by decide))
      · skip
        refine lv_iload_n hx hb dX1_pattern_11 rfl (lv_at hl 3 rfl) ?_
        refine lv_aload_n hx hb dX1_pattern_12 rfl (lv_at hl 0 rfl) ?_
        refine va_get (D := (dC, dI)) (ci := 1) (v := .ref (B 1)) (C := RX1) (T := TX1) (N := 12) hx hb hB inX1 hown hK hP 0 rfl rfl 1 (by decide) (hB _ mX1_f_wordCells) (fun _ h9 => h9) rfl dX1_pattern_13 ?_
        refine lv_bipush (v := 24) hx hb dX1_pattern_16 (by decide) ?_
        refine lv_iload_n hx hb dX1_pattern_18 rfl (lv_at hl 1 rfl) ?_
        refine lv_imul hx hb dX1_pattern_19 ?_
        refine lv_iconst (v := 3) hx hb dX1_pattern_20 (by decide) ?_
        refine lv_iload_n hx hb dX1_pattern_21 rfl (lv_at hl 2 rfl) ?_
        refine lv_imul hx hb dX1_pattern_22 ?_
        refine lv_iadd hx hb dX1_pattern_23 ?_
        refine lv_iload hx hb dX1_pattern_24 (lv_at hl 4 rfl) ?_
        refine lv_iadd hx hb dX1_pattern_26 ?_
        have hidx : (24 * nI w + 3 * nI g) + nI i = nI (24 * w + 3 * g + i) := by rw [← nI_add, ← nI_add, ← pk_mul, ← pk_mul]; rfl
        rw [hidx]
        refine va_zald (D := (dC, dI)) (i := (nI (24 * w + 3 * g + i))) hx hb hK hP 1 1 rfl rfl (vp_in_nI (by omega) (by decide)) dX1_pattern_27 ?_
        rw [show ((nI (24 * w + 3 * g + i))).toNatClampNeg = 24 * w + 3 * g + i from nI_clamp (by omega)]
        refine lv_if_eq (tgt := 38) hx hb dX1_pattern_28 rfl (fun h2 => ?_) (fun h2 => ?_)
        · skip
          refine lv_iconst (v := 0) hx hb dX1_pattern_38 (by decide) ?_
          rw [show (0 : Int32) = g_bit (nWc μ (24 * w + 3 * g + i)) i from (if_pos h2).symm]
          refine lv_iadd hx hb dX1_pattern_39 ?_
          refine lv_istore_n hx hb dX1_pattern_40 rfl hl (by decide) rfl (fun ls hl => ?_)
          have hl : lv_has ls 5 [(3, .int (a + (g_bit (nWc μ (24 * w + 3 * g + i)) i))), (0, .ref (B 0)), (1, .int (nI w)), (2, .int (nI g)), (4, .int (nI i))] := hl
          refine lv_iinc (k := 4) (v := (nI (i + 1))) hx hb dX1_pattern_41 hl rfl (nI_1 i) (by decide) rfl (fun ls hl => ?_)
          have hl : lv_has ls 5 [(4, .int (nI (i + 1))), (3, .int (a + (g_bit (nWc μ (24 * w + 3 * g + i)) i))), (0, .ref (B 0)), (1, .int (nI w)), (2, .int (nI g))] := hl
          refine lv_goto (tgt := 5) hx hb dX1_pattern_44 rfl ?_
          refine ih (i + 1) _ ls (by omega) (lv_sub hl [2, 3, 4, 1, 0] rfl) ?_
          exact hF
        · skip
          refine lv_iconst (v := 1) hx hb dX1_pattern_31 (by decide) ?_
          refine lv_iload hx hb dX1_pattern_32 (lv_at hl 4 rfl) ?_
          refine lv_ishl hx hb dX1_pattern_34 ?_
          refine lv_goto (tgt := 39) hx hb dX1_pattern_35 rfl ?_
          rw [show ((1 <<< (((nI i) : Int32) &&& 31)) : Int32) = g_bit (nWc μ (24 * w + 3 * g + i)) i from (if_neg h2).symm]
          refine lv_iadd hx hb dX1_pattern_39 ?_
          refine lv_istore_n hx hb dX1_pattern_40 rfl hl (by decide) rfl (fun ls hl => ?_)
          have hl : lv_has ls 5 [(3, .int (a + (g_bit (nWc μ (24 * w + 3 * g + i)) i))), (0, .ref (B 0)), (1, .int (nI w)), (2, .int (nI g)), (4, .int (nI i))] := hl
          refine lv_iinc (k := 4) (v := (nI (i + 1))) hx hb dX1_pattern_41 hl rfl (nI_1 i) (by decide) rfl (fun ls hl => ?_)
          have hl : lv_has ls 5 [(4, .int (nI (i + 1))), (3, .int (a + (g_bit (nWc μ (24 * w + 3 * g + i)) i))), (0, .ref (B 0)), (1, .int (nI w)), (2, .int (nI g))] := hl
          refine lv_goto (tgt := 5) hx hb dX1_pattern_44 rfl ?_
          refine ih (i + 1) _ ls (by omega) (lv_sub hl [2, 3, 4, 1, 0] rfl) ?_
          exact hF
  exact loop 3 0 0 ls rfl hl rfl
set_option maxRecDepth 100000 in
theorem ck1_pattern {p : Program} {l : Launch} {e : Env} {R : Room} {s : State} {m : MethodId} {args : Array Value} {below : List Frame} {meth : Method} {c : Code} {H : Heap} {locs : List Loc} {cells slots : Nat} {Q : State → Prop} {cc : ByteArray} {nL pc : Nat} {ls : Array Slot} {rest : List Value} {dC : Nat → ClassId} {dI : Nat → Nat → Nat} {B : Nat → Nat} {cI : ClassId} {cZ : ClassId} {μ : NS} {w : Nat} {g : Nat} (hx : p.tables.exec = Jvm.exec) (hb : c.code = cc) (hml : c.maxLocals = nL) (hown : s.vm.findClass RX1 = some m.cls) (hB : ∀ w ∈ bX1, w.before args s = true) (hsz : ls.size = nL) (hP : va_P (dC, dI) vwCl (wN B cI cZ μ) H) (hK : va_K (dC, dI) vwCl [(cI, .int), (cZ, .boolean)] s) (hw : w < 160) (hg : g < 8) (hd : decode cc pc = .ok (.invokevirtual 46, 3)) (hF : 1 ≤ R.frames) (hLo : 24 ≤ R.locals) (hc : cells ≤ R.cells ∧ slots ≤ R.slots) (hst : (rest.map fun v => v.category).sum ≤ 8)
    (kk : W p l e R s m args below meth c H locs cells slots Q (F0 m (pc + 3) ls (.int (g_pat (nWc μ) w g) :: rest))) : W p l e R s m args below meth c H locs cells slots Q (F0 m pc ls (.int (nI g) :: .int (nI w) :: .ref (B 0) :: rest)) := by
  refine W.callR (W.runV (C := RX1) (As := [.int (nI w), .int (nI g)]) (rest := rest) ⟨hx, hb, hml, hown, hB⟩ (cm1_pattern l dC dI B cI cZ μ w g hw hg) (cwV 2 hB goX1_pattern rfl rfl rfl ⟨rfl, by decide, by decide, by decide +kernel⟩ ⟨hF, hLo⟩) ⟨fun a U g mk q => by obtain ⟨q9, qP, qK⟩ := q; exact ⟨q9, qP, va_K.moved (u := U) (U := U.calling g mk a) (Vm.Alike.refl U.vm) qK⟩, va_recv (q := (RX1, TX1, 12)) hK hP rfl (q0 := 0) rfl, fun U hU hW => ⟨rfl, by rw [hU]; exact hP, va_K.moved hW.alike hK⟩⟩ rfl rfl hsz rfl (lv_room hst) hd hc) kk
set_option maxHeartbeats 4000000 in
set_option maxRecDepth 100000 in
theorem cm1_better (l : Launch) (dC : Nat → ClassId) (dI : Nat → Nat → Nat) (B : Nat → Nat) (cI : ClassId) (cZ : ClassId) (μ : NS) (x : Int32) (y : Int32) : Met l yX1_better wsX1_better (rk 2) (va_Pc [.ref (B 0), .int x, .int y] (fun U => va_P (dC, dI) vwCl (wN B cI cZ μ) U.heap ∧ va_K (dC, dI) vwCl [(cI, .int), (cZ, .boolean)] U)) (QcRead (g_bet x y)) 0 0 (fun _ => False) := by
  refine Met.ofW (cc := cX1_better) (maxL := 6) (ret := (some .int)) (by decide) rfl ?_
  intro p e s m args below meth c s₁ Bd hml hv
  obtain ⟨rfl, hP, hK⟩ := hv
  have hx := Bd.exec
  have hb := Bd.bytes
  have hr := Bd.returns
  have hB : ∀ w ∈ bX1, w.before _ s = true := fun w h => atoms_spec (ws := wsX1_better) Bd.pre w (List.mem_cons_of_mem _ h)
  have hown : s.vm.findClass RX1 = some m.cls := findClass_of_methodNamed Bd.named
  have hlocks := Bd.notSynchronized
  have hl := lv_entry ([.ref (B 0), .int x, .int y]) (n := 6) (Nat.le_of_ble_eq_true rfl)
  rw [lg_entry_eq]
  generalize (lg_sl ([.ref (B 0), .int x, .int y]) ++ List.replicate (6 - (lg_sl ([.ref (B 0), .int x, .int y])).length) Slot.unset).toArray = ls at hl ⊢
  have hl : lv_has ls 6 [(0, .ref (B 0)), (1, .int x), (2, .int y)] := hl
  refine lv_iconst (v := (-1)) hx hb dX1_better_0 (by decide) ?_
  refine lv_istore_n hx hb dX1_better_1 rfl hl (by decide) rfl (fun ls hl => ?_)
  have hl : lv_has ls 6 [(3, .int (-1)), (0, .ref (B 0)), (1, .int x), (2, .int y)] := hl
  refine lv_iconst (v := 0) hx hb dX1_better_2 (by decide) ?_
  refine lv_istore hx hb dX1_better_3 hl (by decide) rfl (fun ls hl => ?_)
  have hl : lv_has ls 6 [(4, .int 0), (3, .int (-1)), (0, .ref (B 0)), (1, .int x), (2, .int y)] := hl
  have hl := lv_sub (l' := [(0, .ref (B 0)), (1, .int x), (2, .int y), (3, .int (-1)), (4, .int 0)]) hl [2, 3, 4, 1, 0] rfl
  have loop : ∀ (n i : Nat) (b : Int32) (ls : Array Slot), i + n = 8 → lv_has ls 6 [(0, .ref (B 0)), (1, .int x), (2, .int y), (3, .int b), (4, .int (nI i))] → g_betL x y n i b = g_bet x y → W p l e (headSpec wsX1_better (rk 2)).room s m ([.ref (B 0), .int x, .int y]).toArray below meth c s.heap [] 0 0 (MQ below (QcRead (g_bet x y)) ([.ref (B 0), .int x, .int y]).toArray s 0 0 (fun _ => False)) (F0 m 5 ls []) := by
    intro n
    induction n with
    | zero =>
      intro i b ls hi hl hF
      have hi8 : i = 8 := by omega
      subst hi8
      refine lv_iload hx hb dX1_better_5 (lv_at hl 4 rfl) ?_
      refine lv_bipush (v := 8) hx hb dX1_better_7 (by decide) ?_
      refine lv_icmp_ge (tgt := 66) hx hb dX1_better_9 rfl (fun h1 => ?_) (fun h1 => ?_)
      · skip
        refine lv_iload_n hx hb dX1_better_66 rfl (lv_at hl 3 rfl) ?_
        exact W.iret (v := b) hx hb hr (fun t ht _ => ⟨congrArg (fun z => Outcome.returned (some (Value.int z))) (hF), ht⟩) (fun q h => by cases h) dX1_better_67
      · skip
        exact absurd (by decide) h1
    | succ n ih =>
      intro i b ls hi hl hF
      refine lv_iload hx hb dX1_better_5 (lv_at hl 4 rfl) ?_
      refine lv_bipush (v := 8) hx hb dX1_better_7 (by decide) ?_
      refine lv_icmp_ge (tgt := 66) hx hb dX1_better_9 rfl (fun h1 => ?_) (fun h1 => ?_)
      · skip
        exact absurd h1 (nI_ge (b := 8) (by omega) (by decide))
      · skip
        refine lv_iload hx hb dX1_better_12 (lv_at hl 4 rfl) ?_
        refine lv_iload_n hx hb dX1_better_14 rfl (lv_at hl 1 rfl) ?_
        refine lv_iand hx hb dX1_better_15 ?_
        refine lv_iload_n hx hb dX1_better_16 rfl (lv_at hl 1 rfl) ?_
        refine lv_icmp_ne (tgt := 33) hx hb dX1_better_17 rfl (fun h2 => ?_) (fun h2 => ?_)
        · skip
          have hfit : g_fit x y i = false := by simp [g_fit, h2]
          refine lv_iconst (v := 0) hx hb dX1_better_33 (by decide) ?_
          refine lv_istore hx hb dX1_better_34 hl (by decide) rfl (fun ls hl => ?_)
          have hl : lv_has ls 6 [(5, .int 0), (0, .ref (B 0)), (1, .int x), (2, .int y), (3, .int b), (4, .int (nI i))] := hl
          refine lv_iload hx hb dX1_better_36 (lv_at hl 0 rfl) ?_
          refine lv_if_eq (tgt := 60) hx hb dX1_better_38 rfl (fun h4 => ?_) (fun h4 => ?_)
          · skip
            refine lv_iinc (k := 5) (v := (nI (i + 1))) hx hb dX1_better_60 hl rfl (nI_1 i) (by decide) rfl (fun ls hl => ?_)
            have hl : lv_has ls 6 [(4, .int (nI (i + 1))), (5, .int 0), (0, .ref (B 0)), (1, .int x), (2, .int y), (3, .int b)] := hl
            refine lv_goto (tgt := 5) hx hb dX1_better_63 rfl ?_
            refine ih (i + 1) _ ls (by omega) (lv_sub hl [2, 3, 4, 5, 0] rfl) ?_
            rw [← hF, g_betL, if_neg (fun h => by rw [hfit] at h; exact absurd h.1 (by decide))]
          · skip
            exact absurd rfl h4
        · skip
          refine lv_iload hx hb dX1_better_20 (lv_at hl 4 rfl) ?_
          refine ck1_meaning hx hb hml hown hB hl.1  dX1_better_22 (Nat.le_of_ble_eq_true rfl) (Nat.le_of_ble_eq_true rfl) ⟨Nat.zero_le _, Nat.zero_le _⟩ (Nat.le_of_ble_eq_true rfl) ?_
          refine lv_iload_n hx hb dX1_better_25 rfl (lv_at hl 2 rfl) ?_
          refine lv_icmp_ne (tgt := 33) hx hb dX1_better_26 rfl (fun h3 => ?_) (fun h3 => ?_)
          · skip
            have hfit : g_fit x y i = false := by simp [g_fit, h3]
            refine lv_iconst (v := 0) hx hb dX1_better_33 (by decide) ?_
            refine lv_istore hx hb dX1_better_34 hl (by decide) rfl (fun ls hl => ?_)
            have hl : lv_has ls 6 [(5, .int 0), (0, .ref (B 0)), (1, .int x), (2, .int y), (3, .int b), (4, .int (nI i))] := hl
            refine lv_iload hx hb dX1_better_36 (lv_at hl 0 rfl) ?_
            refine lv_if_eq (tgt := 60) hx hb dX1_better_38 rfl (fun h4 => ?_) (fun h4 => ?_)
            · skip
              refine lv_iinc (k := 5) (v := (nI (i + 1))) hx hb dX1_better_60 hl rfl (nI_1 i) (by decide) rfl (fun ls hl => ?_)
              have hl : lv_has ls 6 [(4, .int (nI (i + 1))), (5, .int 0), (0, .ref (B 0)), (1, .int x), (2, .int y), (3, .int b)] := hl
              refine lv_goto (tgt := 5) hx hb dX1_better_63 rfl ?_
              refine ih (i + 1) _ ls (by omega) (lv_sub hl [2, 3, 4, 5, 0] rfl) ?_
              rw [← hF, g_betL, if_neg (fun h => by rw [hfit] at h; exact absurd h.1 (by decide))]
            · skip
              exact absurd rfl h4
          · skip
            have hfit : g_fit x y i = true := by simp [g_fit, h2, h3]
            refine lv_iconst (v := 1) hx hb dX1_better_29 (by decide) ?_
            refine lv_goto (tgt := 34) hx hb dX1_better_30 rfl ?_
            refine lv_istore hx hb dX1_better_34 hl (by decide) rfl (fun ls hl => ?_)
            have hl : lv_has ls 6 [(5, .int 1), (0, .ref (B 0)), (1, .int x), (2, .int y), (3, .int b), (4, .int (nI i))] := hl
            refine lv_iload hx hb dX1_better_36 (lv_at hl 0 rfl) ?_
            refine lv_if_eq (tgt := 60) hx hb dX1_better_38 rfl (fun h4 => ?_) (fun h4 => ?_)
            · skip
              exact absurd h4 (by decide)
            · skip
              refine lv_iload_n hx hb dX1_better_41 rfl (lv_at hl 4 rfl) ?_
              refine lv_if_lt (tgt := 57) hx hb dX1_better_42 rfl (fun h5 => ?_) (fun h5 => ?_)
              · skip
                refine lv_iload hx hb dX1_better_57 (lv_at hl 5 rfl) ?_
                refine lv_istore_n hx hb dX1_better_59 rfl hl (by decide) rfl (fun ls hl => ?_)
                have hl : lv_has ls 6 [(3, .int (nI i)), (5, .int 1), (0, .ref (B 0)), (1, .int x), (2, .int y), (4, .int (nI i))] := hl
                refine lv_iinc (k := 5) (v := (nI (i + 1))) hx hb dX1_better_60 hl rfl (nI_1 i) (by decide) rfl (fun ls hl => ?_)
                have hl : lv_has ls 6 [(4, .int (nI (i + 1))), (3, .int (nI i)), (5, .int 1), (0, .ref (B 0)), (1, .int x), (2, .int y)] := hl
                refine lv_goto (tgt := 5) hx hb dX1_better_63 rfl ?_
                refine ih (i + 1) _ ls (by omega) (lv_sub hl [3, 4, 5, 1, 0] rfl) ?_
                rw [← hF, g_betL, if_pos ⟨hfit, Or.inl h5⟩]
              · skip
                refine lv_iload hx hb dX1_better_45 (lv_at hl 5 rfl) ?_
                refine ck1_size hx hb hml hown hB hl.1  dX1_better_47 (Nat.le_of_ble_eq_true rfl) (Nat.le_of_ble_eq_true rfl) ⟨Nat.zero_le _, Nat.zero_le _⟩ (Nat.le_of_ble_eq_true rfl) ?_
                refine lv_iload_n hx hb dX1_better_50 rfl (lv_at hl 4 rfl) ?_
                refine ck1_size hx hb hml hown hB hl.1  dX1_better_51 (Nat.le_of_ble_eq_true rfl) (Nat.le_of_ble_eq_true rfl) ⟨Nat.zero_le _, Nat.zero_le _⟩ (Nat.le_of_ble_eq_true rfl) ?_
                refine lv_icmp_ge (tgt := 60) hx hb dX1_better_54 rfl (fun h6 => ?_) (fun h6 => ?_)
                · skip
                  refine lv_iinc (k := 5) (v := (nI (i + 1))) hx hb dX1_better_60 hl rfl (nI_1 i) (by decide) rfl (fun ls hl => ?_)
                  have hl : lv_has ls 6 [(4, .int (nI (i + 1))), (5, .int 1), (0, .ref (B 0)), (1, .int x), (2, .int y), (3, .int b)] := hl
                  refine lv_goto (tgt := 5) hx hb dX1_better_63 rfl ?_
                  refine ih (i + 1) _ ls (by omega) (lv_sub hl [2, 3, 4, 5, 0] rfl) ?_
                  rw [← hF, g_betL, if_neg (fun h => h.2.elim h5 (fun z => z h6))]
                · skip
                  refine lv_iload hx hb dX1_better_57 (lv_at hl 5 rfl) ?_
                  refine lv_istore_n hx hb dX1_better_59 rfl hl (by decide) rfl (fun ls hl => ?_)
                  have hl : lv_has ls 6 [(3, .int (nI i)), (5, .int 1), (0, .ref (B 0)), (1, .int x), (2, .int y), (4, .int (nI i))] := hl
                  refine lv_iinc (k := 5) (v := (nI (i + 1))) hx hb dX1_better_60 hl rfl (nI_1 i) (by decide) rfl (fun ls hl => ?_)
                  have hl : lv_has ls 6 [(4, .int (nI (i + 1))), (3, .int (nI i)), (5, .int 1), (0, .ref (B 0)), (1, .int x), (2, .int y)] := hl
                  refine lv_goto (tgt := 5) hx hb dX1_better_63 rfl ?_
                  refine ih (i + 1) _ ls (by omega) (lv_sub hl [3, 4, 5, 1, 0] rfl) ?_
                  rw [← hF, g_betL, if_pos ⟨hfit, Or.inr h6⟩]
  exact loop 8 0 (-1) ls rfl hl rfl
set_option maxRecDepth 100000 in
theorem ck1_better {p : Program} {l : Launch} {e : Env} {R : Room} {s : State} {m : MethodId} {args : Array Value} {below : List Frame} {meth : Method} {c : Code} {H : Heap} {locs : List Loc} {cells slots : Nat} {Q : State → Prop} {cc : ByteArray} {nL pc : Nat} {ls : Array Slot} {rest : List Value} {dC : Nat → ClassId} {dI : Nat → Nat → Nat} {B : Nat → Nat} {cI : ClassId} {cZ : ClassId} {μ : NS} {x : Int32} {y : Int32} (hx : p.tables.exec = Jvm.exec) (hb : c.code = cc) (hml : c.maxLocals = nL) (hown : s.vm.findClass RX1 = some m.cls) (hB : ∀ w ∈ bX1, w.before args s = true) (hsz : ls.size = nL) (hP : va_P (dC, dI) vwCl (wN B cI cZ μ) H) (hK : va_K (dC, dI) vwCl [(cI, .int), (cZ, .boolean)] s)  (hd : decode cc pc = .ok (.invokevirtual 50, 3)) (hF : 3 ≤ R.frames) (hLo : 85 ≤ R.locals) (hc : cells ≤ R.cells ∧ slots ≤ R.slots) (hst : (rest.map fun v => v.category).sum ≤ 8)
    (kk : W p l e R s m args below meth c H locs cells slots Q (F0 m (pc + 3) ls (.int (g_bet x y) :: rest))) : W p l e R s m args below meth c H locs cells slots Q (F0 m pc ls (.int y :: .int x :: .ref (B 0) :: rest)) := by
  refine W.callR (W.runV (C := RX1) (As := [.int x, .int y]) (rest := rest) ⟨hx, hb, hml, hown, hB⟩ (cm1_better l dC dI B cI cZ μ x y) (cwV 2 hB goX1_better rfl rfl rfl ⟨rfl, by decide, by decide, by decide +kernel⟩ ⟨hF, hLo⟩) ⟨fun a U g mk q => by obtain ⟨q9, qP, qK⟩ := q; exact ⟨q9, qP, va_K.moved (u := U) (U := U.calling g mk a) (Vm.Alike.refl U.vm) qK⟩, va_recv (q := (RX1, TX1, 12)) hK hP rfl (q0 := 0) rfl, fun U hU hW => ⟨rfl, by rw [hU]; exact hP, va_K.moved hW.alike hK⟩⟩ rfl rfl hsz rfl (lv_room hst) hd hc) kk
set_option maxHeartbeats 4000000 in
set_option maxRecDepth 100000 in
theorem cm1_comesTo (l : Launch) (dC : Nat → ClassId) (dI : Nat → Nat → Nat) (B : Nat → Nat) (cI : ClassId) (cZ : ClassId) (μ : NS) (w : Nat) (v : Int32) (hw : w < 160) : Met l yX1_comesTo wsX1_comesTo (rk 3) (va_Pc [.ref (B 0), .int (nI w), .int v] (fun U => va_P (dC, dI) vwCl (wN B cI cZ μ) U.heap ∧ va_K (dC, dI) vwCl [(cI, .int), (cZ, .boolean)] U)) (QcRead (bI (g_com (nWc μ) w v))) 0 0 (fun _ => False) := by
  refine Met.ofW (cc := cX1_comesTo) (maxL := 4) (ret := (some .boolean)) (by decide) rfl ?_
  intro p e s m args below meth c s₁ Bd hml hv
  obtain ⟨rfl, hP, hK⟩ := hv
  have hx := Bd.exec
  have hb := Bd.bytes
  have hr := Bd.returns
  have hB : ∀ w ∈ bX1, w.before _ s = true := fun w h => atoms_spec (ws := wsX1_comesTo) Bd.pre w (List.mem_cons_of_mem _ h)
  have hown : s.vm.findClass RX1 = some m.cls := findClass_of_methodNamed Bd.named
  have hlocks := Bd.notSynchronized
  have hl := lv_entry ([.ref (B 0), .int (nI w), .int v]) (n := 4) (Nat.le_of_ble_eq_true rfl)
  rw [lg_entry_eq]
  generalize (lg_sl ([.ref (B 0), .int (nI w), .int v]) ++ List.replicate (4 - (lg_sl ([.ref (B 0), .int (nI w), .int v])).length) Slot.unset).toArray = ls at hl ⊢
  have hl : lv_has ls 4 [(0, .ref (B 0)), (1, .int (nI w)), (2, .int v)] := hl
  refine lv_iconst (v := 0) hx hb dX1_comesTo_0 (by decide) ?_
  refine lv_istore_n hx hb dX1_comesTo_1 rfl hl (by decide) rfl (fun ls hl => ?_)
  have hl : lv_has ls 4 [(3, .int 0), (0, .ref (B 0)), (1, .int (nI w)), (2, .int v)] := hl
  have hl := lv_sub (l' := [(0, .ref (B 0)), (1, .int (nI w)), (2, .int v), (3, .int 0)]) hl [1, 2, 3, 0] rfl
  have loop : ∀ (n i : Nat) (ls : Array Slot), i + n = 8 → lv_has ls 4 [(0, .ref (B 0)), (1, .int (nI w)), (2, .int v), (3, .int (nI i))] → g_comL (nWc μ) w v n i = g_com (nWc μ) w v → W p l e (headSpec wsX1_comesTo (rk 3)).room s m ([.ref (B 0), .int (nI w), .int v]).toArray below meth c s.heap [] 0 0 (MQ below (QcRead (bI (g_com (nWc μ) w v))) ([.ref (B 0), .int (nI w), .int v]).toArray s 0 0 (fun _ => False)) (F0 m 2 ls []) := by
    intro n
    induction n with
    | zero =>
      intro i  ls hi hl hF
      have hi8 : i = 8 := by omega
      subst hi8
      refine lv_iload_n hx hb dX1_comesTo_2 rfl (lv_at hl 3 rfl) ?_
      refine lv_bipush (v := 8) hx hb dX1_comesTo_3 (by decide) ?_
      refine lv_icmp_ge (tgt := 36) hx hb dX1_comesTo_5 rfl (fun h1 => ?_) (fun h1 => ?_)
      · skip
        refine lv_iconst (v := 1) hx hb dX1_comesTo_36 (by decide) ?_
        exact W.zret (v := 1) hx hb hr (rfl) (fun t ht _ => ⟨congrArg (fun z => Outcome.returned (some (Value.int z))) (congrArg bI hF), ht⟩) (fun q h => by cases h) dX1_comesTo_37
      · skip
        exact absurd (by decide) h1
    | succ n ih =>
      intro i  ls hi hl hF
      refine lv_iload_n hx hb dX1_comesTo_2 rfl (lv_at hl 3 rfl) ?_
      refine lv_bipush (v := 8) hx hb dX1_comesTo_3 (by decide) ?_
      refine lv_icmp_ge (tgt := 36) hx hb dX1_comesTo_5 rfl (fun h1 => ?_) (fun h1 => ?_)
      · skip
        exact absurd h1 (nI_ge (b := 8) (by omega) (by decide))
      · skip
        refine lv_aload_n hx hb dX1_comesTo_8 rfl (lv_at hl 0 rfl) ?_
        refine lv_aload_n hx hb dX1_comesTo_9 rfl (lv_at hl 0 rfl) ?_
        refine lv_iload_n hx hb dX1_comesTo_10 rfl (lv_at hl 1 rfl) ?_
        refine lv_iload_n hx hb dX1_comesTo_11 rfl (lv_at hl 3 rfl) ?_
        refine ck1_pattern hx hb hml hown hB hl.1 hP hK hw (by omega) dX1_comesTo_12 (Nat.le_of_ble_eq_true rfl) (Nat.le_of_ble_eq_true rfl) ⟨Nat.zero_le _, Nat.zero_le _⟩ (Nat.le_of_ble_eq_true rfl) ?_
        refine lv_iload_n hx hb dX1_comesTo_15 rfl (lv_at hl 2 rfl) ?_
        refine lv_iconst (v := 2) hx hb dX1_comesTo_16 (by decide) ?_
        refine lv_iload_n hx hb dX1_comesTo_17 rfl (lv_at hl 3 rfl) ?_
        refine lv_imul hx hb dX1_comesTo_18 ?_
        refine lv_ishr hx hb dX1_comesTo_19 ?_
        refine lv_iconst (v := 3) hx hb dX1_comesTo_20 (by decide) ?_
        refine lv_iand hx hb dX1_comesTo_21 ?_
        refine ck1_better hx hb hml hown hB hl.1 hP hK dX1_comesTo_22 (Nat.le_of_ble_eq_true rfl) (Nat.le_of_ble_eq_true rfl) ⟨Nat.zero_le _, Nat.zero_le _⟩ (Nat.le_of_ble_eq_true rfl) ?_
        refine lv_if_ge (tgt := 30) hx hb dX1_comesTo_25 rfl (fun h2 => ?_) (fun h2 => ?_)
        · skip
          have h2 : 0 ≤ g_bet (g_pat (nWc μ) w i) (g_two v i) := h2
          refine lv_iinc (k := 3) (v := (nI (i + 1))) hx hb dX1_comesTo_30 hl rfl (nI_1 i) (by decide) rfl (fun ls hl => ?_)
          have hl : lv_has ls 4 [(3, .int (nI (i + 1))), (0, .ref (B 0)), (1, .int (nI w)), (2, .int v)] := hl
          refine lv_goto (tgt := 2) hx hb dX1_comesTo_33 rfl ?_
          refine ih (i + 1)  ls (by omega) (lv_sub hl [1, 2, 3, 0] rfl) ?_
          rw [← hF, g_comL, if_pos h2]
        · skip
          have h2 : ¬ 0 ≤ g_bet (g_pat (nWc μ) w i) (g_two v i) := h2
          refine lv_iconst (v := 0) hx hb dX1_comesTo_28 (by decide) ?_
          exact W.zret (v := 0) hx hb hr (rfl) (fun t ht _ => ⟨congrArg (fun z => Outcome.returned (some (Value.int z))) (by rw [← hF, g_comL, if_neg h2]; rfl), ht⟩) (fun q h => by cases h) dX1_comesTo_29
  exact loop 8 0  ls rfl hl rfl
set_option maxRecDepth 100000 in
theorem ck1_comesTo {p : Program} {l : Launch} {e : Env} {R : Room} {s : State} {m : MethodId} {args : Array Value} {below : List Frame} {meth : Method} {c : Code} {H : Heap} {locs : List Loc} {cells slots : Nat} {Q : State → Prop} {cc : ByteArray} {nL pc : Nat} {ls : Array Slot} {rest : List Value} {dC : Nat → ClassId} {dI : Nat → Nat → Nat} {B : Nat → Nat} {cI : ClassId} {cZ : ClassId} {μ : NS} {w : Nat} {v : Int32} (hx : p.tables.exec = Jvm.exec) (hb : c.code = cc) (hml : c.maxLocals = nL) (hown : s.vm.findClass RX1 = some m.cls) (hB : ∀ w ∈ bX1, w.before args s = true) (hsz : ls.size = nL) (hP : va_P (dC, dI) vwCl (wN B cI cZ μ) H) (hK : va_K (dC, dI) vwCl [(cI, .int), (cZ, .boolean)] s) (hw : w < 160) (hd : decode cc pc = .ok (.invokevirtual 89, 3)) (hF : 4 ≤ R.frames) (hLo : 113 ≤ R.locals) (hc : cells ≤ R.cells ∧ slots ≤ R.slots) (hst : (rest.map fun v => v.category).sum ≤ 8)
    (kk : W p l e R s m args below meth c H locs cells slots Q (F0 m (pc + 3) ls (.int (bI (g_com (nWc μ) w v)) :: rest))) : W p l e R s m args below meth c H locs cells slots Q (F0 m pc ls (.int v :: .int (nI w) :: .ref (B 0) :: rest)) := by
  refine W.callR (W.runV (C := RX1) (As := [.int (nI w), .int v]) (rest := rest) ⟨hx, hb, hml, hown, hB⟩ (cm1_comesTo l dC dI B cI cZ μ w v hw) (cwV 2 hB goX1_comesTo rfl rfl rfl ⟨rfl, by decide, by decide, by decide +kernel⟩ ⟨hF, hLo⟩) ⟨fun a U g mk q => by obtain ⟨q9, qP, qK⟩ := q; exact ⟨q9, qP, va_K.moved (u := U) (U := U.calling g mk a) (Vm.Alike.refl U.vm) qK⟩, va_recv (q := (RX1, TX1, 12)) hK hP rfl (q0 := 0) rfl, fun U hU hW => ⟨rfl, by rw [hU]; exact hP, va_K.moved hW.alike hK⟩⟩ rfl rfl hsz rfl (lv_room hst) hd hc) kk
set_option maxHeartbeats 4000000 in
set_option maxRecDepth 100000 in
theorem cm1_valueOf (l : Launch) (dC : Nat → ClassId) (dI : Nat → Nat → Nat) (B : Nat → Nat) (cI : ClassId) (cZ : ClassId) (μ : NS) (w : Nat) (hw : w < 160) : Met l yX1_valueOf wsX1_valueOf (rk 2) (va_Pc [.ref (B 0), .int (nI w)] (fun U => va_P (dC, dI) vwCl (wN B cI cZ μ) U.heap ∧ va_K (dC, dI) vwCl [(cI, .int), (cZ, .boolean)] U)) (QcRead (g_val (nWc μ) w)) 0 0 (fun _ => False) := by
  refine Met.ofW (cc := cX1_valueOf) (maxL := 4) (ret := (some .int)) (by decide) rfl ?_
  intro p e s m args below meth c s₁ Bd hml hv
  obtain ⟨rfl, hP, hK⟩ := hv
  have hx := Bd.exec
  have hb := Bd.bytes
  have hr := Bd.returns
  have hB : ∀ w ∈ bX1, w.before _ s = true := fun w h => atoms_spec (ws := wsX1_valueOf) Bd.pre w (List.mem_cons_of_mem _ h)
  have hown : s.vm.findClass RX1 = some m.cls := findClass_of_methodNamed Bd.named
  have hlocks := Bd.notSynchronized
  have hl := lv_entry ([.ref (B 0), .int (nI w)]) (n := 4) (Nat.le_of_ble_eq_true rfl)
  rw [lg_entry_eq]
  generalize (lg_sl ([.ref (B 0), .int (nI w)]) ++ List.replicate (4 - (lg_sl ([.ref (B 0), .int (nI w)])).length) Slot.unset).toArray = ls at hl ⊢
  have hl : lv_has ls 4 [(0, .ref (B 0)), (1, .int (nI w))] := hl
  refine lv_iconst (v := 0) hx hb dX1_valueOf_0 (by decide) ?_
  refine lv_istore_n hx hb dX1_valueOf_1 rfl hl (by decide) rfl (fun ls hl => ?_)
  have hl : lv_has ls 4 [(2, .int 0), (0, .ref (B 0)), (1, .int (nI w))] := hl
  refine lv_iconst (v := 0) hx hb dX1_valueOf_2 (by decide) ?_
  refine lv_istore_n hx hb dX1_valueOf_3 rfl hl (by decide) rfl (fun ls hl => ?_)
  have hl : lv_has ls 4 [(3, .int 0), (2, .int 0), (0, .ref (B 0)), (1, .int (nI w))] := hl
  have hl := lv_sub (l' := [(0, .ref (B 0)), (1, .int (nI w)), (2, .int 0), (3, .int 0)]) hl [2, 3, 1, 0] rfl
  have loop : ∀ (n i : Nat) (a : Int32) (ls : Array Slot), i + n = 8 → lv_has ls 4 [(0, .ref (B 0)), (1, .int (nI w)), (2, .int a), (3, .int (nI i))] → g_valL (nWc μ) w n i a = g_val (nWc μ) w → W p l e (headSpec wsX1_valueOf (rk 2)).room s m ([.ref (B 0), .int (nI w)]).toArray below meth c s.heap [] 0 0 (MQ below (QcRead (g_val (nWc μ) w)) ([.ref (B 0), .int (nI w)]).toArray s 0 0 (fun _ => False)) (F0 m 4 ls []) := by
    intro n
    induction n with
    | zero =>
      intro i a ls hi hl hF
      have hi8 : i = 8 := by omega
      subst hi8
      refine lv_iload_n hx hb dX1_valueOf_4 rfl (lv_at hl 3 rfl) ?_
      refine lv_bipush (v := 8) hx hb dX1_valueOf_5 (by decide) ?_
      refine lv_icmp_ge (tgt := 32) hx hb dX1_valueOf_7 rfl (fun h1 => ?_) (fun h1 => ?_)
      · skip
        refine lv_iload_n hx hb dX1_valueOf_32 rfl (lv_at hl 2 rfl) ?_
        exact W.iret (v := a) hx hb hr (fun t ht _ => ⟨congrArg (fun z => Outcome.returned (some (Value.int z))) (hF), ht⟩) (fun q h => by cases h) dX1_valueOf_33
      · skip
        exact absurd (by decide) h1
    | succ n ih =>
      intro i a ls hi hl hF
      refine lv_iload_n hx hb dX1_valueOf_4 rfl (lv_at hl 3 rfl) ?_
      refine lv_bipush (v := 8) hx hb dX1_valueOf_5 (by decide) ?_
      refine lv_icmp_ge (tgt := 32) hx hb dX1_valueOf_7 rfl (fun h1 => ?_) (fun h1 => ?_)
      · skip
        exact absurd h1 (nI_ge (b := 8) (by omega) (by decide))
      · skip
        refine lv_iload_n hx hb dX1_valueOf_10 rfl (lv_at hl 2 rfl) ?_
        refine lv_aload_n hx hb dX1_valueOf_11 rfl (lv_at hl 0 rfl) ?_
        refine lv_iload_n hx hb dX1_valueOf_12 rfl (lv_at hl 1 rfl) ?_
        refine lv_iload_n hx hb dX1_valueOf_13 rfl (lv_at hl 3 rfl) ?_
        refine ck1_pattern hx hb hml hown hB hl.1 hP hK hw (by omega) dX1_valueOf_14 (Nat.le_of_ble_eq_true rfl) (Nat.le_of_ble_eq_true rfl) ⟨Nat.zero_le _, Nat.zero_le _⟩ (Nat.le_of_ble_eq_true rfl) ?_
        refine ck1_meaning hx hb hml hown hB hl.1  dX1_valueOf_17 (Nat.le_of_ble_eq_true rfl) (Nat.le_of_ble_eq_true rfl) ⟨Nat.zero_le _, Nat.zero_le _⟩ (Nat.le_of_ble_eq_true rfl) ?_
        refine lv_iconst (v := 2) hx hb dX1_valueOf_20 (by decide) ?_
        refine lv_iload_n hx hb dX1_valueOf_21 rfl (lv_at hl 3 rfl) ?_
        refine lv_imul hx hb dX1_valueOf_22 ?_
        refine lv_ishl hx hb dX1_valueOf_23 ?_
        refine lv_iadd hx hb dX1_valueOf_24 ?_
        refine lv_istore_n hx hb dX1_valueOf_25 rfl hl (by decide) rfl (fun ls hl => ?_)
        have hl : lv_has ls 4 [(2, .int (a + ((g_mean (g_pat (nWc μ) w i)) <<< (((2 * (nI i)) : Int32) &&& 31)))), (0, .ref (B 0)), (1, .int (nI w)), (3, .int (nI i))] := hl
        refine lv_iinc (k := 3) (v := (nI (i + 1))) hx hb dX1_valueOf_26 hl rfl (nI_1 i) (by decide) rfl (fun ls hl => ?_)
        have hl : lv_has ls 4 [(3, .int (nI (i + 1))), (2, .int (a + ((g_mean (g_pat (nWc μ) w i)) <<< (((2 * (nI i)) : Int32) &&& 31)))), (0, .ref (B 0)), (1, .int (nI w))] := hl
        refine lv_goto (tgt := 4) hx hb dX1_valueOf_29 rfl ?_
        refine ih (i + 1) _ ls (by omega) (lv_sub hl [2, 3, 1, 0] rfl) ?_
        exact hF
  exact loop 8 0 0 ls rfl hl rfl
set_option maxRecDepth 100000 in
theorem ck1_valueOf {p : Program} {l : Launch} {e : Env} {R : Room} {s : State} {m : MethodId} {args : Array Value} {below : List Frame} {meth : Method} {c : Code} {H : Heap} {locs : List Loc} {cells slots : Nat} {Q : State → Prop} {cc : ByteArray} {nL pc : Nat} {ls : Array Slot} {rest : List Value} {dC : Nat → ClassId} {dI : Nat → Nat → Nat} {B : Nat → Nat} {cI : ClassId} {cZ : ClassId} {μ : NS} {w : Nat} (hx : p.tables.exec = Jvm.exec) (hb : c.code = cc) (hml : c.maxLocals = nL) (hown : s.vm.findClass RX1 = some m.cls) (hB : ∀ w ∈ bX1, w.before args s = true) (hsz : ls.size = nL) (hP : va_P (dC, dI) vwCl (wN B cI cZ μ) H) (hK : va_K (dC, dI) vwCl [(cI, .int), (cZ, .boolean)] s) (hw : w < 160) (hd : decode cc pc = .ok (.invokevirtual 82, 3)) (hF : 3 ≤ R.frames) (hLo : 83 ≤ R.locals) (hc : cells ≤ R.cells ∧ slots ≤ R.slots) (hst : (rest.map fun v => v.category).sum ≤ 8)
    (kk : W p l e R s m args below meth c H locs cells slots Q (F0 m (pc + 3) ls (.int (g_val (nWc μ) w) :: rest))) : W p l e R s m args below meth c H locs cells slots Q (F0 m pc ls (.int (nI w) :: .ref (B 0) :: rest)) := by
  refine W.callR (W.runV (C := RX1) (As := [.int (nI w)]) (rest := rest) ⟨hx, hb, hml, hown, hB⟩ (cm1_valueOf l dC dI B cI cZ μ w hw) (cwV 1 hB goX1_valueOf rfl rfl rfl ⟨rfl, by decide, by decide, by decide +kernel⟩ ⟨hF, hLo⟩) ⟨fun a U g mk q => by obtain ⟨q9, qP, qK⟩ := q; exact ⟨q9, qP, va_K.moved (u := U) (U := U.calling g mk a) (Vm.Alike.refl U.vm) qK⟩, va_recv (q := (RX1, TX1, 12)) hK hP rfl (q0 := 0) rfl, fun U hU hW => ⟨rfl, by rw [hU]; exact hP, va_K.moved hW.alike hK⟩⟩ rfl rfl hsz rfl (lv_room hst) hd hc) kk
set_option maxHeartbeats 4000000 in
set_option maxRecDepth 100000 in
theorem cm1_tag (l : Launch) (dC : Nat → ClassId) (dI : Nat → Nat → Nat) (B : Nat → Nat) (cI : ClassId) (cZ : ClassId) (μ : NS) (w : Nat) (hw : w < 160) : Met l yX1_tag wsX1_tag (rk 0) (va_Pc [.ref (B 0), .int (nI w)] (fun U => va_P (dC, dI) vwCl (wN B cI cZ μ) U.heap ∧ va_K (dC, dI) vwCl [(cI, .int), (cZ, .boolean)] U)) (QcRead (g_tag (nTc μ) w)) 0 0 (fun _ => False) := by
  refine Met.ofW (cc := cX1_tag) (maxL := 4) (ret := (some .int)) (by decide) rfl ?_
  intro p e s m args below meth c s₁ Bd hml hv
  obtain ⟨rfl, hP, hK⟩ := hv
  have hx := Bd.exec
  have hb := Bd.bytes
  have hr := Bd.returns
  have hB : ∀ w ∈ bX1, w.before _ s = true := fun w h => atoms_spec (ws := wsX1_tag) Bd.pre w (List.mem_cons_of_mem _ h)
  have hown : s.vm.findClass RX1 = some m.cls := findClass_of_methodNamed Bd.named
  have hlocks := Bd.notSynchronized
  have hl := lv_entry ([.ref (B 0), .int (nI w)]) (n := 4) (Nat.le_of_ble_eq_true rfl)
  rw [lg_entry_eq]
  generalize (lg_sl ([.ref (B 0), .int (nI w)]) ++ List.replicate (4 - (lg_sl ([.ref (B 0), .int (nI w)])).length) Slot.unset).toArray = ls at hl ⊢
  have hl : lv_has ls 4 [(0, .ref (B 0)), (1, .int (nI w))] := hl
  refine lv_iconst (v := 0) hx hb dX1_tag_0 (by decide) ?_
  refine lv_istore_n hx hb dX1_tag_1 rfl hl (by decide) rfl (fun ls hl => ?_)
  have hl : lv_has ls 4 [(2, .int 0), (0, .ref (B 0)), (1, .int (nI w))] := hl
  refine lv_iconst (v := 0) hx hb dX1_tag_2 (by decide) ?_
  refine lv_istore_n hx hb dX1_tag_3 rfl hl (by decide) rfl (fun ls hl => ?_)
  have hl : lv_has ls 4 [(3, .int 0), (2, .int 0), (0, .ref (B 0)), (1, .int (nI w))] := hl
  have hl := lv_sub (l' := [(0, .ref (B 0)), (1, .int (nI w)), (2, .int 0), (3, .int 0)]) hl [2, 3, 1, 0] rfl
  have loop : ∀ (n i : Nat) (a : Int32) (ls : Array Slot), i + n = 8 → lv_has ls 4 [(0, .ref (B 0)), (1, .int (nI w)), (2, .int a), (3, .int (nI i))] → g_tagL (nTc μ) w n i a = g_tag (nTc μ) w → W p l e (headSpec wsX1_tag (rk 0)).room s m ([.ref (B 0), .int (nI w)]).toArray below meth c s.heap [] 0 0 (MQ below (QcRead (g_tag (nTc μ) w)) ([.ref (B 0), .int (nI w)]).toArray s 0 0 (fun _ => False)) (F0 m 4 ls []) := by
    intro n
    induction n with
    | zero =>
      intro i a ls hi hl hF
      have hi8 : i = 8 := by omega
      subst hi8
      refine lv_iload_n hx hb dX1_tag_4 rfl (lv_at hl 3 rfl) ?_
      refine lv_bipush (v := 8) hx hb dX1_tag_5 (by decide) ?_
      refine lv_icmp_ge (tgt := 40) hx hb dX1_tag_7 rfl (fun h1 => ?_) (fun h1 => ?_)
      · skip
        refine lv_iload_n hx hb dX1_tag_40 rfl (lv_at hl 2 rfl) ?_
        exact W.iret (v := a) hx hb hr (fun t ht _ => ⟨congrArg (fun z => Outcome.returned (some (Value.int z))) (hF), ht⟩) (fun q h => by cases h) dX1_tag_41
      · skip
        exact absurd (by decide) h1
    | succ n ih =>
      intro i a ls hi hl hF
      refine lv_iload_n hx hb dX1_tag_4 rfl (lv_at hl 3 rfl) ?_
      refine lv_bipush (v := 8) hx hb dX1_tag_5 (by decide) ?_
      refine lv_icmp_ge (tgt := 40) hx hb dX1_tag_7 rfl (fun h1 => ?_) (fun h1 => ?_)
      · skip
        exact absurd h1 (nI_ge (b := 8) (by omega) (by decide))
      · skip
        refine lv_iload_n hx hb dX1_tag_10 rfl (lv_at hl 2 rfl) ?_
        refine lv_aload_n hx hb dX1_tag_11 rfl (lv_at hl 0 rfl) ?_
        refine va_get (D := (dC, dI)) (ci := 1) (v := .ref (B 2)) (C := RX1) (T := TX1) (N := 12) hx hb hB inX1 hown hK hP 0 rfl rfl 2 (by decide) (hB _ mX1_f_tagCells) (fun _ h9 => h9) rfl dX1_tag_12 ?_
        refine lv_bipush (v := 8) hx hb dX1_tag_15 (by decide) ?_
        refine lv_iload_n hx hb dX1_tag_17 rfl (lv_at hl 1 rfl) ?_
        refine lv_imul hx hb dX1_tag_18 ?_
        refine lv_iload_n hx hb dX1_tag_19 rfl (lv_at hl 3 rfl) ?_
        refine lv_iadd hx hb dX1_tag_20 ?_
        have hidx : 8 * nI w + nI i = nI (8 * w + i) := by rw [← nI_add, ← pk_mul]; rfl
        rw [hidx]
        refine va_zald (D := (dC, dI)) (i := (nI (8 * w + i))) hx hb hK hP 2 1 rfl rfl (vp_in_nI (by omega) (by decide)) dX1_tag_21 ?_
        rw [show ((nI (8 * w + i))).toNatClampNeg = 8 * w + i from nI_clamp (by omega)]
        refine lv_if_eq (tgt := 31) hx hb dX1_tag_22 rfl (fun h2 => ?_) (fun h2 => ?_)
        · skip
          refine lv_iconst (v := 0) hx hb dX1_tag_31 (by decide) ?_
          rw [show (0 : Int32) = g_bit (nTc μ (8 * w + i)) i from (if_pos h2).symm]
          refine lv_iadd hx hb dX1_tag_32 ?_
          refine lv_istore_n hx hb dX1_tag_33 rfl hl (by decide) rfl (fun ls hl => ?_)
          have hl : lv_has ls 4 [(2, .int (a + (g_bit (nTc μ (8 * w + i)) i))), (0, .ref (B 0)), (1, .int (nI w)), (3, .int (nI i))] := hl
          refine lv_iinc (k := 3) (v := (nI (i + 1))) hx hb dX1_tag_34 hl rfl (nI_1 i) (by decide) rfl (fun ls hl => ?_)
          have hl : lv_has ls 4 [(3, .int (nI (i + 1))), (2, .int (a + (g_bit (nTc μ (8 * w + i)) i))), (0, .ref (B 0)), (1, .int (nI w))] := hl
          refine lv_goto (tgt := 4) hx hb dX1_tag_37 rfl ?_
          refine ih (i + 1) _ ls (by omega) (lv_sub hl [2, 3, 1, 0] rfl) ?_
          exact hF
        · skip
          refine lv_iconst (v := 1) hx hb dX1_tag_25 (by decide) ?_
          refine lv_iload_n hx hb dX1_tag_26 rfl (lv_at hl 3 rfl) ?_
          refine lv_ishl hx hb dX1_tag_27 ?_
          refine lv_goto (tgt := 32) hx hb dX1_tag_28 rfl ?_
          rw [show ((1 <<< (((nI i) : Int32) &&& 31)) : Int32) = g_bit (nTc μ (8 * w + i)) i from (if_neg h2).symm]
          refine lv_iadd hx hb dX1_tag_32 ?_
          refine lv_istore_n hx hb dX1_tag_33 rfl hl (by decide) rfl (fun ls hl => ?_)
          have hl : lv_has ls 4 [(2, .int (a + (g_bit (nTc μ (8 * w + i)) i))), (0, .ref (B 0)), (1, .int (nI w)), (3, .int (nI i))] := hl
          refine lv_iinc (k := 3) (v := (nI (i + 1))) hx hb dX1_tag_34 hl rfl (nI_1 i) (by decide) rfl (fun ls hl => ?_)
          have hl : lv_has ls 4 [(3, .int (nI (i + 1))), (2, .int (a + (g_bit (nTc μ (8 * w + i)) i))), (0, .ref (B 0)), (1, .int (nI w))] := hl
          refine lv_goto (tgt := 4) hx hb dX1_tag_37 rfl ?_
          refine ih (i + 1) _ ls (by omega) (lv_sub hl [2, 3, 1, 0] rfl) ?_
          exact hF
  exact loop 8 0 0 ls rfl hl rfl
set_option maxRecDepth 100000 in
theorem ck1_tag {p : Program} {l : Launch} {e : Env} {R : Room} {s : State} {m : MethodId} {args : Array Value} {below : List Frame} {meth : Method} {c : Code} {H : Heap} {locs : List Loc} {cells slots : Nat} {Q : State → Prop} {cc : ByteArray} {nL pc : Nat} {ls : Array Slot} {rest : List Value} {dC : Nat → ClassId} {dI : Nat → Nat → Nat} {B : Nat → Nat} {cI : ClassId} {cZ : ClassId} {μ : NS} {w : Nat} (hx : p.tables.exec = Jvm.exec) (hb : c.code = cc) (hml : c.maxLocals = nL) (hown : s.vm.findClass RX1 = some m.cls) (hB : ∀ w ∈ bX1, w.before args s = true) (hsz : ls.size = nL) (hP : va_P (dC, dI) vwCl (wN B cI cZ μ) H) (hK : va_K (dC, dI) vwCl [(cI, .int), (cZ, .boolean)] s) (hw : w < 160) (hd : decode cc pc = .ok (.invokevirtual 53, 3)) (hF : 1 ≤ R.frames) (hLo : 23 ≤ R.locals) (hc : cells ≤ R.cells ∧ slots ≤ R.slots) (hst : (rest.map fun v => v.category).sum ≤ 8)
    (kk : W p l e R s m args below meth c H locs cells slots Q (F0 m (pc + 3) ls (.int (g_tag (nTc μ) w) :: rest))) : W p l e R s m args below meth c H locs cells slots Q (F0 m pc ls (.int (nI w) :: .ref (B 0) :: rest)) := by
  refine W.callR (W.runV (C := RX1) (As := [.int (nI w)]) (rest := rest) ⟨hx, hb, hml, hown, hB⟩ (cm1_tag l dC dI B cI cZ μ w hw) (cwV 1 hB goX1_tag rfl rfl rfl ⟨rfl, by decide, by decide, by decide +kernel⟩ ⟨hF, hLo⟩) ⟨fun a U g mk q => by obtain ⟨q9, qP, qK⟩ := q; exact ⟨q9, qP, va_K.moved (u := U) (U := U.calling g mk a) (Vm.Alike.refl U.vm) qK⟩, va_recv (q := (RX1, TX1, 12)) hK hP rfl (q0 := 0) rfl, fun U hU hW => ⟨rfl, by rw [hU]; exact hP, va_K.moved hW.alike hK⟩⟩ rfl rfl hsz rfl (lv_room hst) hd hc) kk
set_option maxHeartbeats 4000000 in
set_option maxRecDepth 100000 in
theorem cm1_isFresh (l : Launch) (dC : Nat → ClassId) (dI : Nat → Nat → Nat) (B : Nat → Nat) (cI : ClassId) (cZ : ClassId) (μ : NS) (w : Nat) (hw : w < 160) : Met l yX1_isFresh wsX1_isFresh (rk 1) (va_Pc [.ref (B 0), .int (nI w)] (fun U => va_P (dC, dI) vwCl (wN B cI cZ μ) U.heap ∧ va_K (dC, dI) vwCl [(cI, .int), (cZ, .boolean)] U)) (QcRead (bI (g_fr (nWc μ) (nTc μ) w))) 0 0 (fun _ => False) := by
  refine Met.ofW (cc := cX1_isFresh) (maxL := 4) (ret := (some .boolean)) (by decide) rfl ?_
  intro p e s m args below meth c s₁ Bd hml hv
  obtain ⟨rfl, hP, hK⟩ := hv
  have hx := Bd.exec
  have hb := Bd.bytes
  have hr := Bd.returns
  have hB : ∀ w ∈ bX1, w.before _ s = true := fun w h => atoms_spec (ws := wsX1_isFresh) Bd.pre w (List.mem_cons_of_mem _ h)
  have hown : s.vm.findClass RX1 = some m.cls := findClass_of_methodNamed Bd.named
  have hlocks := Bd.notSynchronized
  have hl := lv_entry ([.ref (B 0), .int (nI w)]) (n := 4) (Nat.le_of_ble_eq_true rfl)
  rw [lg_entry_eq]
  generalize (lg_sl ([.ref (B 0), .int (nI w)]) ++ List.replicate (4 - (lg_sl ([.ref (B 0), .int (nI w)])).length) Slot.unset).toArray = ls at hl ⊢
  have hl : lv_has ls 4 [(0, .ref (B 0)), (1, .int (nI w))] := hl
  refine lv_aload_n hx hb dX1_isFresh_0 rfl (lv_at hl 0 rfl) ?_
  refine lv_iload_n hx hb dX1_isFresh_1 rfl (lv_at hl 1 rfl) ?_
  refine ck1_tag hx hb hml hown hB hl.1 hP hK hw dX1_isFresh_2 (Nat.le_of_ble_eq_true rfl) (Nat.le_of_ble_eq_true rfl) ⟨Nat.zero_le _, Nat.zero_le _⟩ (Nat.le_of_ble_eq_true rfl) ?_
  have loop : ∀ (n i : Nat) (b : Bool) (ls : Array Slot), i + n = 8 → lv_has ls 4 [(0, .ref (B 0)), (1, .int (nI w)), (2, .int (bI b)), (3, .int (nI i))] → g_frL (nWc μ) w n i b = g_fr (nWc μ) (nTc μ) w → W p l e (headSpec wsX1_isFresh (rk 1)).room s m ([.ref (B 0), .int (nI w)]).toArray below meth c s.heap [] 0 0 (MQ below (QcRead (bI (g_fr (nWc μ) (nTc μ) w))) ([.ref (B 0), .int (nI w)]).toArray s 0 0 (fun _ => False)) (F0 m 16 ls []) := by
    intro n
    induction n with
    | zero =>
    intro i b ls hi hl hF
    have hi8 : i = 8 := by omega
    subst hi8
    refine lv_iload_n hx hb dX1_isFresh_16 rfl (lv_at hl 3 rfl) ?_
    refine lv_bipush (v := 8) hx hb dX1_isFresh_17 (by decide) ?_
    refine lv_icmp_ge (tgt := 47) hx hb dX1_isFresh_19 rfl (fun h1 => ?_) (fun h1 => ?_)
    · skip
      refine lv_iload_n hx hb dX1_isFresh_47 rfl (lv_at hl 2 rfl) ?_
      exact W.zret (v := (bI b)) hx hb hr (bI_nar _) (fun t ht _ => ⟨congrArg (fun z => Outcome.returned (some (Value.int z))) (congrArg bI hF), ht⟩) (fun q h => by cases h) dX1_isFresh_48
    · skip
      exact absurd (by decide) h1
    | succ n ih =>
    intro i b ls hi hl hF
    refine lv_iload_n hx hb dX1_isFresh_16 rfl (lv_at hl 3 rfl) ?_
    refine lv_bipush (v := 8) hx hb dX1_isFresh_17 (by decide) ?_
    refine lv_icmp_ge (tgt := 47) hx hb dX1_isFresh_19 rfl (fun h1 => ?_) (fun h1 => ?_)
    · skip
      exact absurd h1 (nI_ge (b := 8) (by omega) (by decide))
    · skip
      refine lv_iload_n hx hb dX1_isFresh_22 rfl (lv_at hl 2 rfl) ?_
      refine lv_if_eq (tgt := 39) hx hb dX1_isFresh_23 rfl (fun h2 => ?_) (fun h2 => ?_)
      · skip
        refine lv_iconst (v := 0) hx hb dX1_isFresh_39 (by decide) ?_
        refine lv_istore_n hx hb dX1_isFresh_40 rfl hl (by decide) rfl (fun ls hl => ?_)
        have hl : lv_has ls 4 [(2, .int 0), (0, .ref (B 0)), (1, .int (nI w)), (3, .int (nI i))] := hl
        refine lv_iinc (k := 3) (v := (nI (i + 1))) hx hb dX1_isFresh_41 hl rfl (nI_1 i) (by decide) rfl (fun ls hl => ?_)
        have hl : lv_has ls 4 [(3, .int (nI (i + 1))), (2, .int 0), (0, .ref (B 0)), (1, .int (nI w))] := hl
        refine lv_goto (tgt := 16) hx hb dX1_isFresh_44 rfl ?_
        refine ih (i + 1) false ls (by omega) (lv_sub hl [2, 3, 1, 0] rfl) ?_
        rw [← hF, g_frL, bI_0.mp h2]; rfl
      · skip
        refine lv_aload_n hx hb dX1_isFresh_26 rfl (lv_at hl 0 rfl) ?_
        refine lv_iload_n hx hb dX1_isFresh_27 rfl (lv_at hl 1 rfl) ?_
        refine lv_iload_n hx hb dX1_isFresh_28 rfl (lv_at hl 3 rfl) ?_
        refine ck1_pattern hx hb hml hown hB hl.1 hP hK hw (by omega) dX1_isFresh_29 (Nat.le_of_ble_eq_true rfl) (Nat.le_of_ble_eq_true rfl) ⟨Nat.zero_le _, Nat.zero_le _⟩ (Nat.le_of_ble_eq_true rfl) ?_
        refine lv_if_ne (tgt := 39) hx hb dX1_isFresh_32 rfl (fun h3 => ?_) (fun h3 => ?_)
        · skip
          refine lv_iconst (v := 0) hx hb dX1_isFresh_39 (by decide) ?_
          refine lv_istore_n hx hb dX1_isFresh_40 rfl hl (by decide) rfl (fun ls hl => ?_)
          have hl : lv_has ls 4 [(2, .int 0), (0, .ref (B 0)), (1, .int (nI w)), (3, .int (nI i))] := hl
          refine lv_iinc (k := 3) (v := (nI (i + 1))) hx hb dX1_isFresh_41 hl rfl (nI_1 i) (by decide) rfl (fun ls hl => ?_)
          have hl : lv_has ls 4 [(3, .int (nI (i + 1))), (2, .int 0), (0, .ref (B 0)), (1, .int (nI w))] := hl
          refine lv_goto (tgt := 16) hx hb dX1_isFresh_44 rfl ?_
          refine ih (i + 1) false ls (by omega) (lv_sub hl [2, 3, 1, 0] rfl) ?_
          rw [← hF, g_frL, bI_n0.mp h2, decide_eq_false h3]; rfl
        · skip
          refine lv_iconst (v := 1) hx hb dX1_isFresh_35 (by decide) ?_
          refine lv_goto (tgt := 40) hx hb dX1_isFresh_36 rfl ?_
          refine lv_istore_n hx hb dX1_isFresh_40 rfl hl (by decide) rfl (fun ls hl => ?_)
          have hl : lv_has ls 4 [(2, .int 1), (0, .ref (B 0)), (1, .int (nI w)), (3, .int (nI i))] := hl
          refine lv_iinc (k := 3) (v := (nI (i + 1))) hx hb dX1_isFresh_41 hl rfl (nI_1 i) (by decide) rfl (fun ls hl => ?_)
          have hl : lv_has ls 4 [(3, .int (nI (i + 1))), (2, .int 1), (0, .ref (B 0)), (1, .int (nI w))] := hl
          refine lv_goto (tgt := 16) hx hb dX1_isFresh_44 rfl ?_
          refine ih (i + 1) true ls (by omega) (lv_sub hl [2, 3, 1, 0] rfl) ?_
          rw [← hF, g_frL, bI_n0.mp h2, decide_eq_true h3]; rfl
  refine lv_if_ne (tgt := 12) hx hb dX1_isFresh_5 rfl (fun h0 => ?_) (fun h0 => ?_)
  · skip
    refine lv_iconst (v := 0) hx hb dX1_isFresh_12 (by decide) ?_
    refine lv_istore_n hx hb dX1_isFresh_13 rfl hl (by decide) rfl (fun ls hl => ?_)
    have hl : lv_has ls 4 [(2, .int 0), (0, .ref (B 0)), (1, .int (nI w))] := hl
    refine lv_iconst (v := 0) hx hb dX1_isFresh_14 (by decide) ?_
    refine lv_istore_n hx hb dX1_isFresh_15 rfl hl (by decide) rfl (fun ls hl => ?_)
    have hl : lv_has ls 4 [(3, .int 0), (2, .int 0), (0, .ref (B 0)), (1, .int (nI w))] := hl
    exact loop 8 0 false ls rfl (lv_sub hl [2, 3, 1, 0] rfl) (by rw [g_fr, decide_eq_false h0])
  · skip
    refine lv_iconst (v := 1) hx hb dX1_isFresh_8 (by decide) ?_
    refine lv_goto (tgt := 13) hx hb dX1_isFresh_9 rfl ?_
    refine lv_istore_n hx hb dX1_isFresh_13 rfl hl (by decide) rfl (fun ls hl => ?_)
    have hl : lv_has ls 4 [(2, .int 1), (0, .ref (B 0)), (1, .int (nI w))] := hl
    refine lv_iconst (v := 0) hx hb dX1_isFresh_14 (by decide) ?_
    refine lv_istore_n hx hb dX1_isFresh_15 rfl hl (by decide) rfl (fun ls hl => ?_)
    have hl : lv_has ls 4 [(3, .int 0), (2, .int 1), (0, .ref (B 0)), (1, .int (nI w))] := hl
    exact loop 8 0 true ls rfl (lv_sub hl [2, 3, 1, 0] rfl) (by rw [g_fr, decide_eq_true h0])
set_option maxRecDepth 100000 in
theorem ck1_isFresh {p : Program} {l : Launch} {e : Env} {R : Room} {s : State} {m : MethodId} {args : Array Value} {below : List Frame} {meth : Method} {c : Code} {H : Heap} {locs : List Loc} {cells slots : Nat} {Q : State → Prop} {cc : ByteArray} {nL pc : Nat} {ls : Array Slot} {rest : List Value} {dC : Nat → ClassId} {dI : Nat → Nat → Nat} {B : Nat → Nat} {cI : ClassId} {cZ : ClassId} {μ : NS} {w : Nat} (hx : p.tables.exec = Jvm.exec) (hb : c.code = cc) (hml : c.maxLocals = nL) (hown : s.vm.findClass RX1 = some m.cls) (hB : ∀ w ∈ bX1, w.before args s = true) (hsz : ls.size = nL) (hP : va_P (dC, dI) vwCl (wN B cI cZ μ) H) (hK : va_K (dC, dI) vwCl [(cI, .int), (cZ, .boolean)] s) (hw : w < 160) (hd : decode cc pc = .ok (.invokevirtual 56, 3)) (hF : 2 ≤ R.frames) (hLo : 53 ≤ R.locals) (hc : cells ≤ R.cells ∧ slots ≤ R.slots) (hst : (rest.map fun v => v.category).sum ≤ 8)
    (kk : W p l e R s m args below meth c H locs cells slots Q (F0 m (pc + 3) ls (.int (bI (g_fr (nWc μ) (nTc μ) w)) :: rest))) : W p l e R s m args below meth c H locs cells slots Q (F0 m pc ls (.int (nI w) :: .ref (B 0) :: rest)) := by
  refine W.callR (W.runV (C := RX1) (As := [.int (nI w)]) (rest := rest) ⟨hx, hb, hml, hown, hB⟩ (cm1_isFresh l dC dI B cI cZ μ w hw) (cwV 1 hB goX1_isFresh rfl rfl rfl ⟨rfl, by decide, by decide, by decide +kernel⟩ ⟨hF, hLo⟩) ⟨fun a U g mk q => by obtain ⟨q9, qP, qK⟩ := q; exact ⟨q9, qP, va_K.moved (u := U) (U := U.calling g mk a) (Vm.Alike.refl U.vm) qK⟩, va_recv (q := (RX1, TX1, 12)) hK hP rfl (q0 := 0) rfl, fun U hU hW => ⟨rfl, by rw [hU]; exact hP, va_K.moved hW.alike hK⟩⟩ rfl rfl hsz rfl (lv_room hst) hd hc) kk
set_option maxHeartbeats 4000000 in
set_option maxRecDepth 100000 in
theorem cm1_present (l : Launch) (dC : Nat → ClassId) (dI : Nat → Nat → Nat) (B : Nat → Nat) (cI : ClassId) (cZ : ClassId) (μ : NS) (key : Int32) : Met l yX1_present wsX1_present (rk 1) (va_Pc [.ref (B 0), .int key] (fun U => va_P (dC, dI) vwCl (wN B cI cZ μ) U.heap ∧ va_K (dC, dI) vwCl [(cI, .int), (cZ, .boolean)] U)) (QcRead (g_pres (nTc μ) key 160)) 0 0 (fun _ => False) := by
  refine Met.ofW (cc := cX1_present) (maxL := 3) (ret := (some .int)) (by decide) rfl ?_
  intro p e s m args below meth c s₁ Bd hml hv
  obtain ⟨rfl, hP, hK⟩ := hv
  have hx := Bd.exec
  have hb := Bd.bytes
  have hr := Bd.returns
  have hB : ∀ w ∈ bX1, w.before _ s = true := fun w h => atoms_spec (ws := wsX1_present) Bd.pre w (List.mem_cons_of_mem _ h)
  have hown : s.vm.findClass RX1 = some m.cls := findClass_of_methodNamed Bd.named
  have hlocks := Bd.notSynchronized
  have hl := lv_entry ([.ref (B 0), .int key]) (n := 3) (Nat.le_of_ble_eq_true rfl)
  rw [lg_entry_eq]
  generalize (lg_sl ([.ref (B 0), .int key]) ++ List.replicate (3 - (lg_sl ([.ref (B 0), .int key])).length) Slot.unset).toArray = ls at hl ⊢
  have hl : lv_has ls 3 [(0, .ref (B 0)), (1, .int key)] := hl
  refine lv_sipush (v := 159) hx hb dX1_present_0 (by decide) ?_
  refine lv_istore_n hx hb dX1_present_3 rfl hl (by decide) rfl (fun ls hl => ?_)
  have hl : lv_has ls 3 [(2, .int 159), (0, .ref (B 0)), (1, .int key)] := hl
  have hl := lv_sub (l' := [(0, .ref (B 0)), (1, .int key), (2, .int 159)]) hl [1, 2, 0] rfl
  have loop : ∀ (n : Nat) (ls : Array Slot), n ≤ 160 → lv_has ls 3 [(0, .ref (B 0)), (1, .int key), (2, .int (nI n + (-1)))] → g_pres (nTc μ) key n = g_pres (nTc μ) key 160 → W p l e (headSpec wsX1_present (rk 1)).room s m ([.ref (B 0), .int key]).toArray below meth c s.heap [] 0 0 (MQ below (QcRead (g_pres (nTc μ) key 160)) ([.ref (B 0), .int key]).toArray s 0 0 (fun _ => False)) (F0 m 4 ls []) := by
    intro n
    induction n with
    | zero =>
    intro ls hn hl hF
    refine lv_iload_n hx hb dX1_present_4 rfl (lv_at hl 2 rfl) ?_
    refine lv_if_lt (tgt := 27) hx hb dX1_present_5 rfl (fun h1 => ?_) (fun h1 => ?_)
    · skip
      refine lv_iload_n hx hb dX1_present_27 rfl (lv_at hl 2 rfl) ?_
      exact W.iret (v := (nI 0 + (-1))) hx hb hr (fun t ht _ => ⟨congrArg (fun z => Outcome.returned (some (Value.int z))) (hF), ht⟩) (fun q h => by cases h) dX1_present_28
    · skip
      exact absurd (by decide) h1
    | succ n ih =>
    intro ls hn hl hF
    rw [pk_m1] at hl
    refine lv_iload_n hx hb dX1_present_4 rfl (lv_at hl 2 rfl) ?_
    refine lv_if_lt (tgt := 27) hx hb dX1_present_5 rfl (fun h1 => ?_) (fun h1 => ?_)
    · skip
      exact absurd h1 (nI_pos (by omega))
    · skip
      refine lv_aload_n hx hb dX1_present_8 rfl (lv_at hl 0 rfl) ?_
      refine lv_iload_n hx hb dX1_present_9 rfl (lv_at hl 2 rfl) ?_
      refine ck1_tag hx hb hml hown hB hl.1 hP hK (by omega) dX1_present_10 (Nat.le_of_ble_eq_true rfl) (Nat.le_of_ble_eq_true rfl) ⟨Nat.zero_le _, Nat.zero_le _⟩ (Nat.le_of_ble_eq_true rfl) ?_
      refine lv_iload_n hx hb dX1_present_13 rfl (lv_at hl 1 rfl) ?_
      refine lv_sipush (v := 128) hx hb dX1_present_14 (by decide) ?_
      refine lv_iadd hx hb dX1_present_17 ?_
      refine lv_icmp_eq (tgt := 27) hx hb dX1_present_18 rfl (fun h2 => ?_) (fun h2 => ?_)
      · skip
        refine lv_iload_n hx hb dX1_present_27 rfl (lv_at hl 2 rfl) ?_
        exact W.iret (v := (nI n)) hx hb hr (fun t ht _ => ⟨congrArg (fun z => Outcome.returned (some (Value.int z))) (by rw [← hF, g_pres, if_pos h2]), ht⟩) (fun q h => by cases h) dX1_present_28
      · skip
        refine lv_iinc (k := 2) (v := (nI n + (-1))) hx hb dX1_present_21 hl rfl (rfl) (by decide) rfl (fun ls hl => ?_)
        have hl : lv_has ls 3 [(2, .int (nI n + (-1))), (0, .ref (B 0)), (1, .int key)] := hl
        refine lv_goto (tgt := 4) hx hb dX1_present_24 rfl ?_
        refine ih ls (by omega) (lv_sub hl [1, 2, 0] rfl) ?_
        rw [← hF, g_pres, if_neg h2]
  exact loop 160 ls (Nat.le_refl _) hl rfl
set_option maxRecDepth 100000 in
theorem ck1_present {p : Program} {l : Launch} {e : Env} {R : Room} {s : State} {m : MethodId} {args : Array Value} {below : List Frame} {meth : Method} {c : Code} {H : Heap} {locs : List Loc} {cells slots : Nat} {Q : State → Prop} {cc : ByteArray} {nL pc : Nat} {ls : Array Slot} {rest : List Value} {dC : Nat → ClassId} {dI : Nat → Nat → Nat} {B : Nat → Nat} {cI : ClassId} {cZ : ClassId} {μ : NS} {key : Int32} (hx : p.tables.exec = Jvm.exec) (hb : c.code = cc) (hml : c.maxLocals = nL) (hown : s.vm.findClass RX1 = some m.cls) (hB : ∀ w ∈ bX1, w.before args s = true) (hsz : ls.size = nL) (hP : va_P (dC, dI) vwCl (wN B cI cZ μ) H) (hK : va_K (dC, dI) vwCl [(cI, .int), (cZ, .boolean)] s)  (hd : decode cc pc = .ok (.invokevirtual 86, 3)) (hF : 2 ≤ R.frames) (hLo : 52 ≤ R.locals) (hc : cells ≤ R.cells ∧ slots ≤ R.slots) (hst : (rest.map fun v => v.category).sum ≤ 8)
    (kk : W p l e R s m args below meth c H locs cells slots Q (F0 m (pc + 3) ls (.int (g_pres (nTc μ) key 160) :: rest))) : W p l e R s m args below meth c H locs cells slots Q (F0 m pc ls (.int key :: .ref (B 0) :: rest)) := by
  refine W.callR (W.runV (C := RX1) (As := [.int key]) (rest := rest) ⟨hx, hb, hml, hown, hB⟩ (cm1_present l dC dI B cI cZ μ key) (cwV 1 hB goX1_present rfl rfl rfl ⟨rfl, by decide, by decide, by decide +kernel⟩ ⟨hF, hLo⟩) ⟨fun a U g mk q => by obtain ⟨q9, qP, qK⟩ := q; exact ⟨q9, qP, va_K.moved (u := U) (U := U.calling g mk a) (Vm.Alike.refl U.vm) qK⟩, va_recv (q := (RX1, TX1, 12)) hK hP rfl (q0 := 0) rfl, fun U hU hW => ⟨rfl, by rw [hU]; exact hP, va_K.moved hW.alike hK⟩⟩ rfl rfl hsz rfl (lv_room hst) hd hc) kk
set_option maxHeartbeats 4000000 in
set_option maxRecDepth 100000 in
theorem cm1_freshFrom (l : Launch) (dC : Nat → ClassId) (dI : Nat → Nat → Nat) (B : Nat → Nat) (cI : ClassId) (cZ : ClassId) (μ : NS) (fr : Nat) (hfr : fr ≤ 160) : Met l yX1_freshFrom wsX1_freshFrom (rk 2) (va_Pc [.ref (B 0), .int (nI fr)] (fun U => va_P (dC, dI) vwCl (wN B cI cZ μ) U.heap ∧ va_K (dC, dI) vwCl [(cI, .int), (cZ, .boolean)] U)) (QcRead (f_first (g_fr (nWc μ) (nTc μ)) (160 - fr) fr)) 0 0 (fun _ => False) := by
  refine Met.ofW (cc := cX1_freshFrom) (maxL := 3) (ret := (some .int)) (by decide) rfl ?_
  intro p e s m args below meth c s₁ Bd hml hv
  obtain ⟨rfl, hP, hK⟩ := hv
  have hx := Bd.exec
  have hb := Bd.bytes
  have hr := Bd.returns
  have hB : ∀ w ∈ bX1, w.before _ s = true := fun w h => atoms_spec (ws := wsX1_freshFrom) Bd.pre w (List.mem_cons_of_mem _ h)
  have hown : s.vm.findClass RX1 = some m.cls := findClass_of_methodNamed Bd.named
  have hlocks := Bd.notSynchronized
  have hl := lv_entry ([.ref (B 0), .int (nI fr)]) (n := 3) (Nat.le_of_ble_eq_true rfl)
  rw [lg_entry_eq]
  generalize (lg_sl ([.ref (B 0), .int (nI fr)]) ++ List.replicate (3 - (lg_sl ([.ref (B 0), .int (nI fr)])).length) Slot.unset).toArray = ls at hl ⊢
  have hl : lv_has ls 3 [(0, .ref (B 0)), (1, .int (nI fr))] := hl
  refine lv_iload_n hx hb dX1_freshFrom_0 rfl (lv_at hl 1 rfl) ?_
  refine lv_istore_n hx hb dX1_freshFrom_1 rfl hl (by decide) rfl (fun ls hl => ?_)
  have hl : lv_has ls 3 [(2, .int (nI fr)), (0, .ref (B 0)), (1, .int (nI fr))] := hl
  have hl := lv_sub (l' := [(0, .ref (B 0)), (2, .int (nI fr))]) hl [1, 0] rfl
  have loop : ∀ (n i : Nat) (ls : Array Slot), i + n = 160 → lv_has ls 3 [(0, .ref (B 0)), (2, .int (nI i))] → f_first (g_fr (nWc μ) (nTc μ)) n i = f_first (g_fr (nWc μ) (nTc μ)) (160 - fr) fr → W p l e (headSpec wsX1_freshFrom (rk 2)).room s m ([.ref (B 0), .int (nI fr)]).toArray below meth c s.heap [] 0 0 (MQ below (QcRead (f_first (g_fr (nWc μ) (nTc μ)) (160 - fr) fr)) ([.ref (B 0), .int (nI fr)]).toArray s 0 0 (fun _ => False)) (F0 m 2 ls []) := by
    intro n
    induction n with
    | zero =>
    intro i ls hi hl hF
    have hi8 : i = 160 := by omega
    subst hi8
    refine lv_iload_n hx hb dX1_freshFrom_2 rfl (lv_at hl 1 rfl) ?_
    refine lv_sipush (v := 160) hx hb dX1_freshFrom_3 (by decide) ?_
    refine lv_icmp_ge (tgt := 25) hx hb dX1_freshFrom_6 rfl (fun h1 => ?_) (fun h1 => ?_)
    · skip
      refine lv_iconst (v := (-1)) hx hb dX1_freshFrom_25 (by decide) ?_
      exact W.iret (v := (-1)) hx hb hr (fun t ht _ => ⟨congrArg (fun z => Outcome.returned (some (Value.int z))) (hF), ht⟩) (fun q h => by cases h) dX1_freshFrom_26
    · skip
      exact absurd (by decide) h1
    | succ n ih =>
    intro i ls hi hl hF
    refine lv_iload_n hx hb dX1_freshFrom_2 rfl (lv_at hl 1 rfl) ?_
    refine lv_sipush (v := 160) hx hb dX1_freshFrom_3 (by decide) ?_
    refine lv_icmp_ge (tgt := 25) hx hb dX1_freshFrom_6 rfl (fun h1 => ?_) (fun h1 => ?_)
    · skip
      exact absurd h1 (nI_ge (b := 160) (by omega) (by decide))
    · skip
      refine lv_aload_n hx hb dX1_freshFrom_9 rfl (lv_at hl 0 rfl) ?_
      refine lv_iload_n hx hb dX1_freshFrom_10 rfl (lv_at hl 1 rfl) ?_
      refine ck1_isFresh hx hb hml hown hB hl.1 hP hK (by omega) dX1_freshFrom_11 (Nat.le_of_ble_eq_true rfl) (Nat.le_of_ble_eq_true rfl) ⟨Nat.zero_le _, Nat.zero_le _⟩ (Nat.le_of_ble_eq_true rfl) ?_
      refine lv_if_eq (tgt := 19) hx hb dX1_freshFrom_14 rfl (fun h2 => ?_) (fun h2 => ?_)
      · skip
        refine lv_iinc (k := 1) (v := (nI (i + 1))) hx hb dX1_freshFrom_19 hl rfl (nI_1 i) (by decide) rfl (fun ls hl => ?_)
        have hl : lv_has ls 3 [(2, .int (nI (i + 1))), (0, .ref (B 0))] := hl
        refine lv_goto (tgt := 2) hx hb dX1_freshFrom_22 rfl ?_
        refine ih (i + 1)  ls (by omega) (lv_sub hl [1, 0] rfl) ?_
        rw [← hF, f_first, if_neg (by rw [bI_0.mp h2]; decide)]
      · skip
        refine lv_iload_n hx hb dX1_freshFrom_17 rfl (lv_at hl 1 rfl) ?_
        exact W.iret (v := (nI i)) hx hb hr (fun t ht _ => ⟨congrArg (fun z => Outcome.returned (some (Value.int z))) (by rw [← hF, f_first, if_pos (bI_n0.mp h2)]), ht⟩) (fun q h => by cases h) dX1_freshFrom_18
  exact loop (160 - fr) fr ls (by omega) hl rfl
set_option maxRecDepth 100000 in
theorem ck1_freshFrom {p : Program} {l : Launch} {e : Env} {R : Room} {s : State} {m : MethodId} {args : Array Value} {below : List Frame} {meth : Method} {c : Code} {H : Heap} {locs : List Loc} {cells slots : Nat} {Q : State → Prop} {cc : ByteArray} {nL pc : Nat} {ls : Array Slot} {rest : List Value} {dC : Nat → ClassId} {dI : Nat → Nat → Nat} {B : Nat → Nat} {cI : ClassId} {cZ : ClassId} {μ : NS} {fr : Nat} (hx : p.tables.exec = Jvm.exec) (hb : c.code = cc) (hml : c.maxLocals = nL) (hown : s.vm.findClass RX1 = some m.cls) (hB : ∀ w ∈ bX1, w.before args s = true) (hsz : ls.size = nL) (hP : va_P (dC, dI) vwCl (wN B cI cZ μ) H) (hK : va_K (dC, dI) vwCl [(cI, .int), (cZ, .boolean)] s) (hfr : fr ≤ 160) (hd : decode cc pc = .ok (.invokevirtual 92, 3)) (hF : 3 ≤ R.frames) (hLo : 82 ≤ R.locals) (hc : cells ≤ R.cells ∧ slots ≤ R.slots) (hst : (rest.map fun v => v.category).sum ≤ 8)
    (kk : W p l e R s m args below meth c H locs cells slots Q (F0 m (pc + 3) ls (.int (f_first (g_fr (nWc μ) (nTc μ)) (160 - fr) fr) :: rest))) : W p l e R s m args below meth c H locs cells slots Q (F0 m pc ls (.int (nI fr) :: .ref (B 0) :: rest)) := by
  refine W.callR (W.runV (C := RX1) (As := [.int (nI fr)]) (rest := rest) ⟨hx, hb, hml, hown, hB⟩ (cm1_freshFrom l dC dI B cI cZ μ fr hfr) (cwV 1 hB goX1_freshFrom rfl rfl rfl ⟨rfl, by decide, by decide, by decide +kernel⟩ ⟨hF, hLo⟩) ⟨fun a U g mk q => by obtain ⟨q9, qP, qK⟩ := q; exact ⟨q9, qP, va_K.moved (u := U) (U := U.calling g mk a) (Vm.Alike.refl U.vm) qK⟩, va_recv (q := (RX1, TX1, 12)) hK hP rfl (q0 := 0) rfl, fun U hU hW => ⟨rfl, by rw [hU]; exact hP, va_K.moved hW.alike hK⟩⟩ rfl rfl hsz rfl (lv_room hst) hd hc) kk
set_option maxHeartbeats 4000000 in
set_option maxRecDepth 100000 in
theorem cm1_line (l : Launch) (dC : Nat → ClassId) (dI : Nat → Nat → Nat) (B : Nat → Nat) (cI : ClassId) (cZ : ClassId) (μ : NS) (b : Nat) (hb360 : b < 360) : Met l yX1_line wsX1_line (rk 0) (va_Pc [.ref (B 0), .int (nI b)] (fun U => va_P (dC, dI) vwCl (wN B cI cZ μ) U.heap ∧ va_K (dC, dI) vwCl [(cI, .int), (cZ, .boolean)] U)) (QcReadL (g_line (nLc μ) b)) 0 0 (fun _ => False) := by
  refine Met.ofW (cc := cX1_line) (maxL := 5) (ret := (some .long)) (by decide) rfl ?_
  intro p e s m args below meth c s₁ Bd hml hv
  obtain ⟨rfl, hP, hK⟩ := hv
  have hx := Bd.exec
  have hb := Bd.bytes
  have hr := Bd.returns
  have hB : ∀ w ∈ bX1, w.before _ s = true := fun w h => atoms_spec (ws := wsX1_line) Bd.pre w (List.mem_cons_of_mem _ h)
  have hown : s.vm.findClass RX1 = some m.cls := findClass_of_methodNamed Bd.named
  have hlocks := Bd.notSynchronized
  have hl := lv_entry ([.ref (B 0), .int (nI b)]) (n := 5) (Nat.le_of_ble_eq_true rfl)
  rw [lg_entry_eq]
  generalize (lg_sl ([.ref (B 0), .int (nI b)]) ++ List.replicate (5 - (lg_sl ([.ref (B 0), .int (nI b)])).length) Slot.unset).toArray = ls at hl ⊢
  have hl : lv_has ls 5 [(0, .ref (B 0)), (1, .int (nI b))] := hl
  refine lv_lconst (v := 0) hx hb dX1_line_0 (by decide) ?_
  refine lv_lstore_n hx hb dX1_line_1 rfl hl (by decide) rfl (fun ls hl => ?_)
  have hl : lv_has ls 5 [(2, .long 0), (0, .ref (B 0)), (1, .int (nI b))] := hl
  refine lv_iconst (v := 0) hx hb dX1_line_2 (by decide) ?_
  refine lv_istore hx hb dX1_line_3 hl (by decide) rfl (fun ls hl => ?_)
  have hl : lv_has ls 5 [(4, .int 0), (2, .long 0), (0, .ref (B 0)), (1, .int (nI b))] := hl
  have hl := lv_sub (l' := [(0, .ref (B 0)), (1, .int (nI b)), (2, .long 0), (4, .int 0)]) hl [2, 3, 1, 0] rfl
  have loop : ∀ (n i : Nat) (a : Int64) (ls : Array Slot), i + n = 32 → lv_has ls 5 [(0, .ref (B 0)), (1, .int (nI b)), (2, .long a), (4, .int (nI i))] → g_lineL (nLc μ) b n i a = g_line (nLc μ) b → W p l e (headSpec wsX1_line (rk 0)).room s m ([.ref (B 0), .int (nI b)]).toArray below meth c s.heap [] 0 0 (MQ below (QcReadL (g_line (nLc μ) b)) ([.ref (B 0), .int (nI b)]).toArray s 0 0 (fun _ => False)) (F0 m 5 ls []) := by
    intro n
    induction n with
    | zero =>
      intro i a ls hi hl hF
      have hi8 : i = 32 := by omega
      subst hi8
      refine lv_iload hx hb dX1_line_5 (lv_at hl 3 rfl) ?_
      refine lv_bipush (v := 32) hx hb dX1_line_7 (by decide) ?_
      refine lv_icmp_ge (tgt := 44) hx hb dX1_line_9 rfl (fun h1 => ?_) (fun h1 => ?_)
      · skip
        refine lv_lload_n hx hb dX1_line_44 rfl (lv_at hl 2 rfl) ?_
        exact W.lret (v := a) hx hb hr (fun t ht _ => ⟨congrArg (fun z => Outcome.returned (some (Value.long z))) (hF), ht⟩) (fun q h => by cases h) dX1_line_45
      · skip
        exact absurd (by decide) h1
    | succ n ih =>
      intro i a ls hi hl hF
      refine lv_iload hx hb dX1_line_5 (lv_at hl 3 rfl) ?_
      refine lv_bipush (v := 32) hx hb dX1_line_7 (by decide) ?_
      refine lv_icmp_ge (tgt := 44) hx hb dX1_line_9 rfl (fun h1 => ?_) (fun h1 => ?_)
      · skip
        exact absurd h1 (nI_ge (b := 32) (by omega) (by decide))
      · skip
        refine lv_lload_n hx hb dX1_line_12 rfl (lv_at hl 2 rfl) ?_
        refine lv_aload_n hx hb dX1_line_13 rfl (lv_at hl 0 rfl) ?_
        refine va_get (D := (dC, dI)) (ci := 1) (v := .ref (B 3)) (C := RX1) (T := TX1) (N := 12) hx hb hB inX1 hown hK hP 0 rfl rfl 3 (by decide) (hB _ mX1_f_lineCells) (fun _ h9 => h9) rfl dX1_line_14 ?_
        refine lv_bipush (v := 32) hx hb dX1_line_17 (by decide) ?_
        refine lv_iload_n hx hb dX1_line_19 rfl (lv_at hl 1 rfl) ?_
        refine lv_imul hx hb dX1_line_20 ?_
        refine lv_iload hx hb dX1_line_21 (lv_at hl 3 rfl) ?_
        refine lv_iadd hx hb dX1_line_23 ?_
        have hidx : 32 * nI b + nI i = nI (32 * b + i) := by rw [← nI_add, ← pk_mul]; rfl
        rw [hidx]
        refine va_zald (D := (dC, dI)) (i := (nI (32 * b + i))) hx hb hK hP 3 1 rfl rfl (vp_in_nI (by omega) (by decide)) dX1_line_24 ?_
        rw [show ((nI (32 * b + i))).toNatClampNeg = 32 * b + i from nI_clamp (by omega)]
        refine lv_if_eq (tgt := 35) hx hb dX1_line_25 rfl (fun h2 => ?_) (fun h2 => ?_)
        · skip
          refine lv_lconst (v := 0) hx hb dX1_line_35 (by decide) ?_
          rw [show (0 : Int64) = g_lbit (nLc μ (32 * b + i)) i from (if_pos h2).symm]
          refine lv_ladd hx hb dX1_line_36 ?_
          refine lv_lstore_n hx hb dX1_line_37 rfl hl (by decide) rfl (fun ls hl => ?_)
          have hl : lv_has ls 5 [(2, .long (a + (g_lbit (nLc μ (32 * b + i)) i))), (0, .ref (B 0)), (1, .int (nI b)), (4, .int (nI i))] := hl
          refine lv_iinc (k := 3) (v := (nI (i + 1))) hx hb dX1_line_38 hl rfl (nI_1 i) (by decide) rfl (fun ls hl => ?_)
          have hl : lv_has ls 5 [(4, .int (nI (i + 1))), (2, .long (a + (g_lbit (nLc μ (32 * b + i)) i))), (0, .ref (B 0)), (1, .int (nI b))] := hl
          refine lv_goto (tgt := 5) hx hb dX1_line_41 rfl ?_
          refine ih (i + 1) _ ls (by omega) (lv_sub hl [2, 3, 1, 0] rfl) ?_
          exact hF
        · skip
          refine lv_lconst (v := 1) hx hb dX1_line_28 (by decide) ?_
          refine lv_iload hx hb dX1_line_29 (lv_at hl 3 rfl) ?_
          refine lv_lshl (v := (1 <<< (((nI i)).toInt64 &&& 63))) hx hb dX1_line_31 rfl ?_
          refine lv_goto (tgt := 36) hx hb dX1_line_32 rfl ?_
          rw [show ((1 <<< (((nI i)).toInt64 &&& 63)) : Int64) = g_lbit (nLc μ (32 * b + i)) i from (if_neg h2).symm]
          refine lv_ladd hx hb dX1_line_36 ?_
          refine lv_lstore_n hx hb dX1_line_37 rfl hl (by decide) rfl (fun ls hl => ?_)
          have hl : lv_has ls 5 [(2, .long (a + (g_lbit (nLc μ (32 * b + i)) i))), (0, .ref (B 0)), (1, .int (nI b)), (4, .int (nI i))] := hl
          refine lv_iinc (k := 3) (v := (nI (i + 1))) hx hb dX1_line_38 hl rfl (nI_1 i) (by decide) rfl (fun ls hl => ?_)
          have hl : lv_has ls 5 [(4, .int (nI (i + 1))), (2, .long (a + (g_lbit (nLc μ (32 * b + i)) i))), (0, .ref (B 0)), (1, .int (nI b))] := hl
          refine lv_goto (tgt := 5) hx hb dX1_line_41 rfl ?_
          refine ih (i + 1) _ ls (by omega) (lv_sub hl [2, 3, 1, 0] rfl) ?_
          exact hF
  exact loop 32 0 0 ls rfl hl rfl
set_option maxRecDepth 100000 in
theorem ck1_line {p : Program} {l : Launch} {e : Env} {R : Room} {s : State} {m : MethodId} {args : Array Value} {below : List Frame} {meth : Method} {c : Code} {H : Heap} {locs : List Loc} {cells slots : Nat} {Q : State → Prop} {cc : ByteArray} {nL pc : Nat} {ls : Array Slot} {rest : List Value} {dC : Nat → ClassId} {dI : Nat → Nat → Nat} {B : Nat → Nat} {cI : ClassId} {cZ : ClassId} {μ : NS} {b : Nat} (hx : p.tables.exec = Jvm.exec) (hb : c.code = cc) (hml : c.maxLocals = nL) (hown : s.vm.findClass RX1 = some m.cls) (hB : ∀ w ∈ bX1, w.before args s = true) (hsz : ls.size = nL) (hP : va_P (dC, dI) vwCl (wN B cI cZ μ) H) (hK : va_K (dC, dI) vwCl [(cI, .int), (cZ, .boolean)] s) (hb360 : b < 360) (hd : decode cc pc = .ok (.invokevirtual 60, 3)) (hF : 1 ≤ R.frames) (hLo : 24 ≤ R.locals) (hc : cells ≤ R.cells ∧ slots ≤ R.slots) (hst : (rest.map fun v => v.category).sum ≤ 8)
    (kk : W p l e R s m args below meth c H locs cells slots Q (F0 m (pc + 3) ls (.long (g_line (nLc μ) b) :: rest))) : W p l e R s m args below meth c H locs cells slots Q (F0 m pc ls (.int (nI b) :: .ref (B 0) :: rest)) := by
  refine callRL (W.runV (C := RX1) (As := [.int (nI b)]) (rest := rest) ⟨hx, hb, hml, hown, hB⟩ (cm1_line l dC dI B cI cZ μ b hb360) (cwV 1 hB goX1_line rfl rfl rfl ⟨rfl, by decide, by decide, by decide +kernel⟩ ⟨hF, hLo⟩) ⟨fun a U g mk q => by obtain ⟨q9, qP, qK⟩ := q; exact ⟨q9, qP, va_K.moved (u := U) (U := U.calling g mk a) (Vm.Alike.refl U.vm) qK⟩, va_recv (q := (RX1, TX1, 12)) hK hP rfl (q0 := 0) rfl, fun U hU hW => ⟨rfl, by rw [hU]; exact hP, va_K.moved hW.alike hK⟩⟩ rfl rfl hsz rfl (lv_room hst) hd hc) kk
set_option maxHeartbeats 4000000 in
set_option maxRecDepth 100000 in
theorem cm1_isEmptyNote (l : Launch) (dC : Nat → ClassId) (dI : Nat → Nat → Nat) (B : Nat → Nat) (cI : ClassId) (cZ : ClassId) (μ : NS) (b : Nat) (hb40 : b < 40) : Met l yX1_isEmptyNote wsX1_isEmptyNote (rk 1) (va_Pc [.ref (B 0), .int (nI b)] (fun U => va_P (dC, dI) vwCl (wN B cI cZ μ) U.heap ∧ va_K (dC, dI) vwCl [(cI, .int), (cZ, .boolean)] U)) (QcRead (bI (g_em (nLc μ) b))) 0 0 (fun _ => False) := by
  refine Met.ofW (cc := cX1_isEmptyNote) (maxL := 3) (ret := (some .boolean)) (by decide) rfl ?_
  intro p e s m args below meth c s₁ Bd hml hv
  obtain ⟨rfl, hP, hK⟩ := hv
  have hx := Bd.exec
  have hb := Bd.bytes
  have hr := Bd.returns
  have hB : ∀ w ∈ bX1, w.before _ s = true := fun w h => atoms_spec (ws := wsX1_isEmptyNote) Bd.pre w (List.mem_cons_of_mem _ h)
  have hown : s.vm.findClass RX1 = some m.cls := findClass_of_methodNamed Bd.named
  have hlocks := Bd.notSynchronized
  have hl := lv_entry ([.ref (B 0), .int (nI b)]) (n := 3) (Nat.le_of_ble_eq_true rfl)
  rw [lg_entry_eq]
  generalize (lg_sl ([.ref (B 0), .int (nI b)]) ++ List.replicate (3 - (lg_sl ([.ref (B 0), .int (nI b)])).length) Slot.unset).toArray = ls at hl ⊢
  have hl : lv_has ls 3 [(0, .ref (B 0)), (1, .int (nI b))] := hl
  refine lv_iconst (v := 0) hx hb dX1_isEmptyNote_0 (by decide) ?_
  refine lv_istore_n hx hb dX1_isEmptyNote_1 rfl hl (by decide) rfl (fun ls hl => ?_)
  have hl : lv_has ls 3 [(2, .int 0), (0, .ref (B 0)), (1, .int (nI b))] := hl
  have hl := lv_sub (l' := [(0, .ref (B 0)), (1, .int (nI b)), (2, .int 0)]) hl [1, 2, 0] rfl
  have loop : ∀ (n i : Nat) (ls : Array Slot), i + n = 9 → lv_has ls 3 [(0, .ref (B 0)), (1, .int (nI b)), (2, .int (nI i))] → g_emL (nLc μ) b n i = g_em (nLc μ) b → W p l e (headSpec wsX1_isEmptyNote (rk 1)).room s m ([.ref (B 0), .int (nI b)]).toArray below meth c s.heap [] 0 0 (MQ below (QcRead (bI (g_em (nLc μ) b))) ([.ref (B 0), .int (nI b)]).toArray s 0 0 (fun _ => False)) (F0 m 2 ls []) := by
    intro n
    induction n with
    | zero =>
      intro i  ls hi hl hF
      have hi8 : i = 9 := by omega
      subst hi8
      refine lv_iload_n hx hb dX1_isEmptyNote_2 rfl (lv_at hl 2 rfl) ?_
      refine lv_bipush (v := 9) hx hb dX1_isEmptyNote_3 (by decide) ?_
      refine lv_icmp_ge (tgt := 31) hx hb dX1_isEmptyNote_5 rfl (fun h1 => ?_) (fun h1 => ?_)
      · skip
        refine lv_iconst (v := 1) hx hb dX1_isEmptyNote_31 (by decide) ?_
        exact W.zret (v := 1) hx hb hr (rfl) (fun t ht _ => ⟨congrArg (fun z => Outcome.returned (some (Value.int z))) (congrArg bI hF), ht⟩) (fun q h => by cases h) dX1_isEmptyNote_32
      · skip
        exact absurd (by decide) h1
    | succ n ih =>
      intro i  ls hi hl hF
      refine lv_iload_n hx hb dX1_isEmptyNote_2 rfl (lv_at hl 2 rfl) ?_
      refine lv_bipush (v := 9) hx hb dX1_isEmptyNote_3 (by decide) ?_
      refine lv_icmp_ge (tgt := 31) hx hb dX1_isEmptyNote_5 rfl (fun h1 => ?_) (fun h1 => ?_)
      · skip
        exact absurd h1 (nI_ge (b := 9) (by omega) (by decide))
      · skip
        refine lv_aload_n hx hb dX1_isEmptyNote_8 rfl (lv_at hl 0 rfl) ?_
        refine lv_bipush (v := 9) hx hb dX1_isEmptyNote_9 (by decide) ?_
        refine lv_iload_n hx hb dX1_isEmptyNote_11 rfl (lv_at hl 1 rfl) ?_
        refine lv_imul hx hb dX1_isEmptyNote_12 ?_
        refine lv_iload_n hx hb dX1_isEmptyNote_13 rfl (lv_at hl 2 rfl) ?_
        refine lv_iadd hx hb dX1_isEmptyNote_14 ?_
        have hidx : 9 * nI b + nI i = nI (9 * b + i) := by rw [← nI_add, ← pk_mul]; rfl
        rw [hidx]
        refine ck1_line hx hb hml hown hB hl.1 hP hK (by omega) dX1_isEmptyNote_15 (Nat.le_of_ble_eq_true rfl) (Nat.le_of_ble_eq_true rfl) ⟨Nat.zero_le _, Nat.zero_le _⟩ (Nat.le_of_ble_eq_true rfl) ?_
        refine lv_lconst (v := 0) hx hb dX1_isEmptyNote_18 (by decide) ?_
        refine W.lcmp hx hb dX1_isEmptyNote_19 ?_
        refine lv_if_eq (tgt := 25) hx hb dX1_isEmptyNote_20 rfl (fun h2 => ?_) (fun h2 => ?_)
        · skip
          refine lv_iinc (k := 2) (v := (nI (i + 1))) hx hb dX1_isEmptyNote_25 hl rfl (nI_1 i) (by decide) rfl (fun ls hl => ?_)
          have hl : lv_has ls 3 [(2, .int (nI (i + 1))), (0, .ref (B 0)), (1, .int (nI b))] := hl
          refine lv_goto (tgt := 2) hx hb dX1_isEmptyNote_28 rfl ?_
          refine ih (i + 1)  ls (by omega) (lv_sub hl [1, 2, 0] rfl) ?_
          rw [← hF, g_emL, if_pos ((lg_cmp_eq _ _).mp h2)]
        · skip
          refine lv_iconst (v := 0) hx hb dX1_isEmptyNote_23 (by decide) ?_
          exact W.zret (v := 0) hx hb hr (rfl) (fun t ht _ => ⟨congrArg (fun z => Outcome.returned (some (Value.int z))) (by rw [← hF, g_emL, if_neg (fun h => h2 ((lg_cmp_eq _ _).mpr h))]; rfl), ht⟩) (fun q h => by cases h) dX1_isEmptyNote_24
  exact loop 9 0  ls rfl hl rfl
set_option maxRecDepth 100000 in
theorem ck1_isEmptyNote {p : Program} {l : Launch} {e : Env} {R : Room} {s : State} {m : MethodId} {args : Array Value} {below : List Frame} {meth : Method} {c : Code} {H : Heap} {locs : List Loc} {cells slots : Nat} {Q : State → Prop} {cc : ByteArray} {nL pc : Nat} {ls : Array Slot} {rest : List Value} {dC : Nat → ClassId} {dI : Nat → Nat → Nat} {B : Nat → Nat} {cI : ClassId} {cZ : ClassId} {μ : NS} {b : Nat} (hx : p.tables.exec = Jvm.exec) (hb : c.code = cc) (hml : c.maxLocals = nL) (hown : s.vm.findClass RX1 = some m.cls) (hB : ∀ w ∈ bX1, w.before args s = true) (hsz : ls.size = nL) (hP : va_P (dC, dI) vwCl (wN B cI cZ μ) H) (hK : va_K (dC, dI) vwCl [(cI, .int), (cZ, .boolean)] s) (hb40 : b < 40) (hd : decode cc pc = .ok (.invokevirtual 64, 3)) (hF : 2 ≤ R.frames) (hLo : 52 ≤ R.locals) (hc : cells ≤ R.cells ∧ slots ≤ R.slots) (hst : (rest.map fun v => v.category).sum ≤ 8)
    (kk : W p l e R s m args below meth c H locs cells slots Q (F0 m (pc + 3) ls (.int (bI (g_em (nLc μ) b)) :: rest))) : W p l e R s m args below meth c H locs cells slots Q (F0 m pc ls (.int (nI b) :: .ref (B 0) :: rest)) := by
  refine W.callR (W.runV (C := RX1) (As := [.int (nI b)]) (rest := rest) ⟨hx, hb, hml, hown, hB⟩ (cm1_isEmptyNote l dC dI B cI cZ μ b hb40) (cwV 1 hB goX1_isEmptyNote rfl rfl rfl ⟨rfl, by decide, by decide, by decide +kernel⟩ ⟨hF, hLo⟩) ⟨fun a U g mk q => by obtain ⟨q9, qP, qK⟩ := q; exact ⟨q9, qP, va_K.moved (u := U) (U := U.calling g mk a) (Vm.Alike.refl U.vm) qK⟩, va_recv (q := (RX1, TX1, 12)) hK hP rfl (q0 := 0) rfl, fun U hU hW => ⟨rfl, by rw [hU]; exact hP, va_K.moved hW.alike hK⟩⟩ rfl rfl hsz rfl (lv_room hst) hd hc) kk
set_option maxHeartbeats 4000000 in
set_option maxRecDepth 100000 in
theorem cm1_emptyNote (l : Launch) (dC : Nat → ClassId) (dI : Nat → Nat → Nat) (B : Nat → Nat) (cI : ClassId) (cZ : ClassId) (μ : NS) : Met l yX1_emptyNote wsX1_emptyNote (rk 2) (va_Pc [.ref (B 0)] (fun U => va_P (dC, dI) vwCl (wN B cI cZ μ) U.heap ∧ va_K (dC, dI) vwCl [(cI, .int), (cZ, .boolean)] U)) (QcRead (f_first (g_em (nLc μ)) 40 0)) 0 0 (fun _ => False) := by
  refine Met.ofW (cc := cX1_emptyNote) (maxL := 2) (ret := (some .int)) (by decide) rfl ?_
  intro p e s m args below meth c s₁ Bd hml hv
  obtain ⟨rfl, hP, hK⟩ := hv
  have hx := Bd.exec
  have hb := Bd.bytes
  have hr := Bd.returns
  have hB : ∀ w ∈ bX1, w.before _ s = true := fun w h => atoms_spec (ws := wsX1_emptyNote) Bd.pre w (List.mem_cons_of_mem _ h)
  have hown : s.vm.findClass RX1 = some m.cls := findClass_of_methodNamed Bd.named
  have hlocks := Bd.notSynchronized
  have hl := lv_entry ([.ref (B 0)]) (n := 2) (Nat.le_of_ble_eq_true rfl)
  rw [lg_entry_eq]
  generalize (lg_sl ([.ref (B 0)]) ++ List.replicate (2 - (lg_sl ([.ref (B 0)])).length) Slot.unset).toArray = ls at hl ⊢
  have hl : lv_has ls 2 [(0, .ref (B 0))] := hl
  refine lv_iconst (v := 0) hx hb dX1_emptyNote_0 (by decide) ?_
  refine lv_istore_n hx hb dX1_emptyNote_1 rfl hl (by decide) rfl (fun ls hl => ?_)
  have hl : lv_has ls 2 [(1, .int 0), (0, .ref (B 0))] := hl
  have hl := lv_sub (l' := [(0, .ref (B 0)), (1, .int 0)]) hl [1, 0] rfl
  have loop : ∀ (n i : Nat) (ls : Array Slot), i + n = 40 → lv_has ls 2 [(0, .ref (B 0)), (1, .int (nI i))] → f_first (g_em (nLc μ)) n i = f_first (g_em (nLc μ)) 40 0 → W p l e (headSpec wsX1_emptyNote (rk 2)).room s m ([.ref (B 0)]).toArray below meth c s.heap [] 0 0 (MQ below (QcRead (f_first (g_em (nLc μ)) 40 0)) ([.ref (B 0)]).toArray s 0 0 (fun _ => False)) (F0 m 2 ls []) := by
    intro n
    induction n with
    | zero =>
      intro i  ls hi hl hF
      have hi8 : i = 40 := by omega
      subst hi8
      refine lv_iload_n hx hb dX1_emptyNote_2 rfl (lv_at hl 1 rfl) ?_
      refine lv_bipush (v := 40) hx hb dX1_emptyNote_3 (by decide) ?_
      refine lv_icmp_ge (tgt := 24) hx hb dX1_emptyNote_5 rfl (fun h1 => ?_) (fun h1 => ?_)
      · skip
        refine lv_iconst (v := (-1)) hx hb dX1_emptyNote_24 (by decide) ?_
        exact W.iret (v := (-1)) hx hb hr (fun t ht _ => ⟨congrArg (fun z => Outcome.returned (some (Value.int z))) (hF), ht⟩) (fun q h => by cases h) dX1_emptyNote_25
      · skip
        exact absurd (by decide) h1
    | succ n ih =>
      intro i  ls hi hl hF
      refine lv_iload_n hx hb dX1_emptyNote_2 rfl (lv_at hl 1 rfl) ?_
      refine lv_bipush (v := 40) hx hb dX1_emptyNote_3 (by decide) ?_
      refine lv_icmp_ge (tgt := 24) hx hb dX1_emptyNote_5 rfl (fun h1 => ?_) (fun h1 => ?_)
      · skip
        exact absurd h1 (nI_ge (b := 40) (by omega) (by decide))
      · skip
        refine lv_aload_n hx hb dX1_emptyNote_8 rfl (lv_at hl 0 rfl) ?_
        refine lv_iload_n hx hb dX1_emptyNote_9 rfl (lv_at hl 1 rfl) ?_
        refine ck1_isEmptyNote hx hb hml hown hB hl.1 hP hK (by omega) dX1_emptyNote_10 (Nat.le_of_ble_eq_true rfl) (Nat.le_of_ble_eq_true rfl) ⟨Nat.zero_le _, Nat.zero_le _⟩ (Nat.le_of_ble_eq_true rfl) ?_
        refine lv_if_eq (tgt := 18) hx hb dX1_emptyNote_13 rfl (fun h2 => ?_) (fun h2 => ?_)
        · skip
          refine lv_iinc (k := 1) (v := (nI (i + 1))) hx hb dX1_emptyNote_18 hl rfl (nI_1 i) (by decide) rfl (fun ls hl => ?_)
          have hl : lv_has ls 2 [(1, .int (nI (i + 1))), (0, .ref (B 0))] := hl
          refine lv_goto (tgt := 2) hx hb dX1_emptyNote_21 rfl ?_
          refine ih (i + 1)  ls (by omega) (lv_sub hl [1, 0] rfl) ?_
          rw [← hF, f_first, if_neg (by rw [bI_0.mp h2]; decide)]
        · skip
          refine lv_iload_n hx hb dX1_emptyNote_16 rfl (lv_at hl 1 rfl) ?_
          exact W.iret (v := (nI i)) hx hb hr (fun t ht _ => ⟨congrArg (fun z => Outcome.returned (some (Value.int z))) (by rw [← hF, f_first, if_pos (bI_n0.mp h2)]), ht⟩) (fun q h => by cases h) dX1_emptyNote_17
  exact loop 40 0  ls rfl hl rfl
set_option maxRecDepth 100000 in
theorem ck1_emptyNote {p : Program} {l : Launch} {e : Env} {R : Room} {s : State} {m : MethodId} {args : Array Value} {below : List Frame} {meth : Method} {c : Code} {H : Heap} {locs : List Loc} {cells slots : Nat} {Q : State → Prop} {cc : ByteArray} {nL pc : Nat} {ls : Array Slot} {rest : List Value} {dC : Nat → ClassId} {dI : Nat → Nat → Nat} {B : Nat → Nat} {cI : ClassId} {cZ : ClassId} {μ : NS} (hx : p.tables.exec = Jvm.exec) (hb : c.code = cc) (hml : c.maxLocals = nL) (hown : s.vm.findClass RX1 = some m.cls) (hB : ∀ w ∈ bX1, w.before args s = true) (hsz : ls.size = nL) (hP : va_P (dC, dI) vwCl (wN B cI cZ μ) H) (hK : va_K (dC, dI) vwCl [(cI, .int), (cZ, .boolean)] s)  (hd : decode cc pc = .ok (.invokevirtual 128, 3)) (hF : 3 ≤ R.frames) (hLo : 81 ≤ R.locals) (hc : cells ≤ R.cells ∧ slots ≤ R.slots) (hst : (rest.map fun v => v.category).sum ≤ 8)
    (kk : W p l e R s m args below meth c H locs cells slots Q (F0 m (pc + 3) ls (.int (f_first (g_em (nLc μ)) 40 0) :: rest))) : W p l e R s m args below meth c H locs cells slots Q (F0 m pc ls (.ref (B 0) :: rest)) := by
  refine W.callR (W.runV (C := RX1) (As := []) (rest := rest) ⟨hx, hb, hml, hown, hB⟩ (cm1_emptyNote l dC dI B cI cZ μ) (cwV 0 hB goX1_emptyNote rfl rfl rfl ⟨rfl, by decide, by decide, by decide +kernel⟩ ⟨hF, hLo⟩) ⟨fun a U g mk q => by obtain ⟨q9, qP, qK⟩ := q; exact ⟨q9, qP, va_K.moved (u := U) (U := U.calling g mk a) (Vm.Alike.refl U.vm) qK⟩, va_recv (q := (RX1, TX1, 12)) hK hP rfl (q0 := 0) rfl, fun U hU hW => ⟨rfl, by rw [hU]; exact hP, va_K.moved hW.alike hK⟩⟩ rfl rfl hsz rfl (lv_room hst) hd hc) kk
set_option maxHeartbeats 4000000 in
set_option maxRecDepth 100000 in
theorem cm1_valueIs (l : Launch) (dC : Nat → ClassId) (dI : Nat → Nat → Nat) (B : Nat → Nat) (cI : ClassId) (cZ : ClassId) (μ : NS) (w : Nat) (v : Int32) (hw : w < 160) : Met l yX1_valueIs wsX1_valueIs (rk 3) (va_Pc [.ref (B 0), .int (nI w), .int v] (fun U => va_P (dC, dI) vwCl (wN B cI cZ μ) U.heap ∧ va_K (dC, dI) vwCl [(cI, .int), (cZ, .boolean)] U)) (QcRead (bI (decide (g_val (nWc μ) w = v)))) 0 0 (fun _ => False) := by
  refine Met.ofW (cc := cX1_valueIs) (maxL := 3) (ret := (some .boolean)) (by decide) rfl ?_
  intro p e s m args below meth c s₁ Bd hml hv
  obtain ⟨rfl, hP, hK⟩ := hv
  have hx := Bd.exec
  have hb := Bd.bytes
  have hr := Bd.returns
  have hB : ∀ w ∈ bX1, w.before _ s = true := fun w h => atoms_spec (ws := wsX1_valueIs) Bd.pre w (List.mem_cons_of_mem _ h)
  have hown : s.vm.findClass RX1 = some m.cls := findClass_of_methodNamed Bd.named
  have hlocks := Bd.notSynchronized
  have hl := lv_entry ([.ref (B 0), .int (nI w), .int v]) (n := 3) (Nat.le_of_ble_eq_true rfl)
  rw [lg_entry_eq]
  generalize (lg_sl ([.ref (B 0), .int (nI w), .int v]) ++ List.replicate (3 - (lg_sl ([.ref (B 0), .int (nI w), .int v])).length) Slot.unset).toArray = ls at hl ⊢
  have hl : lv_has ls 3 [(0, .ref (B 0)), (1, .int (nI w)), (2, .int v)] := hl
  refine lv_aload_n hx hb dX1_valueIs_0 rfl (lv_at hl 0 rfl) ?_
  refine lv_iload_n hx hb dX1_valueIs_1 rfl (lv_at hl 1 rfl) ?_
  refine ck1_valueOf hx hb hml hown hB hl.1 hP hK hw dX1_valueIs_2 (Nat.le_of_ble_eq_true rfl) (Nat.le_of_ble_eq_true rfl) ⟨Nat.zero_le _, Nat.zero_le _⟩ (Nat.le_of_ble_eq_true rfl) ?_
  refine lv_iload_n hx hb dX1_valueIs_5 rfl (lv_at hl 2 rfl) ?_
  refine lv_icmp_ne (tgt := 13) hx hb dX1_valueIs_6 rfl (fun h1 => ?_) (fun h1 => ?_)
  · skip
    refine lv_iconst (v := 0) hx hb dX1_valueIs_13 (by decide) ?_
    exact W.zret (v := 0) hx hb hr (rfl) (fun t ht _ => ⟨congrArg (fun z => Outcome.returned (some (Value.int z))) (by simp [bI, h1]), ht⟩) (fun q h => by cases h) dX1_valueIs_14
  · skip
    refine lv_iconst (v := 1) hx hb dX1_valueIs_9 (by decide) ?_
    refine lv_goto (tgt := 14) hx hb dX1_valueIs_10 rfl ?_
    exact W.zret (v := 1) hx hb hr (rfl) (fun t ht _ => ⟨congrArg (fun z => Outcome.returned (some (Value.int z))) (by simp [bI, h1]), ht⟩) (fun q h => by cases h) dX1_valueIs_14
set_option maxRecDepth 100000 in
theorem ck1_valueIs {p : Program} {l : Launch} {e : Env} {R : Room} {s : State} {m : MethodId} {args : Array Value} {below : List Frame} {meth : Method} {c : Code} {H : Heap} {locs : List Loc} {cells slots : Nat} {Q : State → Prop} {cc : ByteArray} {nL pc : Nat} {ls : Array Slot} {rest : List Value} {dC : Nat → ClassId} {dI : Nat → Nat → Nat} {B : Nat → Nat} {cI : ClassId} {cZ : ClassId} {μ : NS} {w : Nat} {v : Int32} (hx : p.tables.exec = Jvm.exec) (hb : c.code = cc) (hml : c.maxLocals = nL) (hown : s.vm.findClass RX1 = some m.cls) (hB : ∀ w ∈ bX1, w.before args s = true) (hsz : ls.size = nL) (hP : va_P (dC, dI) vwCl (wN B cI cZ μ) H) (hK : va_K (dC, dI) vwCl [(cI, .int), (cZ, .boolean)] s) (hw : w < 160) (hd : decode cc pc = .ok (.invokevirtual 74, 3)) (hF : 4 ≤ R.frames) (hLo : 112 ≤ R.locals) (hc : cells ≤ R.cells ∧ slots ≤ R.slots) (hst : (rest.map fun v => v.category).sum ≤ 8)
    (kk : W p l e R s m args below meth c H locs cells slots Q (F0 m (pc + 3) ls (.int (bI (decide (g_val (nWc μ) w = v))) :: rest))) : W p l e R s m args below meth c H locs cells slots Q (F0 m pc ls (.int v :: .int (nI w) :: .ref (B 0) :: rest)) := by
  refine W.callR (W.runV (C := RX1) (As := [.int (nI w), .int v]) (rest := rest) ⟨hx, hb, hml, hown, hB⟩ (cm1_valueIs l dC dI B cI cZ μ w v hw) (cwV 2 hB goX1_valueIs rfl rfl rfl ⟨rfl, by decide, by decide, by decide +kernel⟩ ⟨hF, hLo⟩) ⟨fun a U g mk q => by obtain ⟨q9, qP, qK⟩ := q; exact ⟨q9, qP, va_K.moved (u := U) (U := U.calling g mk a) (Vm.Alike.refl U.vm) qK⟩, va_recv (q := (RX1, TX1, 12)) hK hP rfl (q0 := 0) rfl, fun U hU hW => ⟨rfl, by rw [hU]; exact hP, va_K.moved hW.alike hK⟩⟩ rfl rfl hsz rfl (lv_room hst) hd hc) kk
set_option maxHeartbeats 4000000 in
set_option maxRecDepth 100000 in
theorem cm1_taker (l : Launch) (dC : Nat → ClassId) (dI : Nat → Nat → Nat) (B : Nat → Nat) (cI : ClassId) (cZ : ClassId) (μ : NS) (key : Int32) (v : Int32) (fr : Nat) (hfr : fr ≤ 160) : Met l yX1_taker wsX1_taker (rk 4) (va_Pc [.ref (B 0), .int key, .int v, .int (nI fr)] (fun U => va_P (dC, dI) vwCl (wN B cI cZ μ) U.heap ∧ va_K (dC, dI) vwCl [(cI, .int), (cZ, .boolean)] U)) (QcRead (g_take (nWc μ) (nTc μ) key v fr)) 0 0 (fun _ => False) := by
  refine Met.ofW (cc := cX1_taker) (maxL := 5) (ret := (some .int)) (by decide) rfl ?_
  intro p e s m args below meth c s₁ Bd hml hv
  obtain ⟨rfl, hP, hK⟩ := hv
  have hx := Bd.exec
  have hb := Bd.bytes
  have hr := Bd.returns
  have hB : ∀ w ∈ bX1, w.before _ s = true := fun w h => atoms_spec (ws := wsX1_taker) Bd.pre w (List.mem_cons_of_mem _ h)
  have hown : s.vm.findClass RX1 = some m.cls := findClass_of_methodNamed Bd.named
  have hlocks := Bd.notSynchronized
  have hl := lv_entry ([.ref (B 0), .int key, .int v, .int (nI fr)]) (n := 5) (Nat.le_of_ble_eq_true rfl)
  rw [lg_entry_eq]
  generalize (lg_sl ([.ref (B 0), .int key, .int v, .int (nI fr)]) ++ List.replicate (5 - (lg_sl ([.ref (B 0), .int key, .int v, .int (nI fr)])).length) Slot.unset).toArray = ls at hl ⊢
  have hl : lv_has ls 5 [(0, .ref (B 0)), (1, .int key), (2, .int v), (3, .int (nI fr))] := hl
  refine lv_aload_n hx hb dX1_taker_0 rfl (lv_at hl 0 rfl) ?_
  refine lv_iload_n hx hb dX1_taker_1 rfl (lv_at hl 1 rfl) ?_
  refine ck1_present hx hb hml hown hB hl.1 hP hK dX1_taker_2 (Nat.le_of_ble_eq_true rfl) (Nat.le_of_ble_eq_true rfl) ⟨Nat.zero_le _, Nat.zero_le _⟩ (Nat.le_of_ble_eq_true rfl) ?_
  refine lv_istore hx hb dX1_taker_5 hl (by decide) rfl (fun ls hl => ?_)
  have hl : lv_has ls 5 [(4, .int (g_pres (nTc μ) key 160)), (0, .ref (B 0)), (1, .int key), (2, .int v), (3, .int (nI fr))] := hl
  refine lv_iload hx hb dX1_taker_7 (lv_at hl 0 rfl) ?_
  refine lv_if_lt (tgt := 27) hx hb dX1_taker_9 rfl (fun h1 => ?_) (fun h1 => ?_)
  · skip
    refine lv_aload_n hx hb dX1_taker_27 rfl (lv_at hl 1 rfl) ?_
    refine lv_iload_n hx hb dX1_taker_28 rfl (lv_at hl 4 rfl) ?_
    refine ck1_freshFrom hx hb hml hown hB hl.1 hP hK hfr dX1_taker_29 (Nat.le_of_ble_eq_true rfl) (Nat.le_of_ble_eq_true rfl) ⟨Nat.zero_le _, Nat.zero_le _⟩ (Nat.le_of_ble_eq_true rfl) ?_
    exact W.iret (v := (f_first (g_fr (nWc μ) (nTc μ)) (160 - fr) fr)) hx hb hr (fun t ht _ => ⟨congrArg (fun z => Outcome.returned (some (Value.int z))) (by rw [g_take, if_neg (fun h => h.1 h1)]), ht⟩) (fun q h => by cases h) dX1_taker_32
  · skip
    obtain ⟨k, hk, ek, -⟩ := (g_pres_in (nTc μ) key 160 (Nat.le_refl _)).resolve_left (fun h => h1 (by rw [h]; decide))
    have ekc : (g_pres (nTc μ) key 160).toNatClampNeg = k := by rw [ek]; exact nI_clamp (by omega)
    rw [ek] at hl
    refine lv_aload_n hx hb dX1_taker_12 rfl (lv_at hl 1 rfl) ?_
    refine lv_iload hx hb dX1_taker_13 (lv_at hl 0 rfl) ?_
    refine lv_iload_n hx hb dX1_taker_15 rfl (lv_at hl 3 rfl) ?_
    refine ck1_comesTo hx hb hml hown hB hl.1 hP hK hk dX1_taker_16 (Nat.le_of_ble_eq_true rfl) (Nat.le_of_ble_eq_true rfl) ⟨Nat.zero_le _, Nat.zero_le _⟩ (Nat.le_of_ble_eq_true rfl) ?_
    refine lv_if_eq (tgt := 27) hx hb dX1_taker_19 rfl (fun h2 => ?_) (fun h2 => ?_)
    · skip
      refine lv_aload_n hx hb dX1_taker_27 rfl (lv_at hl 1 rfl) ?_
      refine lv_iload_n hx hb dX1_taker_28 rfl (lv_at hl 4 rfl) ?_
      refine ck1_freshFrom hx hb hml hown hB hl.1 hP hK hfr dX1_taker_29 (Nat.le_of_ble_eq_true rfl) (Nat.le_of_ble_eq_true rfl) ⟨Nat.zero_le _, Nat.zero_le _⟩ (Nat.le_of_ble_eq_true rfl) ?_
      exact W.iret (v := (f_first (g_fr (nWc μ) (nTc μ)) (160 - fr) fr)) hx hb hr (fun t ht _ => ⟨congrArg (fun z => Outcome.returned (some (Value.int z))) (by rw [g_take, if_neg (fun h => by rw [ekc, bI_0.mp h2] at h; exact absurd h.2 (by decide))]), ht⟩) (fun q h => by cases h) dX1_taker_32
    · skip
      refine lv_iload hx hb dX1_taker_22 (lv_at hl 0 rfl) ?_
      refine lv_goto (tgt := 32) hx hb dX1_taker_24 rfl ?_
      exact W.iret (v := (nI k)) hx hb hr (fun t ht _ => ⟨congrArg (fun z => Outcome.returned (some (Value.int z))) (by rw [g_take, if_pos ⟨h1, by rw [ekc]; exact bI_n0.mp h2⟩, ek]), ht⟩) (fun q h => by cases h) dX1_taker_32
set_option maxRecDepth 100000 in
theorem ck1_taker {p : Program} {l : Launch} {e : Env} {R : Room} {s : State} {m : MethodId} {args : Array Value} {below : List Frame} {meth : Method} {c : Code} {H : Heap} {locs : List Loc} {cells slots : Nat} {Q : State → Prop} {cc : ByteArray} {nL pc : Nat} {ls : Array Slot} {rest : List Value} {dC : Nat → ClassId} {dI : Nat → Nat → Nat} {B : Nat → Nat} {cI : ClassId} {cZ : ClassId} {μ : NS} {key : Int32} {v : Int32} {fr : Nat} (hx : p.tables.exec = Jvm.exec) (hb : c.code = cc) (hml : c.maxLocals = nL) (hown : s.vm.findClass RX1 = some m.cls) (hB : ∀ w ∈ bX1, w.before args s = true) (hsz : ls.size = nL) (hP : va_P (dC, dI) vwCl (wN B cI cZ μ) H) (hK : va_K (dC, dI) vwCl [(cI, .int), (cZ, .boolean)] s) (hfr : fr ≤ 160) (hd : decode cc pc = .ok (.invokevirtual 111, 3)) (hF : 5 ≤ R.frames) (hLo : 144 ≤ R.locals) (hc : cells ≤ R.cells ∧ slots ≤ R.slots) (hst : (rest.map fun v => v.category).sum ≤ 8)
    (kk : W p l e R s m args below meth c H locs cells slots Q (F0 m (pc + 3) ls (.int (g_take (nWc μ) (nTc μ) key v fr) :: rest))) : W p l e R s m args below meth c H locs cells slots Q (F0 m pc ls (.int (nI fr) :: .int v :: .int key :: .ref (B 0) :: rest)) := by
  refine W.callR (W.runV (C := RX1) (As := [.int key, .int v, .int (nI fr)]) (rest := rest) ⟨hx, hb, hml, hown, hB⟩ (cm1_taker l dC dI B cI cZ μ key v fr hfr) (cwV 3 hB goX1_taker rfl rfl rfl ⟨rfl, by decide, by decide, by decide +kernel⟩ ⟨hF, hLo⟩) ⟨fun a U g mk q => by obtain ⟨q9, qP, qK⟩ := q; exact ⟨q9, qP, va_K.moved (u := U) (U := U.calling g mk a) (Vm.Alike.refl U.vm) qK⟩, va_recv (q := (RX1, TX1, 12)) hK hP rfl (q0 := 0) rfl, fun U hU hW => ⟨rfl, by rw [hU]; exact hP, va_K.moved hW.alike hK⟩⟩ rfl rfl hsz rfl (lv_room hst) hd hc) kk
set_option maxHeartbeats 4000000 in
set_option maxRecDepth 100000 in
theorem cm1_moves (l : Launch) (dC : Nat → ClassId) (dI : Nat → Nat → Nat) (B : Nat → Nat) (cI : ClassId) (cZ : ClassId) (μ : NS) (key : Int32) (v : Int32) : Met l yX1_moves wsX1_moves (rk 4) (va_Pc [.ref (B 0), .int key, .int v] (fun U => va_P (dC, dI) vwCl (wN B cI cZ μ) U.heap ∧ va_K (dC, dI) vwCl [(cI, .int), (cZ, .boolean)] U)) (QcRead (bI (g_mov (nWc μ) (nTc μ) key v))) 0 0 (fun _ => False) := by
  refine Met.ofW (cc := cX1_moves) (maxL := 4) (ret := (some .boolean)) (by decide) rfl ?_
  intro p e s m args below meth c s₁ Bd hml hv
  obtain ⟨rfl, hP, hK⟩ := hv
  have hx := Bd.exec
  have hb := Bd.bytes
  have hr := Bd.returns
  have hB : ∀ w ∈ bX1, w.before _ s = true := fun w h => atoms_spec (ws := wsX1_moves) Bd.pre w (List.mem_cons_of_mem _ h)
  have hown : s.vm.findClass RX1 = some m.cls := findClass_of_methodNamed Bd.named
  have hlocks := Bd.notSynchronized
  have hl := lv_entry ([.ref (B 0), .int key, .int v]) (n := 4) (Nat.le_of_ble_eq_true rfl)
  rw [lg_entry_eq]
  generalize (lg_sl ([.ref (B 0), .int key, .int v]) ++ List.replicate (4 - (lg_sl ([.ref (B 0), .int key, .int v])).length) Slot.unset).toArray = ls at hl ⊢
  have hl : lv_has ls 4 [(0, .ref (B 0)), (1, .int key), (2, .int v)] := hl
  refine lv_aload_n hx hb dX1_moves_0 rfl (lv_at hl 0 rfl) ?_
  refine lv_iload_n hx hb dX1_moves_1 rfl (lv_at hl 1 rfl) ?_
  refine ck1_present hx hb hml hown hB hl.1 hP hK dX1_moves_2 (Nat.le_of_ble_eq_true rfl) (Nat.le_of_ble_eq_true rfl) ⟨Nat.zero_le _, Nat.zero_le _⟩ (Nat.le_of_ble_eq_true rfl) ?_
  refine lv_istore_n hx hb dX1_moves_5 rfl hl (by decide) rfl (fun ls hl => ?_)
  have hl : lv_has ls 4 [(3, .int (g_pres (nTc μ) key 160)), (0, .ref (B 0)), (1, .int key), (2, .int v)] := hl
  refine lv_iload_n hx hb dX1_moves_6 rfl (lv_at hl 0 rfl) ?_
  refine lv_if_lt (tgt := 19) hx hb dX1_moves_7 rfl (fun h1 => ?_) (fun h1 => ?_)
  · skip
    refine lv_iconst (v := 1) hx hb dX1_moves_19 (by decide) ?_
    refine lv_goto (tgt := 24) hx hb dX1_moves_20 rfl ?_
    exact W.zret (v := 1) hx hb hr (rfl) (fun t ht _ => ⟨congrArg (fun z => Outcome.returned (some (Value.int z))) (by simp [g_mov, bI, h1]), ht⟩) (fun q h => by cases h) dX1_moves_24
  · skip
    obtain ⟨k, hk, ek, -⟩ := (g_pres_in (nTc μ) key 160 (Nat.le_refl _)).resolve_left (fun h => h1 (by rw [h]; decide))
    have ekc : (g_pres (nTc μ) key 160).toNatClampNeg = k := by rw [ek]; exact nI_clamp (by omega)
    rw [ek] at hl
    refine lv_aload_n hx hb dX1_moves_10 rfl (lv_at hl 1 rfl) ?_
    refine lv_iload_n hx hb dX1_moves_11 rfl (lv_at hl 0 rfl) ?_
    refine lv_iload_n hx hb dX1_moves_12 rfl (lv_at hl 3 rfl) ?_
    refine ck1_comesTo hx hb hml hown hB hl.1 hP hK hk dX1_moves_13 (Nat.le_of_ble_eq_true rfl) (Nat.le_of_ble_eq_true rfl) ⟨Nat.zero_le _, Nat.zero_le _⟩ (Nat.le_of_ble_eq_true rfl) ?_
    refine lv_if_ne (tgt := 23) hx hb dX1_moves_16 rfl (fun h2 => ?_) (fun h2 => ?_)
    · skip
      refine lv_iconst (v := 0) hx hb dX1_moves_23 (by decide) ?_
      exact W.zret (v := 0) hx hb hr (rfl) (fun t ht _ => ⟨congrArg (fun z => Outcome.returned (some (Value.int z))) (by rw [g_mov, ekc, bI_n0.mp h2]; simp [bI, h1]), ht⟩) (fun q h => by cases h) dX1_moves_24
    · skip
      refine lv_iconst (v := 1) hx hb dX1_moves_19 (by decide) ?_
      refine lv_goto (tgt := 24) hx hb dX1_moves_20 rfl ?_
      exact W.zret (v := 1) hx hb hr (rfl) (fun t ht _ => ⟨congrArg (fun z => Outcome.returned (some (Value.int z))) (by rw [g_mov, ekc, bI_0.mp h2]; simp [bI]), ht⟩) (fun q h => by cases h) dX1_moves_24
set_option maxRecDepth 100000 in
theorem ck1_moves {p : Program} {l : Launch} {e : Env} {R : Room} {s : State} {m : MethodId} {args : Array Value} {below : List Frame} {meth : Method} {c : Code} {H : Heap} {locs : List Loc} {cells slots : Nat} {Q : State → Prop} {cc : ByteArray} {nL pc : Nat} {ls : Array Slot} {rest : List Value} {dC : Nat → ClassId} {dI : Nat → Nat → Nat} {B : Nat → Nat} {cI : ClassId} {cZ : ClassId} {μ : NS} {key : Int32} {v : Int32} (hx : p.tables.exec = Jvm.exec) (hb : c.code = cc) (hml : c.maxLocals = nL) (hown : s.vm.findClass RX1 = some m.cls) (hB : ∀ w ∈ bX1, w.before args s = true) (hsz : ls.size = nL) (hP : va_P (dC, dI) vwCl (wN B cI cZ μ) H) (hK : va_K (dC, dI) vwCl [(cI, .int), (cZ, .boolean)] s)  (hd : decode cc pc = .ok (.invokevirtual 119, 3)) (hF : 5 ≤ R.frames) (hLo : 143 ≤ R.locals) (hc : cells ≤ R.cells ∧ slots ≤ R.slots) (hst : (rest.map fun v => v.category).sum ≤ 8)
    (kk : W p l e R s m args below meth c H locs cells slots Q (F0 m (pc + 3) ls (.int (bI (g_mov (nWc μ) (nTc μ) key v)) :: rest))) : W p l e R s m args below meth c H locs cells slots Q (F0 m pc ls (.int v :: .int key :: .ref (B 0) :: rest)) := by
  refine W.callR (W.runV (C := RX1) (As := [.int key, .int v]) (rest := rest) ⟨hx, hb, hml, hown, hB⟩ (cm1_moves l dC dI B cI cZ μ key v) (cwV 2 hB goX1_moves rfl rfl rfl ⟨rfl, by decide, by decide, by decide +kernel⟩ ⟨hF, hLo⟩) ⟨fun a U g mk q => by obtain ⟨q9, qP, qK⟩ := q; exact ⟨q9, qP, va_K.moved (u := U) (U := U.calling g mk a) (Vm.Alike.refl U.vm) qK⟩, va_recv (q := (RX1, TX1, 12)) hK hP rfl (q0 := 0) rfl, fun U hU hW => ⟨rfl, by rw [hU]; exact hP, va_K.moved hW.alike hK⟩⟩ rfl rfl hsz rfl (lv_room hst) hd hc) kk
