set_option maxHeartbeats 4000000 in
set_option maxRecDepth 100000 in
theorem cm0_staysInPlace (l : Launch) (dC : Nat → ClassId) (dI : Nat → Nat → Nat) (A : Nat → Nat) (cI : ClassId) (σ : OS) (pr : Int32) (v : Int32) (hv : pr = -1 ∨ vp_in pr 160) : Met l yX0_staysInPlace wsX0_staysInPlace (rk 2) (va_Pc [.ref (A 0), .int pr, .int v] (fun U => va_P (dC, dI) vwCl (wO A cI σ) U.heap ∧ va_K (dC, dI) vwCl [(cI, .int)] U)) (QcRead (bI (f_stay (oW σ) pr v))) 0 0 (fun _ => False) := by
  refine Met.ofW (cc := cX0_staysInPlace) (maxL := 3) (ret := (some .boolean)) (by decide) rfl ?_
  intro p e s m args below meth c s₁ B hml hv
  obtain ⟨rfl, hP, hK⟩ := hv
  have hx := B.exec
  have hb := B.bytes
  have hr := B.returns
  have hB : ∀ w ∈ bX0, w.before _ s = true := fun w h => atoms_spec (ws := wsX0_staysInPlace) B.pre w (List.mem_cons_of_mem _ h)
  have hown : s.vm.findClass RX0 = some m.cls := findClass_of_methodNamed B.named
  have hlocks := B.notSynchronized
  have hl := lv_entry ([.ref (A 0), .int pr, .int v]) (n := 3) (Nat.le_of_ble_eq_true rfl)
  rw [lg_entry_eq]
  generalize (lg_sl ([.ref (A 0), .int pr, .int v]) ++ List.replicate (3 - (lg_sl ([.ref (A 0), .int pr, .int v])).length) Slot.unset).toArray = ls at hl ⊢
  have hl : lv_has ls 3 [(0, .ref (A 0)), (1, .int pr), (2, .int v)] := hl
  refine lv_iload_n hx hb dX0_staysInPlace_0 rfl (lv_at hl 1 rfl) ?_
  refine lv_iconst (v := (-1)) hx hb dX0_staysInPlace_1 (by decide) ?_
  refine lv_icmp_eq (tgt := 23) hx hb dX0_staysInPlace_2 rfl (fun h1 => ?_) (fun h1 => ?_)
  · skip
    refine lv_iconst (v := 0) hx hb dX0_staysInPlace_23 (by decide) ?_
    exact W.zret (v := 0) hx hb hr (rfl) (fun t ht _ => ⟨congrArg (fun z => Outcome.returned (some (Value.int z))) (by simp [f_stay, bI, h1]), ht⟩) (fun q h => by cases h) dX0_staysInPlace_24
  · skip
    refine lv_aload_n hx hb dX0_staysInPlace_5 rfl (lv_at hl 0 rfl) ?_
    refine va_get (D := (dC, dI)) (ci := 0) (v := .ref (A 1)) (C := RX0) (T := TX0) (N := 12) hx hb hB inX0 hown hK hP 0 rfl rfl 0 (by decide) (hB _ mX0_f_wordRow) (fun _ h9 => h9) rfl dX0_staysInPlace_6 ?_
    refine lv_iload_n hx hb dX0_staysInPlace_9 rfl (lv_at hl 1 rfl) ?_
    refine va_iald (D := (dC, dI)) (i := pr) hx hb hK hP 1 0 rfl rfl (hv.resolve_left h1) dX0_staysInPlace_10 ?_
    refine lv_iload_n hx hb dX0_staysInPlace_11 rfl (lv_at hl 2 rfl) ?_
    refine ck0_patternOfWord hx hb hml hown hB hl.1  dX0_staysInPlace_12 (Nat.le_of_ble_eq_true rfl) (Nat.le_of_ble_eq_true rfl) ⟨Nat.zero_le _, Nat.zero_le _⟩ (Nat.le_of_ble_eq_true rfl) ?_
    refine lv_iconst (v := (-1)) hx hb dX0_staysInPlace_15 (by decide) ?_
    refine lv_icmp_eq (tgt := 23) hx hb dX0_staysInPlace_16 rfl (fun h2 => ?_) (fun h2 => ?_)
    · skip
      refine lv_iconst (v := 0) hx hb dX0_staysInPlace_23 (by decide) ?_
      exact W.zret (v := 0) hx hb hr (rfl) (fun t ht _ => ⟨congrArg (fun z => Outcome.returned (some (Value.int z))) (by simp [f_stay, bI, h2]), ht⟩) (fun q h => by cases h) dX0_staysInPlace_24
    · skip
      refine lv_iconst (v := 1) hx hb dX0_staysInPlace_19 (by decide) ?_
      refine lv_goto (tgt := 24) hx hb dX0_staysInPlace_20 rfl ?_
      exact W.zret (v := 1) hx hb hr (rfl) (fun t ht _ => ⟨congrArg (fun z => Outcome.returned (some (Value.int z))) (by simp [f_stay, bI, h1, h2]), ht⟩) (fun q h => by cases h) dX0_staysInPlace_24
set_option maxRecDepth 100000 in
theorem ck0_staysInPlace {p : Program} {l : Launch} {e : Env} {R : Room} {s : State} {m : MethodId} {args : Array Value} {below : List Frame} {meth : Method} {c : Code} {H : Heap} {locs : List Loc} {cells slots : Nat} {Q : State → Prop} {cc : ByteArray} {nL pc : Nat} {ls : Array Slot} {rest : List Value} {dC : Nat → ClassId} {dI : Nat → Nat → Nat} {A : Nat → Nat} {cI : ClassId} {σ : OS} {pr : Int32} {v : Int32} (hx : p.tables.exec = Jvm.exec) (hb : c.code = cc) (hml : c.maxLocals = nL) (hown : s.vm.findClass RX0 = some m.cls) (hB : ∀ w ∈ bX0, w.before args s = true) (hsz : ls.size = nL) (hP : va_P (dC, dI) vwCl (wO A cI σ) H) (hK : va_K (dC, dI) vwCl [(cI, .int)] s) (hv : pr = -1 ∨ vp_in pr 160) (hd : decode cc pc = .ok (.invokevirtual 76, 3)) (hF : 3 ≤ R.frames) (hLo : 82 ≤ R.locals) (hc : cells ≤ R.cells ∧ slots ≤ R.slots) (hst : (rest.map fun v => v.category).sum ≤ 8)
    (kk : W p l e R s m args below meth c H locs cells slots Q (F0 m (pc + 3) ls (.int (bI (f_stay (oW σ) pr v)) :: rest))) : W p l e R s m args below meth c H locs cells slots Q (F0 m pc ls (.int v :: .int pr :: .ref (A 0) :: rest)) := by
  refine W.callR (W.runV (C := RX0) (As := [.int pr, .int v]) (rest := rest) ⟨hx, hb, hml, hown, hB⟩ (cm0_staysInPlace l dC dI A cI σ pr v hv) (cwV 2 hB goX0_staysInPlace rfl rfl rfl ⟨rfl, by decide, by decide, by decide +kernel⟩ ⟨hF, hLo⟩) ⟨fun a U g mk q => by obtain ⟨q9, qP, qK⟩ := q; exact ⟨q9, qP, va_K.moved (u := U) (U := U.calling g mk a) (Vm.Alike.refl U.vm) qK⟩, va_recv (q := (RX0, TX0, 12)) hK hP rfl (q0 := 0) rfl, fun U hU hW => ⟨rfl, by rw [hU]; exact hP, va_K.moved hW.alike hK⟩⟩ rfl rfl hsz rfl (lv_room hst) hd hc) kk
set_option maxHeartbeats 4000000 in
set_option maxRecDepth 100000 in
theorem cm0_presentWord (l : Launch) (dC : Nat → ClassId) (dI : Nat → Nat → Nat) (A : Nat → Nat) (cI : ClassId) (σ : OS) (key : Int32) : Met l yX0_presentWord wsX0_presentWord (rk 1) (va_Pc [.ref (A 0), .int key] (fun U => va_P (dC, dI) vwCl (wO A cI σ) U.heap ∧ va_K (dC, dI) vwCl [(cI, .int)] U)) (QcRead (f_pres (oT σ) key 160)) 0 0 (fun _ => False) := by
  refine Met.ofW (cc := cX0_presentWord) (maxL := 3) (ret := (some .int)) (by decide) rfl ?_
  intro p e s m args below meth c s₁ B hml hv
  obtain ⟨rfl, hP, hK⟩ := hv
  have hx := B.exec
  have hb := B.bytes
  have hr := B.returns
  have hB : ∀ w ∈ bX0, w.before _ s = true := fun w h => atoms_spec (ws := wsX0_presentWord) B.pre w (List.mem_cons_of_mem _ h)
  have hown : s.vm.findClass RX0 = some m.cls := findClass_of_methodNamed B.named
  have hlocks := B.notSynchronized
  have hl := lv_entry ([.ref (A 0), .int key]) (n := 3) (Nat.le_of_ble_eq_true rfl)
  rw [lg_entry_eq]
  generalize (lg_sl ([.ref (A 0), .int key]) ++ List.replicate (3 - (lg_sl ([.ref (A 0), .int key])).length) Slot.unset).toArray = ls at hl ⊢
  have hl : lv_has ls 3 [(0, .ref (A 0)), (1, .int key)] := hl
  refine lv_sipush (v := 159) hx hb dX0_presentWord_0 (by decide) ?_
  refine lv_istore_n hx hb dX0_presentWord_3 rfl hl (by decide) rfl (fun ls hl => ?_)
  have hl : lv_has ls 3 [(2, .int 159), (0, .ref (A 0)), (1, .int key)] := hl
  have hl := lv_sub (l' := [(0, .ref (A 0)), (1, .int key), (2, .int 159)]) hl [1, 2, 0] rfl
  have loop : ∀ (n : Nat) (ls : Array Slot), n ≤ 160 → lv_has ls 3 [(0, .ref (A 0)), (1, .int key), (2, .int (nI n + (-1)))] → f_pres (oT σ) key n = f_pres (oT σ) key 160 → W p l e (headSpec wsX0_presentWord (rk 1)).room s m ([.ref (A 0), .int key]).toArray below meth c s.heap [] 0 0 (MQ below (QcRead (f_pres (oT σ) key 160)) ([.ref (A 0), .int key]).toArray s 0 0 (fun _ => False)) (F0 m 4 ls []) := by
    intro n
    induction n with
    | zero =>
    intro ls hn hl hF
    refine lv_iload_n hx hb dX0_presentWord_4 rfl (lv_at hl 2 rfl) ?_
    refine lv_if_lt (tgt := 29) hx hb dX0_presentWord_5 rfl (fun h1 => ?_) (fun h1 => ?_)
    · skip
      refine lv_iconst (v := (-1)) hx hb dX0_presentWord_29 (by decide) ?_
      exact W.iret (v := (-1)) hx hb hr (fun t ht _ => ⟨congrArg (fun z => Outcome.returned (some (Value.int z))) (hF), ht⟩) (fun q h => by cases h) dX0_presentWord_30
    · skip
      exact absurd (by decide) h1
    | succ n ih =>
    intro ls hn hl hF
    rw [pk_m1] at hl
    refine lv_iload_n hx hb dX0_presentWord_4 rfl (lv_at hl 2 rfl) ?_
    refine lv_if_lt (tgt := 29) hx hb dX0_presentWord_5 rfl (fun h1 => ?_) (fun h1 => ?_)
    · skip
      exact absurd h1 (nI_pos (by omega))
    · skip
      refine lv_aload_n hx hb dX0_presentWord_8 rfl (lv_at hl 0 rfl) ?_
      refine va_get (D := (dC, dI)) (ci := 0) (v := .ref (A 2)) (C := RX0) (T := TX0) (N := 12) hx hb hB inX0 hown hK hP 0 rfl rfl 1 (by decide) (hB _ mX0_f_tagRow) (fun _ h9 => h9) rfl dX0_presentWord_9 ?_
      refine lv_iload_n hx hb dX0_presentWord_12 rfl (lv_at hl 2 rfl) ?_
      refine va_iald (D := (dC, dI)) (i := (nI n)) hx hb hK hP 2 0 rfl rfl (vp_in_nI (by omega) (by decide)) dX0_presentWord_13 ?_
      rw [show ((nI n)).toNatClampNeg = n from nI_clamp (by omega)]
      refine lv_iload_n hx hb dX0_presentWord_14 rfl (lv_at hl 1 rfl) ?_
      refine ck0_tagOf hx hb hml hown hB hl.1  dX0_presentWord_15 (Nat.le_of_ble_eq_true rfl) (Nat.le_of_ble_eq_true rfl) ⟨Nat.zero_le _, Nat.zero_le _⟩ (Nat.le_of_ble_eq_true rfl) ?_
      refine lv_icmp_ne (tgt := 23) hx hb dX0_presentWord_18 rfl (fun h2 => ?_) (fun h2 => ?_)
      · skip
        refine lv_iinc (k := 2) (v := (nI n + (-1))) hx hb dX0_presentWord_23 hl rfl (rfl) (by decide) rfl (fun ls hl => ?_)
        have hl : lv_has ls 3 [(2, .int (nI n + (-1))), (0, .ref (A 0)), (1, .int key)] := hl
        refine lv_goto (tgt := 4) hx hb dX0_presentWord_26 rfl ?_
        refine ih ls (by omega) (lv_sub hl [1, 2, 0] rfl) ?_
        rw [← hF]; exact (if_neg (by simpa using h2)).symm
      · skip
        refine lv_iload_n hx hb dX0_presentWord_21 rfl (lv_at hl 2 rfl) ?_
        exact W.iret (v := (nI n)) hx hb hr (fun t ht _ => ⟨congrArg (fun z => Outcome.returned (some (Value.int z))) (by rw [← hF]; exact (if_pos (by simpa using h2)).symm), ht⟩) (fun q h => by cases h) dX0_presentWord_22
  exact loop 160 ls (Nat.le_refl _) hl rfl
set_option maxRecDepth 100000 in
theorem ck0_presentWord {p : Program} {l : Launch} {e : Env} {R : Room} {s : State} {m : MethodId} {args : Array Value} {below : List Frame} {meth : Method} {c : Code} {H : Heap} {locs : List Loc} {cells slots : Nat} {Q : State → Prop} {cc : ByteArray} {nL pc : Nat} {ls : Array Slot} {rest : List Value} {dC : Nat → ClassId} {dI : Nat → Nat → Nat} {A : Nat → Nat} {cI : ClassId} {σ : OS} {key : Int32} (hx : p.tables.exec = Jvm.exec) (hb : c.code = cc) (hml : c.maxLocals = nL) (hown : s.vm.findClass RX0 = some m.cls) (hB : ∀ w ∈ bX0, w.before args s = true) (hsz : ls.size = nL) (hP : va_P (dC, dI) vwCl (wO A cI σ) H) (hK : va_K (dC, dI) vwCl [(cI, .int)] s)  (hd : decode cc pc = .ok (.invokevirtual 69, 3)) (hF : 2 ≤ R.frames) (hLo : 52 ≤ R.locals) (hc : cells ≤ R.cells ∧ slots ≤ R.slots) (hst : (rest.map fun v => v.category).sum ≤ 8)
    (kk : W p l e R s m args below meth c H locs cells slots Q (F0 m (pc + 3) ls (.int (f_pres (oT σ) key 160) :: rest))) : W p l e R s m args below meth c H locs cells slots Q (F0 m pc ls (.int key :: .ref (A 0) :: rest)) := by
  refine W.callR (W.runV (C := RX0) (As := [.int key]) (rest := rest) ⟨hx, hb, hml, hown, hB⟩ (cm0_presentWord l dC dI A cI σ key) (cwV 1 hB goX0_presentWord rfl rfl rfl ⟨rfl, by decide, by decide, by decide +kernel⟩ ⟨hF, hLo⟩) ⟨fun a U g mk q => by obtain ⟨q9, qP, qK⟩ := q; exact ⟨q9, qP, va_K.moved (u := U) (U := U.calling g mk a) (Vm.Alike.refl U.vm) qK⟩, va_recv (q := (RX0, TX0, 12)) hK hP rfl (q0 := 0) rfl, fun U hU hW => ⟨rfl, by rw [hU]; exact hP, va_K.moved hW.alike hK⟩⟩ rfl rfl hsz rfl (lv_room hst) hd hc) kk
set_option maxHeartbeats 4000000 in
set_option maxRecDepth 100000 in
theorem cm0_numberedWord (l : Launch) (dC : Nat → ClassId) (dI : Nat → Nat → Nat) (A : Nat → Nat) (cI : ClassId) (σ : OS) (key : Int32) (j : Int32) : Met l yX0_numberedWord wsX0_numberedWord (rk 1) (va_Pc [.ref (A 0), .int key, .int j] (fun U => va_P (dC, dI) vwCl (wO A cI σ) U.heap ∧ va_K (dC, dI) vwCl [(cI, .int)] U)) (QcRead (f_num (oT σ) key j 160 0 0)) 0 0 (fun _ => False) := by
  refine Met.ofW (cc := cX0_numberedWord) (maxL := 5) (ret := (some .int)) (by decide) rfl ?_
  intro p e s m args below meth c s₁ B hml hv
  obtain ⟨rfl, hP, hK⟩ := hv
  have hx := B.exec
  have hb := B.bytes
  have hr := B.returns
  have hB : ∀ w ∈ bX0, w.before _ s = true := fun w h => atoms_spec (ws := wsX0_numberedWord) B.pre w (List.mem_cons_of_mem _ h)
  have hown : s.vm.findClass RX0 = some m.cls := findClass_of_methodNamed B.named
  have hlocks := B.notSynchronized
  have hl := lv_entry ([.ref (A 0), .int key, .int j]) (n := 5) (Nat.le_of_ble_eq_true rfl)
  rw [lg_entry_eq]
  generalize (lg_sl ([.ref (A 0), .int key, .int j]) ++ List.replicate (5 - (lg_sl ([.ref (A 0), .int key, .int j])).length) Slot.unset).toArray = ls at hl ⊢
  have hl : lv_has ls 5 [(0, .ref (A 0)), (1, .int key), (2, .int j)] := hl
  refine lv_iconst (v := 0) hx hb dX0_numberedWord_0 (by decide) ?_
  refine lv_istore_n hx hb dX0_numberedWord_1 rfl hl (by decide) rfl (fun ls hl => ?_)
  have hl : lv_has ls 5 [(3, .int 0), (0, .ref (A 0)), (1, .int key), (2, .int j)] := hl
  refine lv_iconst (v := 0) hx hb dX0_numberedWord_2 (by decide) ?_
  refine lv_istore hx hb dX0_numberedWord_3 hl (by decide) rfl (fun ls hl => ?_)
  have hl : lv_has ls 5 [(4, .int 0), (3, .int 0), (0, .ref (A 0)), (1, .int key), (2, .int j)] := hl
  have hl := lv_sub (l' := [(0, .ref (A 0)), (1, .int key), (2, .int j), (3, .int 0), (4, .int 0)]) hl [2, 3, 4, 1, 0] rfl
  have loop : ∀ (n i : Nat) (b : Int32) (ls : Array Slot), i + n = 160 → lv_has ls 5 [(0, .ref (A 0)), (1, .int key), (2, .int j), (3, .int b), (4, .int (nI i))] → f_num (oT σ) key j n i b = f_num (oT σ) key j 160 0 0 → W p l e (headSpec wsX0_numberedWord (rk 1)).room s m ([.ref (A 0), .int key, .int j]).toArray below meth c s.heap [] 0 0 (MQ below (QcRead (f_num (oT σ) key j 160 0 0)) ([.ref (A 0), .int key, .int j]).toArray s 0 0 (fun _ => False)) (F0 m 5 ls []) := by
    intro n
    induction n with
    | zero =>
      intro i b ls hi hl hF
      have hi8 : i = 160 := by omega
      subst hi8
      refine lv_iload hx hb dX0_numberedWord_5 (lv_at hl 4 rfl) ?_
      refine lv_sipush (v := 160) hx hb dX0_numberedWord_7 (by decide) ?_
      refine lv_icmp_ge (tgt := 44) hx hb dX0_numberedWord_10 rfl (fun h1 => ?_) (fun h1 => ?_)
      · skip
        refine lv_iconst (v := (-1)) hx hb dX0_numberedWord_44 (by decide) ?_
        exact W.iret (v := (-1)) hx hb hr (fun t ht _ => ⟨congrArg (fun z => Outcome.returned (some (Value.int z))) (hF), ht⟩) (fun q h => by cases h) dX0_numberedWord_45
      · skip
        exact absurd (by decide) h1
    | succ n ih =>
      intro i b ls hi hl hF
      refine lv_iload hx hb dX0_numberedWord_5 (lv_at hl 4 rfl) ?_
      refine lv_sipush (v := 160) hx hb dX0_numberedWord_7 (by decide) ?_
      refine lv_icmp_ge (tgt := 44) hx hb dX0_numberedWord_10 rfl (fun h1 => ?_) (fun h1 => ?_)
      · skip
        exact absurd h1 (nI_ge (b := 160) (by omega) (by decide))
      · skip
        refine lv_aload_n hx hb dX0_numberedWord_13 rfl (lv_at hl 0 rfl) ?_
        refine va_get (D := (dC, dI)) (ci := 0) (v := .ref (A 2)) (C := RX0) (T := TX0) (N := 12) hx hb hB inX0 hown hK hP 0 rfl rfl 1 (by decide) (hB _ mX0_f_tagRow) (fun _ h9 => h9) rfl dX0_numberedWord_14 ?_
        refine lv_iload hx hb dX0_numberedWord_17 (lv_at hl 4 rfl) ?_
        refine va_iald (D := (dC, dI)) (i := (nI i)) hx hb hK hP 2 0 rfl rfl (vp_in_nI (by omega) (by decide)) dX0_numberedWord_19 ?_
        rw [show ((nI i)).toNatClampNeg = i from nI_clamp (by omega)]
        refine lv_iload_n hx hb dX0_numberedWord_20 rfl (lv_at hl 1 rfl) ?_
        refine ck0_tagOf hx hb hml hown hB hl.1  dX0_numberedWord_21 (Nat.le_of_ble_eq_true rfl) (Nat.le_of_ble_eq_true rfl) ⟨Nat.zero_le _, Nat.zero_le _⟩ (Nat.le_of_ble_eq_true rfl) ?_
        refine lv_icmp_ne (tgt := 38) hx hb dX0_numberedWord_24 rfl (fun h2 => ?_) (fun h2 => ?_)
        · skip
          refine lv_iinc (k := 4) (v := (nI (i + 1))) hx hb dX0_numberedWord_38 hl rfl (nI_1 i) (by decide) rfl (fun ls hl => ?_)
          have hl : lv_has ls 5 [(4, .int (nI (i + 1))), (0, .ref (A 0)), (1, .int key), (2, .int j), (3, .int b)] := hl
          refine lv_goto (tgt := 5) hx hb dX0_numberedWord_41 rfl ?_
          refine ih (i + 1) _ ls (by omega) (lv_sub hl [1, 2, 3, 4, 0] rfl) ?_
          rw [← hF]; exact (if_neg (by simpa using h2)).symm
        · skip
          refine lv_iload_n hx hb dX0_numberedWord_27 rfl (lv_at hl 3 rfl) ?_
          refine lv_iload_n hx hb dX0_numberedWord_28 rfl (lv_at hl 2 rfl) ?_
          refine lv_icmp_ne (tgt := 35) hx hb dX0_numberedWord_29 rfl (fun h3 => ?_) (fun h3 => ?_)
          · skip
            refine lv_iinc (k := 3) (v := (b + 1)) hx hb dX0_numberedWord_35 hl rfl (rfl) (by decide) rfl (fun ls hl => ?_)
            have hl : lv_has ls 5 [(3, .int (b + 1)), (0, .ref (A 0)), (1, .int key), (2, .int j), (4, .int (nI i))] := hl
            refine lv_iinc (k := 4) (v := (nI (i + 1))) hx hb dX0_numberedWord_38 hl rfl (nI_1 i) (by decide) rfl (fun ls hl => ?_)
            have hl : lv_has ls 5 [(4, .int (nI (i + 1))), (3, .int (b + 1)), (0, .ref (A 0)), (1, .int key), (2, .int j)] := hl
            refine lv_goto (tgt := 5) hx hb dX0_numberedWord_41 rfl ?_
            refine ih (i + 1) _ ls (by omega) (lv_sub hl [2, 3, 4, 1, 0] rfl) ?_
            rw [← hF]; exact ((if_pos (by simpa using h2)).trans (if_neg (by simpa using h3))).symm
          · skip
            refine lv_iload hx hb dX0_numberedWord_32 (lv_at hl 4 rfl) ?_
            exact W.iret (v := (nI i)) hx hb hr (fun t ht _ => ⟨congrArg (fun z => Outcome.returned (some (Value.int z))) (by rw [← hF]; exact ((if_pos (by simpa using h2)).trans (if_pos (by simpa using h3))).symm), ht⟩) (fun q h => by cases h) dX0_numberedWord_34
  exact loop 160 0 0 ls rfl hl rfl
set_option maxRecDepth 100000 in
theorem ck0_numberedWord {p : Program} {l : Launch} {e : Env} {R : Room} {s : State} {m : MethodId} {args : Array Value} {below : List Frame} {meth : Method} {c : Code} {H : Heap} {locs : List Loc} {cells slots : Nat} {Q : State → Prop} {cc : ByteArray} {nL pc : Nat} {ls : Array Slot} {rest : List Value} {dC : Nat → ClassId} {dI : Nat → Nat → Nat} {A : Nat → Nat} {cI : ClassId} {σ : OS} {key : Int32} {j : Int32} (hx : p.tables.exec = Jvm.exec) (hb : c.code = cc) (hml : c.maxLocals = nL) (hown : s.vm.findClass RX0 = some m.cls) (hB : ∀ w ∈ bX0, w.before args s = true) (hsz : ls.size = nL) (hP : va_P (dC, dI) vwCl (wO A cI σ) H) (hK : va_K (dC, dI) vwCl [(cI, .int)] s)  (hd : decode cc pc = .ok (.invokevirtual 118, 3)) (hF : 2 ≤ R.frames) (hLo : 54 ≤ R.locals) (hc : cells ≤ R.cells ∧ slots ≤ R.slots) (hst : (rest.map fun v => v.category).sum ≤ 8)
    (kk : W p l e R s m args below meth c H locs cells slots Q (F0 m (pc + 3) ls (.int (f_num (oT σ) key j 160 0 0) :: rest))) : W p l e R s m args below meth c H locs cells slots Q (F0 m pc ls (.int j :: .int key :: .ref (A 0) :: rest)) := by
  refine W.callR (W.runV (C := RX0) (As := [.int key, .int j]) (rest := rest) ⟨hx, hb, hml, hown, hB⟩ (cm0_numberedWord l dC dI A cI σ key j) (cwV 2 hB goX0_numberedWord rfl rfl rfl ⟨rfl, by decide, by decide, by decide +kernel⟩ ⟨hF, hLo⟩) ⟨fun a U g mk q => by obtain ⟨q9, qP, qK⟩ := q; exact ⟨q9, qP, va_K.moved (u := U) (U := U.calling g mk a) (Vm.Alike.refl U.vm) qK⟩, va_recv (q := (RX0, TX0, 12)) hK hP rfl (q0 := 0) rfl, fun U hU hW => ⟨rfl, by rw [hU]; exact hP, va_K.moved hW.alike hK⟩⟩ rfl rfl hsz rfl (lv_room hst) hd hc) kk
set_option maxHeartbeats 4000000 in
set_option maxRecDepth 100000 in
theorem cm0_countWords (l : Launch) (dC : Nat → ClassId) (dI : Nat → Nat → Nat) (A : Nat → Nat) (cI : ClassId) (σ : OS) (key : Int32) : Met l yX0_countWords wsX0_countWords (rk 1) (va_Pc [.ref (A 0), .int key] (fun U => va_P (dC, dI) vwCl (wO A cI σ) U.heap ∧ va_K (dC, dI) vwCl [(cI, .int)] U)) (QcRead (f_cnt (fun w => decide (oT σ w = key + 128)) 160 0 0)) 0 0 (fun _ => False) := by
  refine Met.ofW (cc := cX0_countWords) (maxL := 4) (ret := (some .int)) (by decide) rfl ?_
  intro p e s m args below meth c s₁ B hml hv
  obtain ⟨rfl, hP, hK⟩ := hv
  have hx := B.exec
  have hb := B.bytes
  have hr := B.returns
  have hB : ∀ w ∈ bX0, w.before _ s = true := fun w h => atoms_spec (ws := wsX0_countWords) B.pre w (List.mem_cons_of_mem _ h)
  have hown : s.vm.findClass RX0 = some m.cls := findClass_of_methodNamed B.named
  have hlocks := B.notSynchronized
  have hl := lv_entry ([.ref (A 0), .int key]) (n := 4) (Nat.le_of_ble_eq_true rfl)
  rw [lg_entry_eq]
  generalize (lg_sl ([.ref (A 0), .int key]) ++ List.replicate (4 - (lg_sl ([.ref (A 0), .int key])).length) Slot.unset).toArray = ls at hl ⊢
  have hl : lv_has ls 4 [(0, .ref (A 0)), (1, .int key)] := hl
  refine lv_iconst (v := 0) hx hb dX0_countWords_0 (by decide) ?_
  refine lv_istore_n hx hb dX0_countWords_1 rfl hl (by decide) rfl (fun ls hl => ?_)
  have hl : lv_has ls 4 [(2, .int 0), (0, .ref (A 0)), (1, .int key)] := hl
  refine lv_iconst (v := 0) hx hb dX0_countWords_2 (by decide) ?_
  refine lv_istore_n hx hb dX0_countWords_3 rfl hl (by decide) rfl (fun ls hl => ?_)
  have hl : lv_has ls 4 [(3, .int 0), (2, .int 0), (0, .ref (A 0)), (1, .int key)] := hl
  have hl := lv_sub (l' := [(0, .ref (A 0)), (1, .int key), (2, .int 0), (3, .int 0)]) hl [2, 3, 1, 0] rfl
  have loop : ∀ (n i : Nat) (a : Int32) (ls : Array Slot), i + n = 160 → lv_has ls 4 [(0, .ref (A 0)), (1, .int key), (2, .int a), (3, .int (nI i))] → f_cnt (fun w => decide (oT σ w = key + 128)) n i a = f_cnt (fun w => decide (oT σ w = key + 128)) 160 0 0 → W p l e (headSpec wsX0_countWords (rk 1)).room s m ([.ref (A 0), .int key]).toArray below meth c s.heap [] 0 0 (MQ below (QcRead (f_cnt (fun w => decide (oT σ w = key + 128)) 160 0 0)) ([.ref (A 0), .int key]).toArray s 0 0 (fun _ => False)) (F0 m 4 ls []) := by
    intro n
    induction n with
    | zero =>
      intro i a ls hi hl hF
      have hi8 : i = 160 := by omega
      subst hi8
      refine lv_iload_n hx hb dX0_countWords_4 rfl (lv_at hl 3 rfl) ?_
      refine lv_sipush (v := 160) hx hb dX0_countWords_5 (by decide) ?_
      refine lv_icmp_ge (tgt := 33) hx hb dX0_countWords_8 rfl (fun h1 => ?_) (fun h1 => ?_)
      · skip
        refine lv_iload_n hx hb dX0_countWords_33 rfl (lv_at hl 2 rfl) ?_
        exact W.iret (v := a) hx hb hr (fun t ht _ => ⟨congrArg (fun z => Outcome.returned (some (Value.int z))) (hF), ht⟩) (fun q h => by cases h) dX0_countWords_34
      · skip
        exact absurd (by decide) h1
    | succ n ih =>
      intro i a ls hi hl hF
      refine lv_iload_n hx hb dX0_countWords_4 rfl (lv_at hl 3 rfl) ?_
      refine lv_sipush (v := 160) hx hb dX0_countWords_5 (by decide) ?_
      refine lv_icmp_ge (tgt := 33) hx hb dX0_countWords_8 rfl (fun h1 => ?_) (fun h1 => ?_)
      · skip
        exact absurd h1 (nI_ge (b := 160) (by omega) (by decide))
      · skip
        refine lv_aload_n hx hb dX0_countWords_11 rfl (lv_at hl 0 rfl) ?_
        refine va_get (D := (dC, dI)) (ci := 0) (v := .ref (A 2)) (C := RX0) (T := TX0) (N := 12) hx hb hB inX0 hown hK hP 0 rfl rfl 1 (by decide) (hB _ mX0_f_tagRow) (fun _ h9 => h9) rfl dX0_countWords_12 ?_
        refine lv_iload_n hx hb dX0_countWords_15 rfl (lv_at hl 3 rfl) ?_
        refine va_iald (D := (dC, dI)) (i := (nI i)) hx hb hK hP 2 0 rfl rfl (vp_in_nI (by omega) (by decide)) dX0_countWords_16 ?_
        rw [show ((nI i)).toNatClampNeg = i from nI_clamp (by omega)]
        refine lv_iload_n hx hb dX0_countWords_17 rfl (lv_at hl 1 rfl) ?_
        refine ck0_tagOf hx hb hml hown hB hl.1  dX0_countWords_18 (Nat.le_of_ble_eq_true rfl) (Nat.le_of_ble_eq_true rfl) ⟨Nat.zero_le _, Nat.zero_le _⟩ (Nat.le_of_ble_eq_true rfl) ?_
        refine lv_icmp_ne (tgt := 27) hx hb dX0_countWords_21 rfl (fun h2 => ?_) (fun h2 => ?_)
        · skip
          refine lv_iinc (k := 3) (v := (nI (i + 1))) hx hb dX0_countWords_27 hl rfl (nI_1 i) (by decide) rfl (fun ls hl => ?_)
          have hl : lv_has ls 4 [(3, .int (nI (i + 1))), (0, .ref (A 0)), (1, .int key), (2, .int a)] := hl
          refine lv_goto (tgt := 4) hx hb dX0_countWords_30 rfl ?_
          refine ih (i + 1) _ ls (by omega) (lv_sub hl [1, 2, 3, 0] rfl) ?_
          rw [← hF]; simp only [f_cnt]; rw [if_neg (by simpa using h2)]
        · skip
          refine lv_iinc (k := 2) (v := (a + 1)) hx hb dX0_countWords_24 hl rfl (rfl) (by decide) rfl (fun ls hl => ?_)
          have hl : lv_has ls 4 [(2, .int (a + 1)), (0, .ref (A 0)), (1, .int key), (3, .int (nI i))] := hl
          refine lv_iinc (k := 3) (v := (nI (i + 1))) hx hb dX0_countWords_27 hl rfl (nI_1 i) (by decide) rfl (fun ls hl => ?_)
          have hl : lv_has ls 4 [(3, .int (nI (i + 1))), (2, .int (a + 1)), (0, .ref (A 0)), (1, .int key)] := hl
          refine lv_goto (tgt := 4) hx hb dX0_countWords_30 rfl ?_
          refine ih (i + 1) _ ls (by omega) (lv_sub hl [2, 3, 1, 0] rfl) ?_
          rw [← hF]; simp only [f_cnt]; rw [if_pos (by simpa using h2)]
  exact loop 160 0 0 ls rfl hl rfl
set_option maxRecDepth 100000 in
theorem ck0_countWords {p : Program} {l : Launch} {e : Env} {R : Room} {s : State} {m : MethodId} {args : Array Value} {below : List Frame} {meth : Method} {c : Code} {H : Heap} {locs : List Loc} {cells slots : Nat} {Q : State → Prop} {cc : ByteArray} {nL pc : Nat} {ls : Array Slot} {rest : List Value} {dC : Nat → ClassId} {dI : Nat → Nat → Nat} {A : Nat → Nat} {cI : ClassId} {σ : OS} {key : Int32} (hx : p.tables.exec = Jvm.exec) (hb : c.code = cc) (hml : c.maxLocals = nL) (hown : s.vm.findClass RX0 = some m.cls) (hB : ∀ w ∈ bX0, w.before args s = true) (hsz : ls.size = nL) (hP : va_P (dC, dI) vwCl (wO A cI σ) H) (hK : va_K (dC, dI) vwCl [(cI, .int)] s)  (hd : decode cc pc = .ok (.invokevirtual 115, 3)) (hF : 2 ≤ R.frames) (hLo : 53 ≤ R.locals) (hc : cells ≤ R.cells ∧ slots ≤ R.slots) (hst : (rest.map fun v => v.category).sum ≤ 8)
    (kk : W p l e R s m args below meth c H locs cells slots Q (F0 m (pc + 3) ls (.int (f_cnt (fun w => decide (oT σ w = key + 128)) 160 0 0) :: rest))) : W p l e R s m args below meth c H locs cells slots Q (F0 m pc ls (.int key :: .ref (A 0) :: rest)) := by
  refine W.callR (W.runV (C := RX0) (As := [.int key]) (rest := rest) ⟨hx, hb, hml, hown, hB⟩ (cm0_countWords l dC dI A cI σ key) (cwV 1 hB goX0_countWords rfl rfl rfl ⟨rfl, by decide, by decide, by decide +kernel⟩ ⟨hF, hLo⟩) ⟨fun a U g mk q => by obtain ⟨q9, qP, qK⟩ := q; exact ⟨q9, qP, va_K.moved (u := U) (U := U.calling g mk a) (Vm.Alike.refl U.vm) qK⟩, va_recv (q := (RX0, TX0, 12)) hK hP rfl (q0 := 0) rfl, fun U hU hW => ⟨rfl, by rw [hU]; exact hP, va_K.moved hW.alike hK⟩⟩ rfl rfl hsz rfl (lv_room hst) hd hc) kk
set_option maxHeartbeats 4000000 in
set_option maxRecDepth 100000 in
theorem cm0_countKeysWithWords (l : Launch) (dC : Nat → ClassId) (dI : Nat → Nat → Nat) (A : Nat → Nat) (cI : ClassId) (σ : OS) : Met l yX0_countKeysWithWords wsX0_countKeysWithWords (rk 2) (va_Pc [.ref (A 0)] (fun U => va_P (dC, dI) vwCl (wO A cI σ) U.heap ∧ va_K (dC, dI) vwCl [(cI, .int)] U)) (QcRead (f_cnt (fun k => decide (¬ f_pres (oT σ) (nI k) 160 = -1)) 64 0 0)) 0 0 (fun _ => False) := by
  refine Met.ofW (cc := cX0_countKeysWithWords) (maxL := 3) (ret := (some .int)) (by decide) rfl ?_
  intro p e s m args below meth c s₁ B hml hv
  obtain ⟨rfl, hP, hK⟩ := hv
  have hx := B.exec
  have hb := B.bytes
  have hr := B.returns
  have hB : ∀ w ∈ bX0, w.before _ s = true := fun w h => atoms_spec (ws := wsX0_countKeysWithWords) B.pre w (List.mem_cons_of_mem _ h)
  have hown : s.vm.findClass RX0 = some m.cls := findClass_of_methodNamed B.named
  have hlocks := B.notSynchronized
  have hl := lv_entry ([.ref (A 0)]) (n := 3) (Nat.le_of_ble_eq_true rfl)
  rw [lg_entry_eq]
  generalize (lg_sl ([.ref (A 0)]) ++ List.replicate (3 - (lg_sl ([.ref (A 0)])).length) Slot.unset).toArray = ls at hl ⊢
  have hl : lv_has ls 3 [(0, .ref (A 0))] := hl
  refine lv_iconst (v := 0) hx hb dX0_countKeysWithWords_0 (by decide) ?_
  refine lv_istore_n hx hb dX0_countKeysWithWords_1 rfl hl (by decide) rfl (fun ls hl => ?_)
  have hl : lv_has ls 3 [(1, .int 0), (0, .ref (A 0))] := hl
  refine lv_iconst (v := 0) hx hb dX0_countKeysWithWords_2 (by decide) ?_
  refine lv_istore_n hx hb dX0_countKeysWithWords_3 rfl hl (by decide) rfl (fun ls hl => ?_)
  have hl : lv_has ls 3 [(2, .int 0), (1, .int 0), (0, .ref (A 0))] := hl
  have hl := lv_sub (l' := [(0, .ref (A 0)), (1, .int 0), (2, .int 0)]) hl [2, 1, 0] rfl
  have loop : ∀ (n i : Nat) (a : Int32) (ls : Array Slot), i + n = 64 → lv_has ls 3 [(0, .ref (A 0)), (1, .int a), (2, .int (nI i))] → f_cnt (fun k => decide (¬ f_pres (oT σ) (nI k) 160 = -1)) n i a = f_cnt (fun k => decide (¬ f_pres (oT σ) (nI k) 160 = -1)) 64 0 0 → W p l e (headSpec wsX0_countKeysWithWords (rk 2)).room s m ([.ref (A 0)]).toArray below meth c s.heap [] 0 0 (MQ below (QcRead (f_cnt (fun k => decide (¬ f_pres (oT σ) (nI k) 160 = -1)) 64 0 0)) ([.ref (A 0)]).toArray s 0 0 (fun _ => False)) (F0 m 4 ls []) := by
    intro n
    induction n with
    | zero =>
      intro i a ls hi hl hF
      have hi8 : i = 64 := by omega
      subst hi8
      refine lv_iload_n hx hb dX0_countKeysWithWords_4 rfl (lv_at hl 2 rfl) ?_
      refine lv_bipush (v := 64) hx hb dX0_countKeysWithWords_5 (by decide) ?_
      refine lv_icmp_ge (tgt := 28) hx hb dX0_countKeysWithWords_7 rfl (fun h1 => ?_) (fun h1 => ?_)
      · skip
        refine lv_iload_n hx hb dX0_countKeysWithWords_28 rfl (lv_at hl 1 rfl) ?_
        exact W.iret (v := a) hx hb hr (fun t ht _ => ⟨congrArg (fun z => Outcome.returned (some (Value.int z))) (hF), ht⟩) (fun q h => by cases h) dX0_countKeysWithWords_29
      · skip
        exact absurd (by decide) h1
    | succ n ih =>
      intro i a ls hi hl hF
      refine lv_iload_n hx hb dX0_countKeysWithWords_4 rfl (lv_at hl 2 rfl) ?_
      refine lv_bipush (v := 64) hx hb dX0_countKeysWithWords_5 (by decide) ?_
      refine lv_icmp_ge (tgt := 28) hx hb dX0_countKeysWithWords_7 rfl (fun h1 => ?_) (fun h1 => ?_)
      · skip
        exact absurd h1 (nI_ge (b := 64) (by omega) (by decide))
      · skip
        refine lv_aload_n hx hb dX0_countKeysWithWords_10 rfl (lv_at hl 0 rfl) ?_
        refine lv_iload_n hx hb dX0_countKeysWithWords_11 rfl (lv_at hl 2 rfl) ?_
        refine ck0_presentWord hx hb hml hown hB hl.1 hP hK dX0_countKeysWithWords_12 (Nat.le_of_ble_eq_true rfl) (Nat.le_of_ble_eq_true rfl) ⟨Nat.zero_le _, Nat.zero_le _⟩ (Nat.le_of_ble_eq_true rfl) ?_
        refine lv_iconst (v := (-1)) hx hb dX0_countKeysWithWords_15 (by decide) ?_
        refine lv_icmp_eq (tgt := 22) hx hb dX0_countKeysWithWords_16 rfl (fun h2 => ?_) (fun h2 => ?_)
        · skip
          refine lv_iinc (k := 2) (v := (nI (i + 1))) hx hb dX0_countKeysWithWords_22 hl rfl (nI_1 i) (by decide) rfl (fun ls hl => ?_)
          have hl : lv_has ls 3 [(2, .int (nI (i + 1))), (0, .ref (A 0)), (1, .int a)] := hl
          refine lv_goto (tgt := 4) hx hb dX0_countKeysWithWords_25 rfl ?_
          refine ih (i + 1) _ ls (by omega) (lv_sub hl [1, 2, 0] rfl) ?_
          rw [← hF]; simp only [f_cnt]; rw [if_neg (by simpa using h2)]
        · skip
          refine lv_iinc (k := 1) (v := (a + 1)) hx hb dX0_countKeysWithWords_19 hl rfl (rfl) (by decide) rfl (fun ls hl => ?_)
          have hl : lv_has ls 3 [(1, .int (a + 1)), (0, .ref (A 0)), (2, .int (nI i))] := hl
          refine lv_iinc (k := 2) (v := (nI (i + 1))) hx hb dX0_countKeysWithWords_22 hl rfl (nI_1 i) (by decide) rfl (fun ls hl => ?_)
          have hl : lv_has ls 3 [(2, .int (nI (i + 1))), (1, .int (a + 1)), (0, .ref (A 0))] := hl
          refine lv_goto (tgt := 4) hx hb dX0_countKeysWithWords_25 rfl ?_
          refine ih (i + 1) _ ls (by omega) (lv_sub hl [2, 1, 0] rfl) ?_
          rw [← hF]; simp only [f_cnt]; rw [if_pos (by simpa using h2)]
  exact loop 64 0 0 ls rfl hl rfl
set_option maxRecDepth 100000 in
theorem ck0_countKeysWithWords {p : Program} {l : Launch} {e : Env} {R : Room} {s : State} {m : MethodId} {args : Array Value} {below : List Frame} {meth : Method} {c : Code} {H : Heap} {locs : List Loc} {cells slots : Nat} {Q : State → Prop} {cc : ByteArray} {nL pc : Nat} {ls : Array Slot} {rest : List Value} {dC : Nat → ClassId} {dI : Nat → Nat → Nat} {A : Nat → Nat} {cI : ClassId} {σ : OS} (hx : p.tables.exec = Jvm.exec) (hb : c.code = cc) (hml : c.maxLocals = nL) (hown : s.vm.findClass RX0 = some m.cls) (hB : ∀ w ∈ bX0, w.before args s = true) (hsz : ls.size = nL) (hP : va_P (dC, dI) vwCl (wO A cI σ) H) (hK : va_K (dC, dI) vwCl [(cI, .int)] s)  (hd : decode cc pc = .ok (.invokevirtual 112, 3)) (hF : 3 ≤ R.frames) (hLo : 82 ≤ R.locals) (hc : cells ≤ R.cells ∧ slots ≤ R.slots) (hst : (rest.map fun v => v.category).sum ≤ 8)
    (kk : W p l e R s m args below meth c H locs cells slots Q (F0 m (pc + 3) ls (.int (f_cnt (fun k => decide (¬ f_pres (oT σ) (nI k) 160 = -1)) 64 0 0) :: rest))) : W p l e R s m args below meth c H locs cells slots Q (F0 m pc ls (.ref (A 0) :: rest)) := by
  refine W.callR (W.runV (C := RX0) (As := []) (rest := rest) ⟨hx, hb, hml, hown, hB⟩ (cm0_countKeysWithWords l dC dI A cI σ) (cwV 0 hB goX0_countKeysWithWords rfl rfl rfl ⟨rfl, by decide, by decide, by decide +kernel⟩ ⟨hF, hLo⟩) ⟨fun a U g mk q => by obtain ⟨q9, qP, qK⟩ := q; exact ⟨q9, qP, va_K.moved (u := U) (U := U.calling g mk a) (Vm.Alike.refl U.vm) qK⟩, va_recv (q := (RX0, TX0, 12)) hK hP rfl (q0 := 0) rfl, fun U hU hW => ⟨rfl, by rw [hU]; exact hP, va_K.moved hW.alike hK⟩⟩ rfl rfl hsz rfl (lv_room hst) hd hc) kk
set_option maxHeartbeats 4000000 in
set_option maxRecDepth 100000 in
theorem cm0_isFresh (l : Launch) (dC : Nat → ClassId) (dI : Nat → Nat → Nat) (A : Nat → Nat) (cI : ClassId) (σ : OS) (w : Nat) (hw : w < 160) : Met l yX0_isFresh wsX0_isFresh (rk 0) (va_Pc [.ref (A 0), .int (nI w)] (fun U => va_P (dC, dI) vwCl (wO A cI σ) U.heap ∧ va_K (dC, dI) vwCl [(cI, .int)] U)) (QcRead (bI (f_fresh (oW σ) (oT σ) w))) 0 0 (fun _ => False) := by
  refine Met.ofW (cc := cX0_isFresh) (maxL := 2) (ret := (some .boolean)) (by decide) rfl ?_
  intro p e s m args below meth c s₁ B hml hv
  obtain ⟨rfl, hP, hK⟩ := hv
  have hx := B.exec
  have hb := B.bytes
  have hr := B.returns
  have hB : ∀ w ∈ bX0, w.before _ s = true := fun w h => atoms_spec (ws := wsX0_isFresh) B.pre w (List.mem_cons_of_mem _ h)
  have hown : s.vm.findClass RX0 = some m.cls := findClass_of_methodNamed B.named
  have hlocks := B.notSynchronized
  have hl := lv_entry ([.ref (A 0), .int (nI w)]) (n := 2) (Nat.le_of_ble_eq_true rfl)
  rw [lg_entry_eq]
  generalize (lg_sl ([.ref (A 0), .int (nI w)]) ++ List.replicate (2 - (lg_sl ([.ref (A 0), .int (nI w)])).length) Slot.unset).toArray = ls at hl ⊢
  have hl : lv_has ls 2 [(0, .ref (A 0)), (1, .int (nI w))] := hl
  refine lv_aload_n hx hb dX0_isFresh_0 rfl (lv_at hl 0 rfl) ?_
  refine va_get (D := (dC, dI)) (ci := 0) (v := .ref (A 1)) (C := RX0) (T := TX0) (N := 12) hx hb hB inX0 hown hK hP 0 rfl rfl 0 (by decide) (hB _ mX0_f_wordRow) (fun _ h9 => h9) rfl dX0_isFresh_1 ?_
  refine lv_iload_n hx hb dX0_isFresh_4 rfl (lv_at hl 1 rfl) ?_
  refine va_iald (D := (dC, dI)) (i := (nI w)) hx hb hK hP 1 0 rfl rfl (vp_in_nI hw (by decide)) dX0_isFresh_5 ?_
  rw [show ((nI w)).toNatClampNeg = w from nI_clamp (by omega)]
  refine lv_if_ne (tgt := 22) hx hb dX0_isFresh_6 rfl (fun h1 => ?_) (fun h1 => ?_)
  · skip
    refine lv_iconst (v := 0) hx hb dX0_isFresh_22 (by decide) ?_
    exact W.zret (v := 0) hx hb hr (rfl) (fun t ht _ => ⟨congrArg (fun z => Outcome.returned (some (Value.int z))) (by simp [f_fresh, bI, h1]), ht⟩) (fun q h => by cases h) dX0_isFresh_23
  · skip
    refine lv_aload_n hx hb dX0_isFresh_9 rfl (lv_at hl 0 rfl) ?_
    refine va_get (D := (dC, dI)) (ci := 0) (v := .ref (A 2)) (C := RX0) (T := TX0) (N := 12) hx hb hB inX0 hown hK hP 0 rfl rfl 1 (by decide) (hB _ mX0_f_tagRow) (fun _ h9 => h9) rfl dX0_isFresh_10 ?_
    refine lv_iload_n hx hb dX0_isFresh_13 rfl (lv_at hl 1 rfl) ?_
    refine va_iald (D := (dC, dI)) (i := (nI w)) hx hb hK hP 2 0 rfl rfl (vp_in_nI hw (by decide)) dX0_isFresh_14 ?_
    rw [show ((nI w)).toNatClampNeg = w from nI_clamp (by omega)]
    refine lv_if_ne (tgt := 22) hx hb dX0_isFresh_15 rfl (fun h2 => ?_) (fun h2 => ?_)
    · skip
      refine lv_iconst (v := 0) hx hb dX0_isFresh_22 (by decide) ?_
      exact W.zret (v := 0) hx hb hr (rfl) (fun t ht _ => ⟨congrArg (fun z => Outcome.returned (some (Value.int z))) (by simp [f_fresh, bI, h2]), ht⟩) (fun q h => by cases h) dX0_isFresh_23
    · skip
      refine lv_iconst (v := 1) hx hb dX0_isFresh_18 (by decide) ?_
      refine lv_goto (tgt := 23) hx hb dX0_isFresh_19 rfl ?_
      exact W.zret (v := 1) hx hb hr (rfl) (fun t ht _ => ⟨congrArg (fun z => Outcome.returned (some (Value.int z))) (by simp [f_fresh, bI, h1, h2]), ht⟩) (fun q h => by cases h) dX0_isFresh_23
set_option maxRecDepth 100000 in
theorem ck0_isFresh {p : Program} {l : Launch} {e : Env} {R : Room} {s : State} {m : MethodId} {args : Array Value} {below : List Frame} {meth : Method} {c : Code} {H : Heap} {locs : List Loc} {cells slots : Nat} {Q : State → Prop} {cc : ByteArray} {nL pc : Nat} {ls : Array Slot} {rest : List Value} {dC : Nat → ClassId} {dI : Nat → Nat → Nat} {A : Nat → Nat} {cI : ClassId} {σ : OS} {w : Nat} (hx : p.tables.exec = Jvm.exec) (hb : c.code = cc) (hml : c.maxLocals = nL) (hown : s.vm.findClass RX0 = some m.cls) (hB : ∀ w ∈ bX0, w.before args s = true) (hsz : ls.size = nL) (hP : va_P (dC, dI) vwCl (wO A cI σ) H) (hK : va_K (dC, dI) vwCl [(cI, .int)] s) (hw : w < 160) (hd : decode cc pc = .ok (.invokevirtual 140, 3)) (hF : 1 ≤ R.frames) (hLo : 21 ≤ R.locals) (hc : cells ≤ R.cells ∧ slots ≤ R.slots) (hst : (rest.map fun v => v.category).sum ≤ 8)
    (kk : W p l e R s m args below meth c H locs cells slots Q (F0 m (pc + 3) ls (.int (bI (f_fresh (oW σ) (oT σ) w)) :: rest))) : W p l e R s m args below meth c H locs cells slots Q (F0 m pc ls (.int (nI w) :: .ref (A 0) :: rest)) := by
  refine W.callR (W.runV (C := RX0) (As := [.int (nI w)]) (rest := rest) ⟨hx, hb, hml, hown, hB⟩ (cm0_isFresh l dC dI A cI σ w hw) (cwV 1 hB goX0_isFresh rfl rfl rfl ⟨rfl, by decide, by decide, by decide +kernel⟩ ⟨hF, hLo⟩) ⟨fun a U g mk q => by obtain ⟨q9, qP, qK⟩ := q; exact ⟨q9, qP, va_K.moved (u := U) (U := U.calling g mk a) (Vm.Alike.refl U.vm) qK⟩, va_recv (q := (RX0, TX0, 12)) hK hP rfl (q0 := 0) rfl, fun U hU hW => ⟨rfl, by rw [hU]; exact hP, va_K.moved hW.alike hK⟩⟩ rfl rfl hsz rfl (lv_room hst) hd hc) kk
set_option maxHeartbeats 4000000 in
set_option maxRecDepth 100000 in
theorem cm0_lowestFreshWord (l : Launch) (dC : Nat → ClassId) (dI : Nat → Nat → Nat) (A : Nat → Nat) (cI : ClassId) (σ : OS) (fr : Nat) (hfr : fr ≤ 160) : Met l yX0_lowestFreshWord wsX0_lowestFreshWord (rk 1) (va_Pc [.ref (A 0), .int (nI fr)] (fun U => va_P (dC, dI) vwCl (wO A cI σ) U.heap ∧ va_K (dC, dI) vwCl [(cI, .int)] U)) (QcRead (f_first (f_fresh (oW σ) (oT σ)) (160 - fr) fr)) 0 0 (fun _ => False) := by
  refine Met.ofW (cc := cX0_lowestFreshWord) (maxL := 3) (ret := (some .int)) (by decide) rfl ?_
  intro p e s m args below meth c s₁ B hml hv
  obtain ⟨rfl, hP, hK⟩ := hv
  have hx := B.exec
  have hb := B.bytes
  have hr := B.returns
  have hB : ∀ w ∈ bX0, w.before _ s = true := fun w h => atoms_spec (ws := wsX0_lowestFreshWord) B.pre w (List.mem_cons_of_mem _ h)
  have hown : s.vm.findClass RX0 = some m.cls := findClass_of_methodNamed B.named
  have hlocks := B.notSynchronized
  have hl := lv_entry ([.ref (A 0), .int (nI fr)]) (n := 3) (Nat.le_of_ble_eq_true rfl)
  rw [lg_entry_eq]
  generalize (lg_sl ([.ref (A 0), .int (nI fr)]) ++ List.replicate (3 - (lg_sl ([.ref (A 0), .int (nI fr)])).length) Slot.unset).toArray = ls at hl ⊢
  have hl : lv_has ls 3 [(0, .ref (A 0)), (1, .int (nI fr))] := hl
  refine lv_iload_n hx hb dX0_lowestFreshWord_0 rfl (lv_at hl 1 rfl) ?_
  refine lv_istore_n hx hb dX0_lowestFreshWord_1 rfl hl (by decide) rfl (fun ls hl => ?_)
  have hl : lv_has ls 3 [(2, .int (nI fr)), (0, .ref (A 0)), (1, .int (nI fr))] := hl
  have hl := lv_sub (l' := [(0, .ref (A 0)), (2, .int (nI fr))]) hl [1, 0] rfl
  have loop : ∀ (n i : Nat) (ls : Array Slot), i + n = 160 → lv_has ls 3 [(0, .ref (A 0)), (2, .int (nI i))] → f_first (f_fresh (oW σ) (oT σ)) n i = f_first (f_fresh (oW σ) (oT σ)) (160 - fr) fr → W p l e (headSpec wsX0_lowestFreshWord (rk 1)).room s m ([.ref (A 0), .int (nI fr)]).toArray below meth c s.heap [] 0 0 (MQ below (QcRead (f_first (f_fresh (oW σ) (oT σ)) (160 - fr) fr)) ([.ref (A 0), .int (nI fr)]).toArray s 0 0 (fun _ => False)) (F0 m 2 ls []) := by
    intro n
    induction n with
    | zero =>
      intro i  ls hi hl hF
      have hi8 : i = 160 := by omega
      subst hi8
      refine lv_iload_n hx hb dX0_lowestFreshWord_2 rfl (lv_at hl 1 rfl) ?_
      refine lv_sipush (v := 160) hx hb dX0_lowestFreshWord_3 (by decide) ?_
      refine lv_icmp_ge (tgt := 25) hx hb dX0_lowestFreshWord_6 rfl (fun h1 => ?_) (fun h1 => ?_)
      · skip
        refine lv_iconst (v := (-1)) hx hb dX0_lowestFreshWord_25 (by decide) ?_
        exact W.iret (v := (-1)) hx hb hr (fun t ht _ => ⟨congrArg (fun z => Outcome.returned (some (Value.int z))) (hF), ht⟩) (fun q h => by cases h) dX0_lowestFreshWord_26
      · skip
        exact absurd (by decide) h1
    | succ n ih =>
      intro i  ls hi hl hF
      refine lv_iload_n hx hb dX0_lowestFreshWord_2 rfl (lv_at hl 1 rfl) ?_
      refine lv_sipush (v := 160) hx hb dX0_lowestFreshWord_3 (by decide) ?_
      refine lv_icmp_ge (tgt := 25) hx hb dX0_lowestFreshWord_6 rfl (fun h1 => ?_) (fun h1 => ?_)
      · skip
        exact absurd h1 (nI_ge (b := 160) (by omega) (by decide))
      · skip
        refine lv_aload_n hx hb dX0_lowestFreshWord_9 rfl (lv_at hl 0 rfl) ?_
        refine lv_iload_n hx hb dX0_lowestFreshWord_10 rfl (lv_at hl 1 rfl) ?_
        refine ck0_isFresh hx hb hml hown hB hl.1 hP hK (by omega) dX0_lowestFreshWord_11 (Nat.le_of_ble_eq_true rfl) (Nat.le_of_ble_eq_true rfl) ⟨Nat.zero_le _, Nat.zero_le _⟩ (Nat.le_of_ble_eq_true rfl) ?_
        refine lv_if_eq (tgt := 19) hx hb dX0_lowestFreshWord_14 rfl (fun h2 => ?_) (fun h2 => ?_)
        · skip
          refine lv_iinc (k := 1) (v := (nI (i + 1))) hx hb dX0_lowestFreshWord_19 hl rfl (nI_1 i) (by decide) rfl (fun ls hl => ?_)
          have hl : lv_has ls 3 [(2, .int (nI (i + 1))), (0, .ref (A 0))] := hl
          refine lv_goto (tgt := 2) hx hb dX0_lowestFreshWord_22 rfl ?_
          refine ih (i + 1) ls (by omega) (lv_sub hl [1, 0] rfl) ?_
          rw [← hF]; exact (if_neg (by rw [bI_0.mp h2]; decide)).symm
        · skip
          refine lv_iload_n hx hb dX0_lowestFreshWord_17 rfl (lv_at hl 1 rfl) ?_
          exact W.iret (v := (nI i)) hx hb hr (fun t ht _ => ⟨congrArg (fun z => Outcome.returned (some (Value.int z))) (by rw [← hF]; exact (if_pos (bI_n0.mp h2)).symm), ht⟩) (fun q h => by cases h) dX0_lowestFreshWord_18
  exact loop (160 - fr) fr ls (by omega) hl rfl
set_option maxRecDepth 100000 in
theorem ck0_lowestFreshWord {p : Program} {l : Launch} {e : Env} {R : Room} {s : State} {m : MethodId} {args : Array Value} {below : List Frame} {meth : Method} {c : Code} {H : Heap} {locs : List Loc} {cells slots : Nat} {Q : State → Prop} {cc : ByteArray} {nL pc : Nat} {ls : Array Slot} {rest : List Value} {dC : Nat → ClassId} {dI : Nat → Nat → Nat} {A : Nat → Nat} {cI : ClassId} {σ : OS} {fr : Nat} (hx : p.tables.exec = Jvm.exec) (hb : c.code = cc) (hml : c.maxLocals = nL) (hown : s.vm.findClass RX0 = some m.cls) (hB : ∀ w ∈ bX0, w.before args s = true) (hsz : ls.size = nL) (hP : va_P (dC, dI) vwCl (wO A cI σ) H) (hK : va_K (dC, dI) vwCl [(cI, .int)] s) (hfr : fr ≤ 160) (hd : decode cc pc = .ok (.invokevirtual 146, 3)) (hF : 2 ≤ R.frames) (hLo : 52 ≤ R.locals) (hc : cells ≤ R.cells ∧ slots ≤ R.slots) (hst : (rest.map fun v => v.category).sum ≤ 8)
    (kk : W p l e R s m args below meth c H locs cells slots Q (F0 m (pc + 3) ls (.int (f_first (f_fresh (oW σ) (oT σ)) (160 - fr) fr) :: rest))) : W p l e R s m args below meth c H locs cells slots Q (F0 m pc ls (.int (nI fr) :: .ref (A 0) :: rest)) := by
  refine W.callR (W.runV (C := RX0) (As := [.int (nI fr)]) (rest := rest) ⟨hx, hb, hml, hown, hB⟩ (cm0_lowestFreshWord l dC dI A cI σ fr hfr) (cwV 1 hB goX0_lowestFreshWord rfl rfl rfl ⟨rfl, by decide, by decide, by decide +kernel⟩ ⟨hF, hLo⟩) ⟨fun a U g mk q => by obtain ⟨q9, qP, qK⟩ := q; exact ⟨q9, qP, va_K.moved (u := U) (U := U.calling g mk a) (Vm.Alike.refl U.vm) qK⟩, va_recv (q := (RX0, TX0, 12)) hK hP rfl (q0 := 0) rfl, fun U hU hW => ⟨rfl, by rw [hU]; exact hP, va_K.moved hW.alike hK⟩⟩ rfl rfl hsz rfl (lv_room hst) hd hc) kk
set_option maxHeartbeats 4000000 in
set_option maxRecDepth 100000 in
theorem cm0_countFreshWords (l : Launch) (dC : Nat → ClassId) (dI : Nat → Nat → Nat) (A : Nat → Nat) (cI : ClassId) (σ : OS) : Met l yX0_countFreshWords wsX0_countFreshWords (rk 1) (va_Pc [.ref (A 0)] (fun U => va_P (dC, dI) vwCl (wO A cI σ) U.heap ∧ va_K (dC, dI) vwCl [(cI, .int)] U)) (QcRead (f_cnt (f_fresh (oW σ) (oT σ)) 160 0 0)) 0 0 (fun _ => False) := by
  refine Met.ofW (cc := cX0_countFreshWords) (maxL := 3) (ret := (some .int)) (by decide) rfl ?_
  intro p e s m args below meth c s₁ B hml hv
  obtain ⟨rfl, hP, hK⟩ := hv
  have hx := B.exec
  have hb := B.bytes
  have hr := B.returns
  have hB : ∀ w ∈ bX0, w.before _ s = true := fun w h => atoms_spec (ws := wsX0_countFreshWords) B.pre w (List.mem_cons_of_mem _ h)
  have hown : s.vm.findClass RX0 = some m.cls := findClass_of_methodNamed B.named
  have hlocks := B.notSynchronized
  have hl := lv_entry ([.ref (A 0)]) (n := 3) (Nat.le_of_ble_eq_true rfl)
  rw [lg_entry_eq]
  generalize (lg_sl ([.ref (A 0)]) ++ List.replicate (3 - (lg_sl ([.ref (A 0)])).length) Slot.unset).toArray = ls at hl ⊢
  have hl : lv_has ls 3 [(0, .ref (A 0))] := hl
  refine lv_iconst (v := 0) hx hb dX0_countFreshWords_0 (by decide) ?_
  refine lv_istore_n hx hb dX0_countFreshWords_1 rfl hl (by decide) rfl (fun ls hl => ?_)
  have hl : lv_has ls 3 [(1, .int 0), (0, .ref (A 0))] := hl
  refine lv_iconst (v := 0) hx hb dX0_countFreshWords_2 (by decide) ?_
  refine lv_istore_n hx hb dX0_countFreshWords_3 rfl hl (by decide) rfl (fun ls hl => ?_)
  have hl : lv_has ls 3 [(2, .int 0), (1, .int 0), (0, .ref (A 0))] := hl
  have hl := lv_sub (l' := [(0, .ref (A 0)), (1, .int 0), (2, .int 0)]) hl [2, 1, 0] rfl
  have loop : ∀ (n i : Nat) (a : Int32) (ls : Array Slot), i + n = 160 → lv_has ls 3 [(0, .ref (A 0)), (1, .int a), (2, .int (nI i))] → f_cnt (f_fresh (oW σ) (oT σ)) n i a = f_cnt (f_fresh (oW σ) (oT σ)) 160 0 0 → W p l e (headSpec wsX0_countFreshWords (rk 1)).room s m ([.ref (A 0)]).toArray below meth c s.heap [] 0 0 (MQ below (QcRead (f_cnt (f_fresh (oW σ) (oT σ)) 160 0 0)) ([.ref (A 0)]).toArray s 0 0 (fun _ => False)) (F0 m 4 ls []) := by
    intro n
    induction n with
    | zero =>
      intro i a ls hi hl hF
      have hi8 : i = 160 := by omega
      subst hi8
      refine lv_iload_n hx hb dX0_countFreshWords_4 rfl (lv_at hl 2 rfl) ?_
      refine lv_sipush (v := 160) hx hb dX0_countFreshWords_5 (by decide) ?_
      refine lv_icmp_ge (tgt := 28) hx hb dX0_countFreshWords_8 rfl (fun h1 => ?_) (fun h1 => ?_)
      · skip
        refine lv_iload_n hx hb dX0_countFreshWords_28 rfl (lv_at hl 1 rfl) ?_
        exact W.iret (v := a) hx hb hr (fun t ht _ => ⟨congrArg (fun z => Outcome.returned (some (Value.int z))) (hF), ht⟩) (fun q h => by cases h) dX0_countFreshWords_29
      · skip
        exact absurd (by decide) h1
    | succ n ih =>
      intro i a ls hi hl hF
      refine lv_iload_n hx hb dX0_countFreshWords_4 rfl (lv_at hl 2 rfl) ?_
      refine lv_sipush (v := 160) hx hb dX0_countFreshWords_5 (by decide) ?_
      refine lv_icmp_ge (tgt := 28) hx hb dX0_countFreshWords_8 rfl (fun h1 => ?_) (fun h1 => ?_)
      · skip
        exact absurd h1 (nI_ge (b := 160) (by omega) (by decide))
      · skip
        refine lv_aload_n hx hb dX0_countFreshWords_11 rfl (lv_at hl 0 rfl) ?_
        refine lv_iload_n hx hb dX0_countFreshWords_12 rfl (lv_at hl 2 rfl) ?_
        refine ck0_isFresh hx hb hml hown hB hl.1 hP hK (by omega) dX0_countFreshWords_13 (Nat.le_of_ble_eq_true rfl) (Nat.le_of_ble_eq_true rfl) ⟨Nat.zero_le _, Nat.zero_le _⟩ (Nat.le_of_ble_eq_true rfl) ?_
        refine lv_if_eq (tgt := 22) hx hb dX0_countFreshWords_16 rfl (fun h2 => ?_) (fun h2 => ?_)
        · skip
          refine lv_iinc (k := 2) (v := (nI (i + 1))) hx hb dX0_countFreshWords_22 hl rfl (nI_1 i) (by decide) rfl (fun ls hl => ?_)
          have hl : lv_has ls 3 [(2, .int (nI (i + 1))), (0, .ref (A 0)), (1, .int a)] := hl
          refine lv_goto (tgt := 4) hx hb dX0_countFreshWords_25 rfl ?_
          refine ih (i + 1) _ ls (by omega) (lv_sub hl [1, 2, 0] rfl) ?_
          rw [← hF]; simp only [f_cnt]; rw [if_neg (by rw [bI_0.mp h2]; decide)]
        · skip
          refine lv_iinc (k := 1) (v := (a + 1)) hx hb dX0_countFreshWords_19 hl rfl (rfl) (by decide) rfl (fun ls hl => ?_)
          have hl : lv_has ls 3 [(1, .int (a + 1)), (0, .ref (A 0)), (2, .int (nI i))] := hl
          refine lv_iinc (k := 2) (v := (nI (i + 1))) hx hb dX0_countFreshWords_22 hl rfl (nI_1 i) (by decide) rfl (fun ls hl => ?_)
          have hl : lv_has ls 3 [(2, .int (nI (i + 1))), (1, .int (a + 1)), (0, .ref (A 0))] := hl
          refine lv_goto (tgt := 4) hx hb dX0_countFreshWords_25 rfl ?_
          refine ih (i + 1) _ ls (by omega) (lv_sub hl [2, 1, 0] rfl) ?_
          rw [← hF]; simp only [f_cnt]; rw [if_pos (bI_n0.mp h2)]
  exact loop 160 0 0 ls rfl hl rfl
set_option maxRecDepth 100000 in
theorem ck0_countFreshWords {p : Program} {l : Launch} {e : Env} {R : Room} {s : State} {m : MethodId} {args : Array Value} {below : List Frame} {meth : Method} {c : Code} {H : Heap} {locs : List Loc} {cells slots : Nat} {Q : State → Prop} {cc : ByteArray} {nL pc : Nat} {ls : Array Slot} {rest : List Value} {dC : Nat → ClassId} {dI : Nat → Nat → Nat} {A : Nat → Nat} {cI : ClassId} {σ : OS} (hx : p.tables.exec = Jvm.exec) (hb : c.code = cc) (hml : c.maxLocals = nL) (hown : s.vm.findClass RX0 = some m.cls) (hB : ∀ w ∈ bX0, w.before args s = true) (hsz : ls.size = nL) (hP : va_P (dC, dI) vwCl (wO A cI σ) H) (hK : va_K (dC, dI) vwCl [(cI, .int)] s)  (hd : decode cc pc = .ok (.invokevirtual 100, 3)) (hF : 2 ≤ R.frames) (hLo : 52 ≤ R.locals) (hc : cells ≤ R.cells ∧ slots ≤ R.slots) (hst : (rest.map fun v => v.category).sum ≤ 8)
    (kk : W p l e R s m args below meth c H locs cells slots Q (F0 m (pc + 3) ls (.int (f_cnt (f_fresh (oW σ) (oT σ)) 160 0 0) :: rest))) : W p l e R s m args below meth c H locs cells slots Q (F0 m pc ls (.ref (A 0) :: rest)) := by
  refine W.callR (W.runV (C := RX0) (As := []) (rest := rest) ⟨hx, hb, hml, hown, hB⟩ (cm0_countFreshWords l dC dI A cI σ) (cwV 0 hB goX0_countFreshWords rfl rfl rfl ⟨rfl, by decide, by decide, by decide +kernel⟩ ⟨hF, hLo⟩) ⟨fun a U g mk q => by obtain ⟨q9, qP, qK⟩ := q; exact ⟨q9, qP, va_K.moved (u := U) (U := U.calling g mk a) (Vm.Alike.refl U.vm) qK⟩, va_recv (q := (RX0, TX0, 12)) hK hP rfl (q0 := 0) rfl, fun U hU hW => ⟨rfl, by rw [hU]; exact hP, va_K.moved hW.alike hK⟩⟩ rfl rfl hsz rfl (lv_room hst) hd hc) kk
set_option maxHeartbeats 4000000 in
set_option maxRecDepth 100000 in
theorem cm0_isEmptyNote (l : Launch) (dC : Nat → ClassId) (dI : Nat → Nat → Nat) (A : Nat → Nat) (cI : ClassId) (σ : OS) (b : Nat) (hb40 : b < 40) : Met l yX0_isEmptyNote wsX0_isEmptyNote (rk 0) (va_Pc [.ref (A 0), .int (nI b)] (fun U => va_P (dC, dI) vwCl (wO A cI σ) U.heap ∧ va_K (dC, dI) vwCl [(cI, .int)] U)) (QcRead (bI (f_empty (oL σ) b))) 0 0 (fun _ => False) := by
  refine Met.ofW (cc := cX0_isEmptyNote) (maxL := 3) (ret := (some .boolean)) (by decide) rfl ?_
  intro p e s m args below meth c s₁ B hml hv
  obtain ⟨rfl, hP, hK⟩ := hv
  have hx := B.exec
  have hb := B.bytes
  have hr := B.returns
  have hB : ∀ w ∈ bX0, w.before _ s = true := fun w h => atoms_spec (ws := wsX0_isEmptyNote) B.pre w (List.mem_cons_of_mem _ h)
  have hown : s.vm.findClass RX0 = some m.cls := findClass_of_methodNamed B.named
  have hlocks := B.notSynchronized
  have hl := lv_entry ([.ref (A 0), .int (nI b)]) (n := 3) (Nat.le_of_ble_eq_true rfl)
  rw [lg_entry_eq]
  generalize (lg_sl ([.ref (A 0), .int (nI b)]) ++ List.replicate (3 - (lg_sl ([.ref (A 0), .int (nI b)])).length) Slot.unset).toArray = ls at hl ⊢
  have hl : lv_has ls 3 [(0, .ref (A 0)), (1, .int (nI b))] := hl
  refine lv_iconst (v := 0) hx hb dX0_isEmptyNote_0 (by decide) ?_
  refine lv_istore_n hx hb dX0_isEmptyNote_1 rfl hl (by decide) rfl (fun ls hl => ?_)
  have hl : lv_has ls 3 [(2, .int 0), (0, .ref (A 0)), (1, .int (nI b))] := hl
  have hl := lv_sub (l' := [(0, .ref (A 0)), (1, .int (nI b)), (2, .int 0)]) hl [1, 2, 0] rfl
  have loop : ∀ (n i : Nat) (ls : Array Slot), i + n = 9 → lv_has ls 3 [(0, .ref (A 0)), (1, .int (nI b)), (2, .int (nI i))] → f_emptyL (oL σ) b n i = f_empty (oL σ) b → W p l e (headSpec wsX0_isEmptyNote (rk 0)).room s m ([.ref (A 0), .int (nI b)]).toArray below meth c s.heap [] 0 0 (MQ below (QcRead (bI (f_empty (oL σ) b))) ([.ref (A 0), .int (nI b)]).toArray s 0 0 (fun _ => False)) (F0 m 2 ls []) := by
    intro n
    induction n with
    | zero =>
      intro i  ls hi hl hF
      have hi8 : i = 9 := by omega
      subst hi8
      refine lv_iload_n hx hb dX0_isEmptyNote_2 rfl (lv_at hl 2 rfl) ?_
      refine lv_bipush (v := 9) hx hb dX0_isEmptyNote_3 (by decide) ?_
      refine lv_icmp_ge (tgt := 30) hx hb dX0_isEmptyNote_5 rfl (fun h1 => ?_) (fun h1 => ?_)
      · skip
        refine lv_iconst (v := 1) hx hb dX0_isEmptyNote_30 (by decide) ?_
        exact W.zret (v := 1) hx hb hr (rfl) (fun t ht _ => ⟨congrArg (fun z => Outcome.returned (some (Value.int z))) (congrArg bI hF), ht⟩) (fun q h => by cases h) dX0_isEmptyNote_31
      · skip
        exact absurd (by decide) h1
    | succ n ih =>
      intro i  ls hi hl hF
      refine lv_iload_n hx hb dX0_isEmptyNote_2 rfl (lv_at hl 2 rfl) ?_
      refine lv_bipush (v := 9) hx hb dX0_isEmptyNote_3 (by decide) ?_
      refine lv_icmp_ge (tgt := 30) hx hb dX0_isEmptyNote_5 rfl (fun h1 => ?_) (fun h1 => ?_)
      · skip
        exact absurd h1 (nI_ge (b := 9) (by omega) (by decide))
      · skip
        refine lv_aload_n hx hb dX0_isEmptyNote_8 rfl (lv_at hl 0 rfl) ?_
        refine va_get (D := (dC, dI)) (ci := 0) (v := .ref (A 3)) (C := RX0) (T := TX0) (N := 12) hx hb hB inX0 hown hK hP 0 rfl rfl 2 (by decide) (hB _ mX0_f_lineRow) (fun _ h9 => h9) rfl dX0_isEmptyNote_9 ?_
        refine lv_iload_n hx hb dX0_isEmptyNote_12 rfl (lv_at hl 1 rfl) ?_
        refine lv_bipush (v := 9) hx hb dX0_isEmptyNote_13 (by decide) ?_
        refine lv_imul hx hb dX0_isEmptyNote_15 ?_
        refine lv_iload_n hx hb dX0_isEmptyNote_16 rfl (lv_at hl 2 rfl) ?_
        refine lv_iadd hx hb dX0_isEmptyNote_17 ?_
        have hidx : nI b * 9 + nI i = nI (b * 9 + i) := by rw [← nI_add, ← pk_mul]; rfl
        rw [hidx]
        refine va_iald (D := (dC, dI)) (i := (nI (b * 9 + i))) hx hb hK hP 3 0 rfl rfl (vp_in_nI (by omega) (by decide)) dX0_isEmptyNote_18 ?_
        rw [show ((nI (b * 9 + i))).toNatClampNeg = b * 9 + i from nI_clamp (by omega)]
        refine lv_if_eq (tgt := 24) hx hb dX0_isEmptyNote_19 rfl (fun h2 => ?_) (fun h2 => ?_)
        · skip
          refine lv_iinc (k := 2) (v := (nI (i + 1))) hx hb dX0_isEmptyNote_24 hl rfl (nI_1 i) (by decide) rfl (fun ls hl => ?_)
          have hl : lv_has ls 3 [(2, .int (nI (i + 1))), (0, .ref (A 0)), (1, .int (nI b))] := hl
          refine lv_goto (tgt := 2) hx hb dX0_isEmptyNote_27 rfl ?_
          refine ih (i + 1) ls (by omega) (lv_sub hl [1, 2, 0] rfl) ?_
          rw [← hF]; exact (if_pos h2).symm
        · skip
          refine lv_iconst (v := 0) hx hb dX0_isEmptyNote_22 (by decide) ?_
          exact W.zret (v := 0) hx hb hr (rfl) (fun t ht _ => ⟨congrArg (fun z => Outcome.returned (some (Value.int z))) (by rw [← hF]; simp only [f_emptyL]; rw [if_neg h2]; rfl), ht⟩) (fun q h => by cases h) dX0_isEmptyNote_23
  exact loop 9 0  ls rfl hl rfl
set_option maxRecDepth 100000 in
theorem ck0_isEmptyNote {p : Program} {l : Launch} {e : Env} {R : Room} {s : State} {m : MethodId} {args : Array Value} {below : List Frame} {meth : Method} {c : Code} {H : Heap} {locs : List Loc} {cells slots : Nat} {Q : State → Prop} {cc : ByteArray} {nL pc : Nat} {ls : Array Slot} {rest : List Value} {dC : Nat → ClassId} {dI : Nat → Nat → Nat} {A : Nat → Nat} {cI : ClassId} {σ : OS} {b : Nat} (hx : p.tables.exec = Jvm.exec) (hb : c.code = cc) (hml : c.maxLocals = nL) (hown : s.vm.findClass RX0 = some m.cls) (hB : ∀ w ∈ bX0, w.before args s = true) (hsz : ls.size = nL) (hP : va_P (dC, dI) vwCl (wO A cI σ) H) (hK : va_K (dC, dI) vwCl [(cI, .int)] s) (hb40 : b < 40) (hd : decode cc pc = .ok (.invokevirtual 143, 3)) (hF : 1 ≤ R.frames) (hLo : 22 ≤ R.locals) (hc : cells ≤ R.cells ∧ slots ≤ R.slots) (hst : (rest.map fun v => v.category).sum ≤ 8)
    (kk : W p l e R s m args below meth c H locs cells slots Q (F0 m (pc + 3) ls (.int (bI (f_empty (oL σ) b)) :: rest))) : W p l e R s m args below meth c H locs cells slots Q (F0 m pc ls (.int (nI b) :: .ref (A 0) :: rest)) := by
  refine W.callR (W.runV (C := RX0) (As := [.int (nI b)]) (rest := rest) ⟨hx, hb, hml, hown, hB⟩ (cm0_isEmptyNote l dC dI A cI σ b hb40) (cwV 1 hB goX0_isEmptyNote rfl rfl rfl ⟨rfl, by decide, by decide, by decide +kernel⟩ ⟨hF, hLo⟩) ⟨fun a U g mk q => by obtain ⟨q9, qP, qK⟩ := q; exact ⟨q9, qP, va_K.moved (u := U) (U := U.calling g mk a) (Vm.Alike.refl U.vm) qK⟩, va_recv (q := (RX0, TX0, 12)) hK hP rfl (q0 := 0) rfl, fun U hU hW => ⟨rfl, by rw [hU]; exact hP, va_K.moved hW.alike hK⟩⟩ rfl rfl hsz rfl (lv_room hst) hd hc) kk
set_option maxHeartbeats 4000000 in
set_option maxRecDepth 100000 in
theorem cm0_lowestEmptyNote (l : Launch) (dC : Nat → ClassId) (dI : Nat → Nat → Nat) (A : Nat → Nat) (cI : ClassId) (σ : OS) : Met l yX0_lowestEmptyNote wsX0_lowestEmptyNote (rk 1) (va_Pc [.ref (A 0)] (fun U => va_P (dC, dI) vwCl (wO A cI σ) U.heap ∧ va_K (dC, dI) vwCl [(cI, .int)] U)) (QcRead (f_first (f_empty (oL σ)) 40 0)) 0 0 (fun _ => False) := by
  refine Met.ofW (cc := cX0_lowestEmptyNote) (maxL := 2) (ret := (some .int)) (by decide) rfl ?_
  intro p e s m args below meth c s₁ B hml hv
  obtain ⟨rfl, hP, hK⟩ := hv
  have hx := B.exec
  have hb := B.bytes
  have hr := B.returns
  have hB : ∀ w ∈ bX0, w.before _ s = true := fun w h => atoms_spec (ws := wsX0_lowestEmptyNote) B.pre w (List.mem_cons_of_mem _ h)
  have hown : s.vm.findClass RX0 = some m.cls := findClass_of_methodNamed B.named
  have hlocks := B.notSynchronized
  have hl := lv_entry ([.ref (A 0)]) (n := 2) (Nat.le_of_ble_eq_true rfl)
  rw [lg_entry_eq]
  generalize (lg_sl ([.ref (A 0)]) ++ List.replicate (2 - (lg_sl ([.ref (A 0)])).length) Slot.unset).toArray = ls at hl ⊢
  have hl : lv_has ls 2 [(0, .ref (A 0))] := hl
  refine lv_iconst (v := 0) hx hb dX0_lowestEmptyNote_0 (by decide) ?_
  refine lv_istore_n hx hb dX0_lowestEmptyNote_1 rfl hl (by decide) rfl (fun ls hl => ?_)
  have hl : lv_has ls 2 [(1, .int 0), (0, .ref (A 0))] := hl
  have hl := lv_sub (l' := [(0, .ref (A 0)), (1, .int 0)]) hl [1, 0] rfl
  have loop : ∀ (n i : Nat) (ls : Array Slot), i + n = 40 → lv_has ls 2 [(0, .ref (A 0)), (1, .int (nI i))] → f_first (f_empty (oL σ)) n i = f_first (f_empty (oL σ)) 40 0 → W p l e (headSpec wsX0_lowestEmptyNote (rk 1)).room s m ([.ref (A 0)]).toArray below meth c s.heap [] 0 0 (MQ below (QcRead (f_first (f_empty (oL σ)) 40 0)) ([.ref (A 0)]).toArray s 0 0 (fun _ => False)) (F0 m 2 ls []) := by
    intro n
    induction n with
    | zero =>
      intro i  ls hi hl hF
      have hi8 : i = 40 := by omega
      subst hi8
      refine lv_iload_n hx hb dX0_lowestEmptyNote_2 rfl (lv_at hl 1 rfl) ?_
      refine lv_bipush (v := 40) hx hb dX0_lowestEmptyNote_3 (by decide) ?_
      refine lv_icmp_ge (tgt := 24) hx hb dX0_lowestEmptyNote_5 rfl (fun h1 => ?_) (fun h1 => ?_)
      · skip
        refine lv_iconst (v := (-1)) hx hb dX0_lowestEmptyNote_24 (by decide) ?_
        exact W.iret (v := (-1)) hx hb hr (fun t ht _ => ⟨congrArg (fun z => Outcome.returned (some (Value.int z))) (hF), ht⟩) (fun q h => by cases h) dX0_lowestEmptyNote_25
      · skip
        exact absurd (by decide) h1
    | succ n ih =>
      intro i  ls hi hl hF
      refine lv_iload_n hx hb dX0_lowestEmptyNote_2 rfl (lv_at hl 1 rfl) ?_
      refine lv_bipush (v := 40) hx hb dX0_lowestEmptyNote_3 (by decide) ?_
      refine lv_icmp_ge (tgt := 24) hx hb dX0_lowestEmptyNote_5 rfl (fun h1 => ?_) (fun h1 => ?_)
      · skip
        exact absurd h1 (nI_ge (b := 40) (by omega) (by decide))
      · skip
        refine lv_aload_n hx hb dX0_lowestEmptyNote_8 rfl (lv_at hl 0 rfl) ?_
        refine lv_iload_n hx hb dX0_lowestEmptyNote_9 rfl (lv_at hl 1 rfl) ?_
        refine ck0_isEmptyNote hx hb hml hown hB hl.1 hP hK (by omega) dX0_lowestEmptyNote_10 (Nat.le_of_ble_eq_true rfl) (Nat.le_of_ble_eq_true rfl) ⟨Nat.zero_le _, Nat.zero_le _⟩ (Nat.le_of_ble_eq_true rfl) ?_
        refine lv_if_eq (tgt := 18) hx hb dX0_lowestEmptyNote_13 rfl (fun h2 => ?_) (fun h2 => ?_)
        · skip
          refine lv_iinc (k := 1) (v := (nI (i + 1))) hx hb dX0_lowestEmptyNote_18 hl rfl (nI_1 i) (by decide) rfl (fun ls hl => ?_)
          have hl : lv_has ls 2 [(1, .int (nI (i + 1))), (0, .ref (A 0))] := hl
          refine lv_goto (tgt := 2) hx hb dX0_lowestEmptyNote_21 rfl ?_
          refine ih (i + 1) ls (by omega) (lv_sub hl [1, 0] rfl) ?_
          rw [← hF]; exact (if_neg (by rw [bI_0.mp h2]; decide)).symm
        · skip
          refine lv_iload_n hx hb dX0_lowestEmptyNote_16 rfl (lv_at hl 1 rfl) ?_
          exact W.iret (v := (nI i)) hx hb hr (fun t ht _ => ⟨congrArg (fun z => Outcome.returned (some (Value.int z))) (by rw [← hF]; exact (if_pos (bI_n0.mp h2)).symm), ht⟩) (fun q h => by cases h) dX0_lowestEmptyNote_17
  exact loop 40 0  ls rfl hl rfl
set_option maxRecDepth 100000 in
theorem ck0_lowestEmptyNote {p : Program} {l : Launch} {e : Env} {R : Room} {s : State} {m : MethodId} {args : Array Value} {below : List Frame} {meth : Method} {c : Code} {H : Heap} {locs : List Loc} {cells slots : Nat} {Q : State → Prop} {cc : ByteArray} {nL pc : Nat} {ls : Array Slot} {rest : List Value} {dC : Nat → ClassId} {dI : Nat → Nat → Nat} {A : Nat → Nat} {cI : ClassId} {σ : OS} (hx : p.tables.exec = Jvm.exec) (hb : c.code = cc) (hml : c.maxLocals = nL) (hown : s.vm.findClass RX0 = some m.cls) (hB : ∀ w ∈ bX0, w.before args s = true) (hsz : ls.size = nL) (hP : va_P (dC, dI) vwCl (wO A cI σ) H) (hK : va_K (dC, dI) vwCl [(cI, .int)] s)  (hd : decode cc pc = .ok (.invokevirtual 86, 3)) (hF : 2 ≤ R.frames) (hLo : 51 ≤ R.locals) (hc : cells ≤ R.cells ∧ slots ≤ R.slots) (hst : (rest.map fun v => v.category).sum ≤ 8)
    (kk : W p l e R s m args below meth c H locs cells slots Q (F0 m (pc + 3) ls (.int (f_first (f_empty (oL σ)) 40 0) :: rest))) : W p l e R s m args below meth c H locs cells slots Q (F0 m pc ls (.ref (A 0) :: rest)) := by
  refine W.callR (W.runV (C := RX0) (As := []) (rest := rest) ⟨hx, hb, hml, hown, hB⟩ (cm0_lowestEmptyNote l dC dI A cI σ) (cwV 0 hB goX0_lowestEmptyNote rfl rfl rfl ⟨rfl, by decide, by decide, by decide +kernel⟩ ⟨hF, hLo⟩) ⟨fun a U g mk q => by obtain ⟨q9, qP, qK⟩ := q; exact ⟨q9, qP, va_K.moved (u := U) (U := U.calling g mk a) (Vm.Alike.refl U.vm) qK⟩, va_recv (q := (RX0, TX0, 12)) hK hP rfl (q0 := 0) rfl, fun U hU hW => ⟨rfl, by rw [hU]; exact hP, va_K.moved hW.alike hK⟩⟩ rfl rfl hsz rfl (lv_room hst) hd hc) kk
set_option maxHeartbeats 4000000 in
set_option maxRecDepth 100000 in
theorem cm0_countEmptyNotes (l : Launch) (dC : Nat → ClassId) (dI : Nat → Nat → Nat) (A : Nat → Nat) (cI : ClassId) (σ : OS) : Met l yX0_countEmptyNotes wsX0_countEmptyNotes (rk 1) (va_Pc [.ref (A 0)] (fun U => va_P (dC, dI) vwCl (wO A cI σ) U.heap ∧ va_K (dC, dI) vwCl [(cI, .int)] U)) (QcRead (f_cnt (f_empty (oL σ)) 40 0 0)) 0 0 (fun _ => False) := by
  refine Met.ofW (cc := cX0_countEmptyNotes) (maxL := 3) (ret := (some .int)) (by decide) rfl ?_
  intro p e s m args below meth c s₁ B hml hv
  obtain ⟨rfl, hP, hK⟩ := hv
  have hx := B.exec
  have hb := B.bytes
  have hr := B.returns
  have hB : ∀ w ∈ bX0, w.before _ s = true := fun w h => atoms_spec (ws := wsX0_countEmptyNotes) B.pre w (List.mem_cons_of_mem _ h)
  have hown : s.vm.findClass RX0 = some m.cls := findClass_of_methodNamed B.named
  have hlocks := B.notSynchronized
  have hl := lv_entry ([.ref (A 0)]) (n := 3) (Nat.le_of_ble_eq_true rfl)
  rw [lg_entry_eq]
  generalize (lg_sl ([.ref (A 0)]) ++ List.replicate (3 - (lg_sl ([.ref (A 0)])).length) Slot.unset).toArray = ls at hl ⊢
  have hl : lv_has ls 3 [(0, .ref (A 0))] := hl
  refine lv_iconst (v := 0) hx hb dX0_countEmptyNotes_0 (by decide) ?_
  refine lv_istore_n hx hb dX0_countEmptyNotes_1 rfl hl (by decide) rfl (fun ls hl => ?_)
  have hl : lv_has ls 3 [(1, .int 0), (0, .ref (A 0))] := hl
  refine lv_iconst (v := 0) hx hb dX0_countEmptyNotes_2 (by decide) ?_
  refine lv_istore_n hx hb dX0_countEmptyNotes_3 rfl hl (by decide) rfl (fun ls hl => ?_)
  have hl : lv_has ls 3 [(2, .int 0), (1, .int 0), (0, .ref (A 0))] := hl
  have hl := lv_sub (l' := [(0, .ref (A 0)), (1, .int 0), (2, .int 0)]) hl [2, 1, 0] rfl
  have loop : ∀ (n i : Nat) (a : Int32) (ls : Array Slot), i + n = 40 → lv_has ls 3 [(0, .ref (A 0)), (1, .int a), (2, .int (nI i))] → f_cnt (f_empty (oL σ)) n i a = f_cnt (f_empty (oL σ)) 40 0 0 → W p l e (headSpec wsX0_countEmptyNotes (rk 1)).room s m ([.ref (A 0)]).toArray below meth c s.heap [] 0 0 (MQ below (QcRead (f_cnt (f_empty (oL σ)) 40 0 0)) ([.ref (A 0)]).toArray s 0 0 (fun _ => False)) (F0 m 4 ls []) := by
    intro n
    induction n with
    | zero =>
      intro i a ls hi hl hF
      have hi8 : i = 40 := by omega
      subst hi8
      refine lv_iload_n hx hb dX0_countEmptyNotes_4 rfl (lv_at hl 2 rfl) ?_
      refine lv_bipush (v := 40) hx hb dX0_countEmptyNotes_5 (by decide) ?_
      refine lv_icmp_ge (tgt := 27) hx hb dX0_countEmptyNotes_7 rfl (fun h1 => ?_) (fun h1 => ?_)
      · skip
        refine lv_iload_n hx hb dX0_countEmptyNotes_27 rfl (lv_at hl 1 rfl) ?_
        exact W.iret (v := a) hx hb hr (fun t ht _ => ⟨congrArg (fun z => Outcome.returned (some (Value.int z))) (hF), ht⟩) (fun q h => by cases h) dX0_countEmptyNotes_28
      · skip
        exact absurd (by decide) h1
    | succ n ih =>
      intro i a ls hi hl hF
      refine lv_iload_n hx hb dX0_countEmptyNotes_4 rfl (lv_at hl 2 rfl) ?_
      refine lv_bipush (v := 40) hx hb dX0_countEmptyNotes_5 (by decide) ?_
      refine lv_icmp_ge (tgt := 27) hx hb dX0_countEmptyNotes_7 rfl (fun h1 => ?_) (fun h1 => ?_)
      · skip
        exact absurd h1 (nI_ge (b := 40) (by omega) (by decide))
      · skip
        refine lv_aload_n hx hb dX0_countEmptyNotes_10 rfl (lv_at hl 0 rfl) ?_
        refine lv_iload_n hx hb dX0_countEmptyNotes_11 rfl (lv_at hl 2 rfl) ?_
        refine ck0_isEmptyNote hx hb hml hown hB hl.1 hP hK (by omega) dX0_countEmptyNotes_12 (Nat.le_of_ble_eq_true rfl) (Nat.le_of_ble_eq_true rfl) ⟨Nat.zero_le _, Nat.zero_le _⟩ (Nat.le_of_ble_eq_true rfl) ?_
        refine lv_if_eq (tgt := 21) hx hb dX0_countEmptyNotes_15 rfl (fun h2 => ?_) (fun h2 => ?_)
        · skip
          refine lv_iinc (k := 2) (v := (nI (i + 1))) hx hb dX0_countEmptyNotes_21 hl rfl (nI_1 i) (by decide) rfl (fun ls hl => ?_)
          have hl : lv_has ls 3 [(2, .int (nI (i + 1))), (0, .ref (A 0)), (1, .int a)] := hl
          refine lv_goto (tgt := 4) hx hb dX0_countEmptyNotes_24 rfl ?_
          refine ih (i + 1) _ ls (by omega) (lv_sub hl [1, 2, 0] rfl) ?_
          rw [← hF]; simp only [f_cnt]; rw [if_neg (by rw [bI_0.mp h2]; decide)]
        · skip
          refine lv_iinc (k := 1) (v := (a + 1)) hx hb dX0_countEmptyNotes_18 hl rfl (rfl) (by decide) rfl (fun ls hl => ?_)
          have hl : lv_has ls 3 [(1, .int (a + 1)), (0, .ref (A 0)), (2, .int (nI i))] := hl
          refine lv_iinc (k := 2) (v := (nI (i + 1))) hx hb dX0_countEmptyNotes_21 hl rfl (nI_1 i) (by decide) rfl (fun ls hl => ?_)
          have hl : lv_has ls 3 [(2, .int (nI (i + 1))), (1, .int (a + 1)), (0, .ref (A 0))] := hl
          refine lv_goto (tgt := 4) hx hb dX0_countEmptyNotes_24 rfl ?_
          refine ih (i + 1) _ ls (by omega) (lv_sub hl [2, 1, 0] rfl) ?_
          rw [← hF]; simp only [f_cnt]; rw [if_pos (bI_n0.mp h2)]
  exact loop 40 0 0 ls rfl hl rfl
set_option maxRecDepth 100000 in
theorem ck0_countEmptyNotes {p : Program} {l : Launch} {e : Env} {R : Room} {s : State} {m : MethodId} {args : Array Value} {below : List Frame} {meth : Method} {c : Code} {H : Heap} {locs : List Loc} {cells slots : Nat} {Q : State → Prop} {cc : ByteArray} {nL pc : Nat} {ls : Array Slot} {rest : List Value} {dC : Nat → ClassId} {dI : Nat → Nat → Nat} {A : Nat → Nat} {cI : ClassId} {σ : OS} (hx : p.tables.exec = Jvm.exec) (hb : c.code = cc) (hml : c.maxLocals = nL) (hown : s.vm.findClass RX0 = some m.cls) (hB : ∀ w ∈ bX0, w.before args s = true) (hsz : ls.size = nL) (hP : va_P (dC, dI) vwCl (wO A cI σ) H) (hK : va_K (dC, dI) vwCl [(cI, .int)] s)  (hd : decode cc pc = .ok (.invokevirtual 103, 3)) (hF : 2 ≤ R.frames) (hLo : 52 ≤ R.locals) (hc : cells ≤ R.cells ∧ slots ≤ R.slots) (hst : (rest.map fun v => v.category).sum ≤ 8)
    (kk : W p l e R s m args below meth c H locs cells slots Q (F0 m (pc + 3) ls (.int (f_cnt (f_empty (oL σ)) 40 0 0) :: rest))) : W p l e R s m args below meth c H locs cells slots Q (F0 m pc ls (.ref (A 0) :: rest)) := by
  refine W.callR (W.runV (C := RX0) (As := []) (rest := rest) ⟨hx, hb, hml, hown, hB⟩ (cm0_countEmptyNotes l dC dI A cI σ) (cwV 0 hB goX0_countEmptyNotes rfl rfl rfl ⟨rfl, by decide, by decide, by decide +kernel⟩ ⟨hF, hLo⟩) ⟨fun a U g mk q => by obtain ⟨q9, qP, qK⟩ := q; exact ⟨q9, qP, va_K.moved (u := U) (U := U.calling g mk a) (Vm.Alike.refl U.vm) qK⟩, va_recv (q := (RX0, TX0, 12)) hK hP rfl (q0 := 0) rfl, fun U hU hW => ⟨rfl, by rw [hU]; exact hP, va_K.moved hW.alike hK⟩⟩ rfl rfl hsz rfl (lv_room hst) hd hc) kk
set_option maxHeartbeats 4000000 in
set_option maxRecDepth 100000 in
theorem cm0_wordThatTakes (l : Launch) (dC : Nat → ClassId) (dI : Nat → Nat → Nat) (A : Nat → Nat) (cI : ClassId) (σ : OS) (key : Int32) (v : Int32) (fr : Nat) (hfr : fr ≤ 160) : Met l yX0_wordThatTakes wsX0_wordThatTakes (rk 3) (va_Pc [.ref (A 0), .int key, .int v, .int (nI fr)] (fun U => va_P (dC, dI) vwCl (wO A cI σ) U.heap ∧ va_K (dC, dI) vwCl [(cI, .int)] U)) (QcRead (f_takes (oW σ) (oT σ) key v fr)) 0 0 (fun _ => False) := by
  refine Met.ofW (cc := cX0_wordThatTakes) (maxL := 5) (ret := (some .int)) (by decide) rfl ?_
  intro p e s m args below meth c s₁ B hml hv
  obtain ⟨rfl, hP, hK⟩ := hv
  have hx := B.exec
  have hb := B.bytes
  have hr := B.returns
  have hB : ∀ w ∈ bX0, w.before _ s = true := fun w h => atoms_spec (ws := wsX0_wordThatTakes) B.pre w (List.mem_cons_of_mem _ h)
  have hown : s.vm.findClass RX0 = some m.cls := findClass_of_methodNamed B.named
  have hlocks := B.notSynchronized
  have hl := lv_entry ([.ref (A 0), .int key, .int v, .int (nI fr)]) (n := 5) (Nat.le_of_ble_eq_true rfl)
  rw [lg_entry_eq]
  generalize (lg_sl ([.ref (A 0), .int key, .int v, .int (nI fr)]) ++ List.replicate (5 - (lg_sl ([.ref (A 0), .int key, .int v, .int (nI fr)])).length) Slot.unset).toArray = ls at hl ⊢
  have hl : lv_has ls 5 [(0, .ref (A 0)), (1, .int key), (2, .int v), (3, .int (nI fr))] := hl
  refine lv_aload_n hx hb dX0_wordThatTakes_0 rfl (lv_at hl 0 rfl) ?_
  refine lv_iload_n hx hb dX0_wordThatTakes_1 rfl (lv_at hl 1 rfl) ?_
  refine ck0_presentWord hx hb hml hown hB hl.1 hP hK dX0_wordThatTakes_2 (Nat.le_of_ble_eq_true rfl) (Nat.le_of_ble_eq_true rfl) ⟨Nat.zero_le _, Nat.zero_le _⟩ (Nat.le_of_ble_eq_true rfl) ?_
  refine lv_istore hx hb dX0_wordThatTakes_5 hl (by decide) rfl (fun ls hl => ?_)
  have hl : lv_has ls 5 [(4, .int (f_pres (oT σ) key 160)), (0, .ref (A 0)), (1, .int key), (2, .int v), (3, .int (nI fr))] := hl
  refine lv_aload_n hx hb dX0_wordThatTakes_7 rfl (lv_at hl 1 rfl) ?_
  refine lv_iload hx hb dX0_wordThatTakes_8 (lv_at hl 0 rfl) ?_
  refine lv_iload_n hx hb dX0_wordThatTakes_10 rfl (lv_at hl 3 rfl) ?_
  refine ck0_staysInPlace hx hb hml hown hB hl.1 hP hK (f_pres_vp _ _) dX0_wordThatTakes_11 (Nat.le_of_ble_eq_true rfl) (Nat.le_of_ble_eq_true rfl) ⟨Nat.zero_le _, Nat.zero_le _⟩ (Nat.le_of_ble_eq_true rfl) ?_
  refine lv_if_eq (tgt := 22) hx hb dX0_wordThatTakes_14 rfl (fun h1 => ?_) (fun h1 => ?_)
  · skip
    refine lv_aload_n hx hb dX0_wordThatTakes_22 rfl (lv_at hl 1 rfl) ?_
    refine lv_iload_n hx hb dX0_wordThatTakes_23 rfl (lv_at hl 4 rfl) ?_
    refine ck0_lowestFreshWord hx hb hml hown hB hl.1 hP hK hfr dX0_wordThatTakes_24 (Nat.le_of_ble_eq_true rfl) (Nat.le_of_ble_eq_true rfl) ⟨Nat.zero_le _, Nat.zero_le _⟩ (Nat.le_of_ble_eq_true rfl) ?_
    exact W.iret (v := (f_first (f_fresh (oW σ) (oT σ)) (160 - fr) fr)) hx hb hr (fun t ht _ => ⟨congrArg (fun z => Outcome.returned (some (Value.int z))) ((if_neg (by rw [bI_0.mp h1]; decide)).symm), ht⟩) (fun q h => by cases h) dX0_wordThatTakes_27
  · skip
    refine lv_iload hx hb dX0_wordThatTakes_17 (lv_at hl 0 rfl) ?_
    refine lv_goto (tgt := 27) hx hb dX0_wordThatTakes_19 rfl ?_
    exact W.iret (v := (f_pres (oT σ) key 160)) hx hb hr (fun t ht _ => ⟨congrArg (fun z => Outcome.returned (some (Value.int z))) ((if_pos (bI_n0.mp h1)).symm), ht⟩) (fun q h => by cases h) dX0_wordThatTakes_27
set_option maxRecDepth 100000 in
theorem ck0_wordThatTakes {p : Program} {l : Launch} {e : Env} {R : Room} {s : State} {m : MethodId} {args : Array Value} {below : List Frame} {meth : Method} {c : Code} {H : Heap} {locs : List Loc} {cells slots : Nat} {Q : State → Prop} {cc : ByteArray} {nL pc : Nat} {ls : Array Slot} {rest : List Value} {dC : Nat → ClassId} {dI : Nat → Nat → Nat} {A : Nat → Nat} {cI : ClassId} {σ : OS} {key : Int32} {v : Int32} {fr : Nat} (hx : p.tables.exec = Jvm.exec) (hb : c.code = cc) (hml : c.maxLocals = nL) (hown : s.vm.findClass RX0 = some m.cls) (hB : ∀ w ∈ bX0, w.before args s = true) (hsz : ls.size = nL) (hP : va_P (dC, dI) vwCl (wO A cI σ) H) (hK : va_K (dC, dI) vwCl [(cI, .int)] s) (hfr : fr ≤ 160) (hd : decode cc pc = .ok (.invokevirtual 61, 3)) (hF : 4 ≤ R.frames) (hLo : 114 ≤ R.locals) (hc : cells ≤ R.cells ∧ slots ≤ R.slots) (hst : (rest.map fun v => v.category).sum ≤ 8)
    (kk : W p l e R s m args below meth c H locs cells slots Q (F0 m (pc + 3) ls (.int (f_takes (oW σ) (oT σ) key v fr) :: rest))) : W p l e R s m args below meth c H locs cells slots Q (F0 m pc ls (.int (nI fr) :: .int v :: .int key :: .ref (A 0) :: rest)) := by
  refine W.callR (W.runV (C := RX0) (As := [.int key, .int v, .int (nI fr)]) (rest := rest) ⟨hx, hb, hml, hown, hB⟩ (cm0_wordThatTakes l dC dI A cI σ key v fr hfr) (cwV 3 hB goX0_wordThatTakes rfl rfl rfl ⟨rfl, by decide, by decide, by decide +kernel⟩ ⟨hF, hLo⟩) ⟨fun a U g mk q => by obtain ⟨q9, qP, qK⟩ := q; exact ⟨q9, qP, va_K.moved (u := U) (U := U.calling g mk a) (Vm.Alike.refl U.vm) qK⟩, va_recv (q := (RX0, TX0, 12)) hK hP rfl (q0 := 0) rfl, fun U hU hW => ⟨rfl, by rw [hU]; exact hP, va_K.moved hW.alike hK⟩⟩ rfl rfl hsz rfl (lv_room hst) hd hc) kk
set_option maxHeartbeats 4000000 in
set_option maxRecDepth 100000 in
theorem cm0_isStaged (l : Launch) (dC : Nat → ClassId) (dI : Nat → Nat → Nat) (A : Nat → Nat) (cI : ClassId) (σ : OS) (key : Int32) (nb : Nat) (hnb : oBs σ = nI nb) (hnb8 : nb ≤ 8) : Met l yX0_isStaged wsX0_isStaged (rk 0) (va_Pc [.ref (A 0), .int key] (fun U => va_P (dC, dI) vwCl (wO A cI σ) U.heap ∧ va_K (dC, dI) vwCl [(cI, .int)] U)) (QcRead (bI (f_isSt (oK σ) key nb 0))) 0 0 (fun _ => False) := by
  refine Met.ofW (cc := cX0_isStaged) (maxL := 3) (ret := (some .boolean)) (by decide) rfl ?_
  intro p e s m args below meth c s₁ B hml hv
  obtain ⟨rfl, hP, hK⟩ := hv
  have hx := B.exec
  have hb := B.bytes
  have hr := B.returns
  have hB : ∀ w ∈ bX0, w.before _ s = true := fun w h => atoms_spec (ws := wsX0_isStaged) B.pre w (List.mem_cons_of_mem _ h)
  have hown : s.vm.findClass RX0 = some m.cls := findClass_of_methodNamed B.named
  have hlocks := B.notSynchronized
  have hl := lv_entry ([.ref (A 0), .int key]) (n := 3) (Nat.le_of_ble_eq_true rfl)
  rw [lg_entry_eq]
  generalize (lg_sl ([.ref (A 0), .int key]) ++ List.replicate (3 - (lg_sl ([.ref (A 0), .int key])).length) Slot.unset).toArray = ls at hl ⊢
  have hl : lv_has ls 3 [(0, .ref (A 0)), (1, .int key)] := hl
  refine lv_iconst (v := 0) hx hb dX0_isStaged_0 (by decide) ?_
  refine lv_istore_n hx hb dX0_isStaged_1 rfl hl (by decide) rfl (fun ls hl => ?_)
  have hl : lv_has ls 3 [(2, .int 0), (0, .ref (A 0)), (1, .int key)] := hl
  have hl := lv_sub (l' := [(0, .ref (A 0)), (1, .int key), (2, .int 0)]) hl [1, 2, 0] rfl
  have loop : ∀ (n i : Nat) (ls : Array Slot), i + n = nb → lv_has ls 3 [(0, .ref (A 0)), (1, .int key), (2, .int (nI i))] → f_isSt (oK σ) key n i = f_isSt (oK σ) key nb 0 → W p l e (headSpec wsX0_isStaged (rk 0)).room s m ([.ref (A 0), .int key]).toArray below meth c s.heap [] 0 0 (MQ below (QcRead (bI (f_isSt (oK σ) key nb 0))) ([.ref (A 0), .int key]).toArray s 0 0 (fun _ => False)) (F0 m 2 ls []) := by
    intro n
    induction n with
    | zero =>
      intro i  ls hi hl hF
      have hi8 : i = nb := by omega
      subst hi8
      refine lv_iload_n hx hb dX0_isStaged_2 rfl (lv_at hl 2 rfl) ?_
      refine lv_aload_n hx hb dX0_isStaged_3 rfl (lv_at hl 0 rfl) ?_
      refine va_get (D := (dC, dI)) (ci := 0) (v := .int (oBs σ)) (C := RX0) (T := TX0) (N := 12) hx hb hB inX0 hown hK hP 0 rfl rfl 11 (by decide) (hB _ mX0_f_batchSize) (fun _ h9 => h9) rfl dX0_isStaged_4 ?_
      rw [hnb]
      refine lv_icmp_ge (tgt := 28) hx hb dX0_isStaged_7 rfl (fun h1 => ?_) (fun h1 => ?_)
      · skip
        refine lv_iconst (v := 0) hx hb dX0_isStaged_28 (by decide) ?_
        exact W.zret (v := 0) hx hb hr (rfl) (fun t ht _ => ⟨congrArg (fun z => Outcome.returned (some (Value.int z))) (congrArg bI hF), ht⟩) (fun q h => by cases h) dX0_isStaged_29
      · skip
        exact absurd (nI_le (Nat.le_refl _) (by omega)) h1
    | succ n ih =>
      intro i  ls hi hl hF
      refine lv_iload_n hx hb dX0_isStaged_2 rfl (lv_at hl 2 rfl) ?_
      refine lv_aload_n hx hb dX0_isStaged_3 rfl (lv_at hl 0 rfl) ?_
      refine va_get (D := (dC, dI)) (ci := 0) (v := .int (oBs σ)) (C := RX0) (T := TX0) (N := 12) hx hb hB inX0 hown hK hP 0 rfl rfl 11 (by decide) (hB _ mX0_f_batchSize) (fun _ h9 => h9) rfl dX0_isStaged_4 ?_
      rw [hnb]
      refine lv_icmp_ge (tgt := 28) hx hb dX0_isStaged_7 rfl (fun h1 => ?_) (fun h1 => ?_)
      · skip
        exact absurd h1 (nI_ge (by omega) (by omega))
      · skip
        refine lv_aload_n hx hb dX0_isStaged_10 rfl (lv_at hl 0 rfl) ?_
        refine va_get (D := (dC, dI)) (ci := 0) (v := .ref (A 4)) (C := RX0) (T := TX0) (N := 12) hx hb hB inX0 hown hK hP 0 rfl rfl 7 (by decide) (hB _ mX0_f_stagedKeys) (fun _ h9 => h9) rfl dX0_isStaged_11 ?_
        refine lv_iload_n hx hb dX0_isStaged_14 rfl (lv_at hl 2 rfl) ?_
        refine va_iald (D := (dC, dI)) (i := (nI i)) hx hb hK hP 4 0 rfl rfl (vp_in_nI (by omega) (by decide)) dX0_isStaged_15 ?_
        rw [show ((nI i)).toNatClampNeg = i from nI_clamp (by omega)]
        refine lv_iload_n hx hb dX0_isStaged_16 rfl (lv_at hl 1 rfl) ?_
        refine lv_icmp_ne (tgt := 22) hx hb dX0_isStaged_17 rfl (fun h2 => ?_) (fun h2 => ?_)
        · skip
          refine lv_iinc (k := 2) (v := (nI (i + 1))) hx hb dX0_isStaged_22 hl rfl (nI_1 i) (by decide) rfl (fun ls hl => ?_)
          have hl : lv_has ls 3 [(2, .int (nI (i + 1))), (0, .ref (A 0)), (1, .int key)] := hl
          refine lv_goto (tgt := 2) hx hb dX0_isStaged_25 rfl ?_
          refine ih (i + 1) ls (by omega) (lv_sub hl [1, 2, 0] rfl) ?_
          rw [← hF]; exact (if_neg (by simpa using h2)).symm
        · skip
          refine lv_iconst (v := 1) hx hb dX0_isStaged_20 (by decide) ?_
          exact W.zret (v := 1) hx hb hr (rfl) (fun t ht _ => ⟨congrArg (fun z => Outcome.returned (some (Value.int z))) (by rw [← hF]; simp only [f_isSt]; rw [if_pos (by simpa using h2)]; rfl), ht⟩) (fun q h => by cases h) dX0_isStaged_21
  exact loop nb 0 ls (by omega) hl rfl
set_option maxRecDepth 100000 in
theorem ck0_isStaged {p : Program} {l : Launch} {e : Env} {R : Room} {s : State} {m : MethodId} {args : Array Value} {below : List Frame} {meth : Method} {c : Code} {H : Heap} {locs : List Loc} {cells slots : Nat} {Q : State → Prop} {cc : ByteArray} {nL pc : Nat} {ls : Array Slot} {rest : List Value} {dC : Nat → ClassId} {dI : Nat → Nat → Nat} {A : Nat → Nat} {cI : ClassId} {σ : OS} {key : Int32} {nb : Nat} (hx : p.tables.exec = Jvm.exec) (hb : c.code = cc) (hml : c.maxLocals = nL) (hown : s.vm.findClass RX0 = some m.cls) (hB : ∀ w ∈ bX0, w.before args s = true) (hsz : ls.size = nL) (hP : va_P (dC, dI) vwCl (wO A cI σ) H) (hK : va_K (dC, dI) vwCl [(cI, .int)] s) (hnb : oBs σ = nI nb) (hnb8 : nb ≤ 8) (hd : decode cc pc = .ok (.invokevirtual 80, 3)) (hF : 1 ≤ R.frames) (hLo : 22 ≤ R.locals) (hc : cells ≤ R.cells ∧ slots ≤ R.slots) (hst : (rest.map fun v => v.category).sum ≤ 8)
    (kk : W p l e R s m args below meth c H locs cells slots Q (F0 m (pc + 3) ls (.int (bI (f_isSt (oK σ) key nb 0)) :: rest))) : W p l e R s m args below meth c H locs cells slots Q (F0 m pc ls (.int key :: .ref (A 0) :: rest)) := by
  refine W.callR (W.runV (C := RX0) (As := [.int key]) (rest := rest) ⟨hx, hb, hml, hown, hB⟩ (cm0_isStaged l dC dI A cI σ key nb hnb hnb8) (cwV 1 hB goX0_isStaged rfl rfl rfl ⟨rfl, by decide, by decide, by decide +kernel⟩ ⟨hF, hLo⟩) ⟨fun a U g mk q => by obtain ⟨q9, qP, qK⟩ := q; exact ⟨q9, qP, va_K.moved (u := U) (U := U.calling g mk a) (Vm.Alike.refl U.vm) qK⟩, va_recv (q := (RX0, TX0, 12)) hK hP rfl (q0 := 0) rfl, fun U hU hW => ⟨rfl, by rw [hU]; exact hP, va_K.moved hW.alike hK⟩⟩ rfl rfl hsz rfl (lv_room hst) hd hc) kk
