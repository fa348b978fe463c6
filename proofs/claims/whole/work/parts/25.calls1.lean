set_option maxHeartbeats 4000000 in
set_option maxRecDepth 100000 in
theorem cm1_isStaged (l : Launch) (dC : Nat → ClassId) (dI : Nat → Nat → Nat) (B : Nat → Nat) (cI : ClassId) (cZ : ClassId) (μ : NS) (key : Int32) (nb : Nat) (hnb : nSt μ = nI nb) (hnb8 : nb ≤ 8) : Met l yX1_isStaged wsX1_isStaged (rk 0) (va_Pc [.ref (B 0), .int key] (fun U => va_P (dC, dI) vwCl (wN B cI cZ μ) U.heap ∧ va_K (dC, dI) vwCl [(cI, .int), (cZ, .boolean)] U)) (QcRead (bI (g_sta μ key nb))) 0 0 (fun _ => False) := by
  refine Met.ofW (cc := cX1_isStaged) (maxL := 4) (ret := (some .boolean)) (by decide) rfl ?_
  intro p e s m args below meth c s₁ Bd hml hv
  obtain ⟨rfl, hP, hK⟩ := hv
  have hx := Bd.exec
  have hb := Bd.bytes
  have hr := Bd.returns
  have hB : ∀ w ∈ bX1, w.before _ s = true := fun w h => atoms_spec (ws := wsX1_isStaged) Bd.pre w (List.mem_cons_of_mem _ h)
  have hown : s.vm.findClass RX1 = some m.cls := findClass_of_methodNamed Bd.named
  have hlocks := Bd.notSynchronized
  have hl := lv_entry ([.ref (B 0), .int key]) (n := 4) (Nat.le_of_ble_eq_true rfl)
  rw [lg_entry_eq]
  generalize (lg_sl ([.ref (B 0), .int key]) ++ List.replicate (4 - (lg_sl ([.ref (B 0), .int key])).length) Slot.unset).toArray = ls at hl ⊢
  have hl : lv_has ls 4 [(0, .ref (B 0)), (1, .int key)] := hl
  refine lv_iconst (v := 0) hx hb dX1_isStaged_0 (by decide) ?_
  refine lv_istore_n hx hb dX1_isStaged_1 rfl hl (by decide) rfl (fun ls hl => ?_)
  have hl : lv_has ls 4 [(2, .int 0), (0, .ref (B 0)), (1, .int key)] := hl
  refine lv_iconst (v := 0) hx hb dX1_isStaged_2 (by decide) ?_
  refine lv_istore_n hx hb dX1_isStaged_3 rfl hl (by decide) rfl (fun ls hl => ?_)
  have hl : lv_has ls 4 [(3, .int 0), (2, .int 0), (0, .ref (B 0)), (1, .int key)] := hl
  have hl := lv_sub (l' := [(0, .ref (B 0)), (1, .int key), (2, .int 0), (3, .int 0)]) hl [2, 3, 1, 0] rfl
  by_cases hop : nOp μ = 0
  · skip
    refine lv_iload_n hx hb dX1_isStaged_4 rfl (lv_at hl 3 rfl) ?_
    refine lv_aload_n hx hb dX1_isStaged_5 rfl (lv_at hl 0 rfl) ?_
    refine va_get (D := (dC, dI)) (ci := 1) (v := .int (nSt μ)) (C := RX1) (T := TX1) (N := 12) hx hb hB inX1 hown hK hP 0 rfl rfl 8 (by decide) (hB _ mX1_f_staged) (fun _ h9 => h9) rfl dX1_isStaged_6 ?_
    refine lv_icmp_ge (tgt := 45) hx hb dX1_isStaged_9 rfl (fun h1 => ?_) (fun h1 => ?_)
    · skip
      refine lv_iload_n hx hb dX1_isStaged_45 rfl (lv_at hl 2 rfl) ?_
      exact W.zret (v := 0) hx hb hr (rfl) (fun t ht _ => ⟨congrArg (fun z => Outcome.returned (some (Value.int z))) (by rw [g_sta, if_pos hop]; rfl), ht⟩) (fun q h => by cases h) dX1_isStaged_46
    · skip
      refine lv_aload_n hx hb dX1_isStaged_12 rfl (lv_at hl 0 rfl) ?_
      refine va_get (D := (dC, dI)) (ci := 1) (v := .int (nOp μ)) (C := RX1) (T := TX1) (N := 12) hx hb hB inX1 hown hK hP 0 rfl rfl 7 (by decide) (hB _ mX1_f_open) (fun _ h9 => h9) rfl dX1_isStaged_13 ?_
      refine lv_if_eq (tgt := 45) hx hb dX1_isStaged_16 rfl (fun h2 => ?_) (fun h2 => ?_)
      · skip
        refine lv_iload_n hx hb dX1_isStaged_45 rfl (lv_at hl 2 rfl) ?_
        exact W.zret (v := 0) hx hb hr (rfl) (fun t ht _ => ⟨congrArg (fun z => Outcome.returned (some (Value.int z))) (by rw [g_sta, if_pos hop]; rfl), ht⟩) (fun q h => by cases h) dX1_isStaged_46
      · skip
        exact absurd hop h2
  · skip
    have loop : ∀ (n i : Nat) (b : Bool) (ls : Array Slot), i + n = nb → lv_has ls 4 [(0, .ref (B 0)), (1, .int key), (2, .int (bI b)), (3, .int (nI i))] → g_isSt (nKs μ) key n i b = g_sta μ key nb → W p l e (headSpec wsX1_isStaged (rk 0)).room s m ([.ref (B 0), .int key]).toArray below meth c s.heap [] 0 0 (MQ below (QcRead (bI (g_sta μ key nb))) ([.ref (B 0), .int key]).toArray s 0 0 (fun _ => False)) (F0 m 4 ls []) := by
      intro n
      induction n with
      | zero =>
        intro i b ls hi hl hF
        have hi8 : i = nb := by omega
        subst hi8
        refine lv_iload_n hx hb dX1_isStaged_4 rfl (lv_at hl 3 rfl) ?_
        refine lv_aload_n hx hb dX1_isStaged_5 rfl (lv_at hl 0 rfl) ?_
        refine va_get (D := (dC, dI)) (ci := 1) (v := .int (nSt μ)) (C := RX1) (T := TX1) (N := 12) hx hb hB inX1 hown hK hP 0 rfl rfl 8 (by decide) (hB _ mX1_f_staged) (fun _ h9 => h9) rfl dX1_isStaged_6 ?_
        rw [hnb]
        refine lv_icmp_ge (tgt := 45) hx hb dX1_isStaged_9 rfl (fun h1 => ?_) (fun h1 => ?_)
        · skip
          refine lv_iload_n hx hb dX1_isStaged_45 rfl (lv_at hl 2 rfl) ?_
          exact W.zret (v := (bI b)) hx hb hr (bI_nar _) (fun t ht _ => ⟨congrArg (fun z => Outcome.returned (some (Value.int z))) (congrArg bI hF), ht⟩) (fun q h => by cases h) dX1_isStaged_46
        · skip
          exact absurd (nI_le (Nat.le_refl _) (by omega)) h1
      | succ n ih =>
        intro i b ls hi hl hF
        refine lv_iload_n hx hb dX1_isStaged_4 rfl (lv_at hl 3 rfl) ?_
        refine lv_aload_n hx hb dX1_isStaged_5 rfl (lv_at hl 0 rfl) ?_
        refine va_get (D := (dC, dI)) (ci := 1) (v := .int (nSt μ)) (C := RX1) (T := TX1) (N := 12) hx hb hB inX1 hown hK hP 0 rfl rfl 8 (by decide) (hB _ mX1_f_staged) (fun _ h9 => h9) rfl dX1_isStaged_6 ?_
        rw [hnb]
        refine lv_icmp_ge (tgt := 45) hx hb dX1_isStaged_9 rfl (fun h1 => ?_) (fun h1 => ?_)
        · skip
          exact absurd h1 (nI_ge (by omega) (by omega))
        · skip
          refine lv_aload_n hx hb dX1_isStaged_12 rfl (lv_at hl 0 rfl) ?_
          refine va_get (D := (dC, dI)) (ci := 1) (v := .int (nOp μ)) (C := RX1) (T := TX1) (N := 12) hx hb hB inX1 hown hK hP 0 rfl rfl 7 (by decide) (hB _ mX1_f_open) (fun _ h9 => h9) rfl dX1_isStaged_13 ?_
          refine lv_if_eq (tgt := 45) hx hb dX1_isStaged_16 rfl (fun h2 => ?_) (fun h2 => ?_)
          · skip
            exact absurd h2 hop
          · skip
            refine lv_iload_n hx hb dX1_isStaged_19 rfl (lv_at hl 2 rfl) ?_
            refine lv_if_ne (tgt := 33) hx hb dX1_isStaged_20 rfl (fun h3 => ?_) (fun h3 => ?_)
            · skip
              refine lv_iconst (v := 1) hx hb dX1_isStaged_33 (by decide) ?_
              refine lv_goto (tgt := 38) hx hb dX1_isStaged_34 rfl ?_
              refine lv_istore_n hx hb dX1_isStaged_38 rfl hl (by decide) rfl (fun ls hl => ?_)
              have hl : lv_has ls 4 [(2, .int 1), (0, .ref (B 0)), (1, .int key), (3, .int (nI i))] := hl
              refine lv_iinc (k := 3) (v := (nI (i + 1))) hx hb dX1_isStaged_39 hl rfl (nI_1 i) (by decide) rfl (fun ls hl => ?_)
              have hl : lv_has ls 4 [(3, .int (nI (i + 1))), (2, .int 1), (0, .ref (B 0)), (1, .int key)] := hl
              refine lv_goto (tgt := 4) hx hb dX1_isStaged_42 rfl ?_
              refine ih (i + 1) true ls (by omega) (lv_sub hl [2, 3, 1, 0] rfl) ?_
              rw [← hF, g_isSt, bI_n0.mp h3]; rfl
            · skip
              refine lv_aload_n hx hb dX1_isStaged_23 rfl (lv_at hl 0 rfl) ?_
              refine va_get (D := (dC, dI)) (ci := 1) (v := .ref (B 4)) (C := RX1) (T := TX1) (N := 12) hx hb hB inX1 hown hK hP 0 rfl rfl 9 (by decide) (hB _ mX1_f_keys) (fun _ h9 => h9) rfl dX1_isStaged_24 ?_
              refine lv_iload_n hx hb dX1_isStaged_27 rfl (lv_at hl 3 rfl) ?_
              refine va_iald (D := (dC, dI)) (i := (nI i)) hx hb hK hP 4 0 rfl rfl (vp_in_nI (by omega) (by decide)) dX1_isStaged_28 ?_
              rw [show ((nI i)).toNatClampNeg = i from nI_clamp (by omega)]
              refine lv_iload_n hx hb dX1_isStaged_29 rfl (lv_at hl 1 rfl) ?_
              refine lv_icmp_ne (tgt := 37) hx hb dX1_isStaged_30 rfl (fun h4 => ?_) (fun h4 => ?_)
              · skip
                refine lv_iconst (v := 0) hx hb dX1_isStaged_37 (by decide) ?_
                refine lv_istore_n hx hb dX1_isStaged_38 rfl hl (by decide) rfl (fun ls hl => ?_)
                have hl : lv_has ls 4 [(2, .int 0), (0, .ref (B 0)), (1, .int key), (3, .int (nI i))] := hl
                refine lv_iinc (k := 3) (v := (nI (i + 1))) hx hb dX1_isStaged_39 hl rfl (nI_1 i) (by decide) rfl (fun ls hl => ?_)
                have hl : lv_has ls 4 [(3, .int (nI (i + 1))), (2, .int 0), (0, .ref (B 0)), (1, .int key)] := hl
                refine lv_goto (tgt := 4) hx hb dX1_isStaged_42 rfl ?_
                refine ih (i + 1) false ls (by omega) (lv_sub hl [2, 3, 1, 0] rfl) ?_
                rw [← hF, g_isSt, bI_0.mp h3, decide_eq_false h4]; rfl
              · skip
                refine lv_iconst (v := 1) hx hb dX1_isStaged_33 (by decide) ?_
                refine lv_goto (tgt := 38) hx hb dX1_isStaged_34 rfl ?_
                refine lv_istore_n hx hb dX1_isStaged_38 rfl hl (by decide) rfl (fun ls hl => ?_)
                have hl : lv_has ls 4 [(2, .int 1), (0, .ref (B 0)), (1, .int key), (3, .int (nI i))] := hl
                refine lv_iinc (k := 3) (v := (nI (i + 1))) hx hb dX1_isStaged_39 hl rfl (nI_1 i) (by decide) rfl (fun ls hl => ?_)
                have hl : lv_has ls 4 [(3, .int (nI (i + 1))), (2, .int 1), (0, .ref (B 0)), (1, .int key)] := hl
                refine lv_goto (tgt := 4) hx hb dX1_isStaged_42 rfl ?_
                refine ih (i + 1) true ls (by omega) (lv_sub hl [2, 3, 1, 0] rfl) ?_
                rw [← hF, g_isSt, bI_0.mp h3, decide_eq_true h4]; rfl
    exact loop nb 0 false ls (by omega) hl (by rw [g_sta, if_neg hop])
set_option maxRecDepth 100000 in
theorem ck1_isStaged {p : Program} {l : Launch} {e : Env} {R : Room} {s : State} {m : MethodId} {args : Array Value} {below : List Frame} {meth : Method} {c : Code} {H : Heap} {locs : List Loc} {cells slots : Nat} {Q : State → Prop} {cc : ByteArray} {nL pc : Nat} {ls : Array Slot} {rest : List Value} {dC : Nat → ClassId} {dI : Nat → Nat → Nat} {B : Nat → Nat} {cI : ClassId} {cZ : ClassId} {μ : NS} {key : Int32} {nb : Nat} (hx : p.tables.exec = Jvm.exec) (hb : c.code = cc) (hml : c.maxLocals = nL) (hown : s.vm.findClass RX1 = some m.cls) (hB : ∀ w ∈ bX1, w.before args s = true) (hsz : ls.size = nL) (hP : va_P (dC, dI) vwCl (wN B cI cZ μ) H) (hK : va_K (dC, dI) vwCl [(cI, .int), (cZ, .boolean)] s) (hnb : nSt μ = nI nb) (hnb8 : nb ≤ 8) (hd : decode cc pc = .ok (.invokevirtual 125, 3)) (hF : 1 ≤ R.frames) (hLo : 23 ≤ R.locals) (hc : cells ≤ R.cells ∧ slots ≤ R.slots) (hst : (rest.map fun v => v.category).sum ≤ 8)
    (kk : W p l e R s m args below meth c H locs cells slots Q (F0 m (pc + 3) ls (.int (bI (g_sta μ key nb)) :: rest))) : W p l e R s m args below meth c H locs cells slots Q (F0 m pc ls (.int key :: .ref (B 0) :: rest)) := by
  refine W.callR (W.runV (C := RX1) (As := [.int key]) (rest := rest) ⟨hx, hb, hml, hown, hB⟩ (cm1_isStaged l dC dI B cI cZ μ key nb hnb hnb8) (cwV 1 hB goX1_isStaged rfl rfl rfl ⟨rfl, by decide, by decide, by decide +kernel⟩ ⟨hF, hLo⟩) ⟨fun a U g mk q => by obtain ⟨q9, qP, qK⟩ := q; exact ⟨q9, qP, va_K.moved (u := U) (U := U.calling g mk a) (Vm.Alike.refl U.vm) qK⟩, va_recv (q := (RX1, TX1, 12)) hK hP rfl (q0 := 0) rfl, fun U hU hW => ⟨rfl, by rw [hU]; exact hP, va_K.moved hW.alike hK⟩⟩ rfl rfl hsz rfl (lv_room hst) hd hc) kk
set_option maxHeartbeats 4000000 in
set_option maxRecDepth 100000 in
theorem cm1_countOf1 (l : Launch) (dC : Nat → ClassId) (dI : Nat → Nat → Nat) (B : Nat → Nat) (cI : ClassId) (cZ : ClassId) (μ : NS) : Met l yX1_countOf wsX1_countOf (rk 0) (va_Pc [.ref (B 1), .int 3840] (fun U => va_P (dC, dI) vwCl (wN B cI cZ μ) U.heap ∧ va_K (dC, dI) vwCl [(cI, .int), (cZ, .boolean)] U)) (QcRead (g_cnt (nWc μ) 3840 0 0)) 0 0 (fun _ => False) := by
  refine Met.ofW (cc := cX1_countOf) (maxL := 4) (ret := (some .int)) (by decide) rfl ?_
  intro p e s m args below meth c s₁ Bd hml hv
  obtain ⟨rfl, hP, hK⟩ := hv
  have hx := Bd.exec
  have hb := Bd.bytes
  have hr := Bd.returns
  have hB : ∀ w ∈ bX1, w.before _ s = true := fun w h => atoms_spec (ws := wsX1_countOf) Bd.pre w (List.mem_cons_of_mem _ h)
  have hown : s.vm.findClass RX1 = some m.cls := findClass_of_methodNamed Bd.named
  have hlocks := Bd.notSynchronized
  have hl := lv_entry ([.ref (B 1), .int 3840]) (n := 4) (Nat.le_of_ble_eq_true rfl)
  rw [lg_entry_eq]
  generalize (lg_sl ([.ref (B 1), .int 3840]) ++ List.replicate (4 - (lg_sl ([.ref (B 1), .int 3840])).length) Slot.unset).toArray = ls at hl ⊢
  have hl : lv_has ls 4 [(0, .ref (B 1)), (1, .int 3840)] := hl
  refine lv_iconst (v := 0) hx hb dX1_countOf_0 (by decide) ?_
  refine lv_istore_n hx hb dX1_countOf_1 rfl hl (by decide) rfl (fun ls hl => ?_)
  have hl : lv_has ls 4 [(2, .int 0), (0, .ref (B 1)), (1, .int 3840)] := hl
  refine lv_iconst (v := 0) hx hb dX1_countOf_2 (by decide) ?_
  refine lv_istore_n hx hb dX1_countOf_3 rfl hl (by decide) rfl (fun ls hl => ?_)
  have hl : lv_has ls 4 [(3, .int 0), (2, .int 0), (0, .ref (B 1)), (1, .int 3840)] := hl
  have hl := lv_sub (l' := [(0, .ref (B 1)), (1, .int 3840), (2, .int 0), (3, .int 0)]) hl [2, 3, 1, 0] rfl
  have loop : ∀ (n i : Nat) (a : Int32) (ls : Array Slot), i + n = 3840 → lv_has ls 4 [(0, .ref (B 1)), (1, .int 3840), (2, .int a), (3, .int (nI i))] → g_cnt (nWc μ) n i a = g_cnt (nWc μ) 3840 0 0 → W p l e (headSpec wsX1_countOf (rk 0)).room s m ([.ref (B 1), .int 3840]).toArray below meth c s.heap [] 0 0 (MQ below (QcRead (g_cnt (nWc μ) 3840 0 0)) ([.ref (B 1), .int 3840]).toArray s 0 0 (fun _ => False)) (F0 m 4 ls []) := by
    intro n
    induction n with
    | zero =>
      intro i a ls hi hl hF
      have hi8 : i = 3840 := by omega
      subst hi8
      refine lv_iload_n hx hb dX1_countOf_4 rfl (lv_at hl 3 rfl) ?_
      refine lv_iload_n hx hb dX1_countOf_5 rfl (lv_at hl 1 rfl) ?_
      refine lv_icmp_ge (tgt := 29) hx hb dX1_countOf_6 rfl (fun h1 => ?_) (fun h1 => ?_)
      · skip
        refine lv_iload_n hx hb dX1_countOf_29 rfl (lv_at hl 2 rfl) ?_
        exact W.iret (v := a) hx hb hr (fun t ht _ => ⟨congrArg (fun z => Outcome.returned (some (Value.int z))) (hF), ht⟩) (fun q h => by cases h) dX1_countOf_30
      · skip
        exact absurd (by decide) h1
    | succ n ih =>
      intro i a ls hi hl hF
      refine lv_iload_n hx hb dX1_countOf_4 rfl (lv_at hl 3 rfl) ?_
      refine lv_iload_n hx hb dX1_countOf_5 rfl (lv_at hl 1 rfl) ?_
      refine lv_icmp_ge (tgt := 29) hx hb dX1_countOf_6 rfl (fun h1 => ?_) (fun h1 => ?_)
      · skip
        exact absurd h1 (nI_ge (b := 3840) (by omega) (by decide))
      · skip
        refine lv_iload_n hx hb dX1_countOf_9 rfl (lv_at hl 2 rfl) ?_
        refine lv_aload_n hx hb dX1_countOf_10 rfl (lv_at hl 0 rfl) ?_
        refine lv_iload_n hx hb dX1_countOf_11 rfl (lv_at hl 3 rfl) ?_
        refine va_zald (D := (dC, dI)) (i := (nI i)) hx hb hK hP 1 1 rfl rfl (vp_in_nI (by omega) (by decide)) dX1_countOf_12 ?_
        rw [show ((nI i)).toNatClampNeg = i from nI_clamp (by omega)]
        refine lv_if_eq (tgt := 20) hx hb dX1_countOf_13 rfl (fun h2 => ?_) (fun h2 => ?_)
        · skip
          refine lv_iconst (v := 0) hx hb dX1_countOf_20 (by decide) ?_
          refine lv_iadd hx hb dX1_countOf_21 ?_
          refine lv_istore_n hx hb dX1_countOf_22 rfl hl (by decide) rfl (fun ls hl => ?_)
          have hl : lv_has ls 4 [(2, .int (a + 0)), (0, .ref (B 1)), (1, .int 3840), (3, .int (nI i))] := hl
          refine lv_iinc (k := 3) (v := (nI (i + 1))) hx hb dX1_countOf_23 hl rfl (nI_1 i) (by decide) rfl (fun ls hl => ?_)
          have hl : lv_has ls 4 [(3, .int (nI (i + 1))), (2, .int (a + 0)), (0, .ref (B 1)), (1, .int 3840)] := hl
          refine lv_goto (tgt := 4) hx hb dX1_countOf_26 rfl ?_
          refine ih (i + 1) _ ls (by omega) (lv_sub hl [2, 3, 1, 0] rfl) ?_
          rw [← hF, g_cnt, if_pos h2]
        · skip
          refine lv_iconst (v := 1) hx hb dX1_countOf_16 (by decide) ?_
          refine lv_goto (tgt := 21) hx hb dX1_countOf_17 rfl ?_
          refine lv_iadd hx hb dX1_countOf_21 ?_
          refine lv_istore_n hx hb dX1_countOf_22 rfl hl (by decide) rfl (fun ls hl => ?_)
          have hl : lv_has ls 4 [(2, .int (a + 1)), (0, .ref (B 1)), (1, .int 3840), (3, .int (nI i))] := hl
          refine lv_iinc (k := 3) (v := (nI (i + 1))) hx hb dX1_countOf_23 hl rfl (nI_1 i) (by decide) rfl (fun ls hl => ?_)
          have hl : lv_has ls 4 [(3, .int (nI (i + 1))), (2, .int (a + 1)), (0, .ref (B 1)), (1, .int 3840)] := hl
          refine lv_goto (tgt := 4) hx hb dX1_countOf_26 rfl ?_
          refine ih (i + 1) _ ls (by omega) (lv_sub hl [2, 3, 1, 0] rfl) ?_
          rw [← hF, g_cnt, if_neg h2]
  exact loop 3840 0 0 ls rfl hl rfl
set_option maxRecDepth 100000 in
theorem ck1_countOf1 {p : Program} {l : Launch} {e : Env} {R : Room} {s : State} {m : MethodId} {args : Array Value} {below : List Frame} {meth : Method} {c : Code} {H : Heap} {locs : List Loc} {cells slots : Nat} {Q : State → Prop} {cc : ByteArray} {nL pc : Nat} {ls : Array Slot} {rest : List Value} {dC : Nat → ClassId} {dI : Nat → Nat → Nat} {B : Nat → Nat} {cI : ClassId} {cZ : ClassId} {μ : NS} (hx : p.tables.exec = Jvm.exec) (hb : c.code = cc) (hml : c.maxLocals = nL) (hown : s.vm.findClass RX1 = some m.cls) (hB : ∀ w ∈ bX1, w.before args s = true) (hsz : ls.size = nL) (hP : va_P (dC, dI) vwCl (wN B cI cZ μ) H) (hK : va_K (dC, dI) vwCl [(cI, .int), (cZ, .boolean)] s)  (hd : decode cc pc = .ok (.invokestatic 155, 3)) (hF : 1 ≤ R.frames) (hLo : 23 ≤ R.locals) (hc : cells ≤ R.cells ∧ slots ≤ R.slots) (hst : (rest.map fun v => v.category).sum ≤ 8)
    (kk : W p l e R s m args below meth c H locs cells slots Q (F0 m (pc + 3) ls (.int (g_cnt (nWc μ) 3840 0 0) :: rest))) : W p l e R s m args below meth c H locs cells slots Q (F0 m pc ls (.int 3840 :: .ref (B 1) :: rest)) := by
  refine W.callR (W.runS (As := [.ref (B 1), .int 3840]) (rest := rest) ⟨hx, hb, hml, hown, hB⟩ (cm1_countOf1 l dC dI B cI cZ μ) (cwS 2 hB goX1_countOf rfl rfl rfl ⟨rfl, by decide, by decide, by decide +kernel⟩ ⟨hF, hLo⟩) ⟨fun a U g mk q => by obtain ⟨q9, qP, qK⟩ := q; exact ⟨q9, qP, va_K.moved (u := U) (U := U.calling g mk a) (Vm.Alike.refl U.vm) qK⟩, fun U hU hW => ⟨rfl, by rw [hU]; exact hP, va_K.moved hW.alike hK⟩⟩ rfl rfl hsz rfl (lv_room hst) hd hc) kk
set_option maxHeartbeats 4000000 in
set_option maxRecDepth 100000 in
theorem cm1_countOf2 (l : Launch) (dC : Nat → ClassId) (dI : Nat → Nat → Nat) (B : Nat → Nat) (cI : ClassId) (cZ : ClassId) (μ : NS) : Met l yX1_countOf wsX1_countOf (rk 0) (va_Pc [.ref (B 2), .int 1280] (fun U => va_P (dC, dI) vwCl (wN B cI cZ μ) U.heap ∧ va_K (dC, dI) vwCl [(cI, .int), (cZ, .boolean)] U)) (QcRead (g_cnt (nTc μ) 1280 0 0)) 0 0 (fun _ => False) := by
  refine Met.ofW (cc := cX1_countOf) (maxL := 4) (ret := (some .int)) (by decide) rfl ?_
  intro p e s m args below meth c s₁ Bd hml hv
  obtain ⟨rfl, hP, hK⟩ := hv
  have hx := Bd.exec
  have hb := Bd.bytes
  have hr := Bd.returns
  have hB : ∀ w ∈ bX1, w.before _ s = true := fun w h => atoms_spec (ws := wsX1_countOf) Bd.pre w (List.mem_cons_of_mem _ h)
  have hown : s.vm.findClass RX1 = some m.cls := findClass_of_methodNamed Bd.named
  have hlocks := Bd.notSynchronized
  have hl := lv_entry ([.ref (B 2), .int 1280]) (n := 4) (Nat.le_of_ble_eq_true rfl)
  rw [lg_entry_eq]
  generalize (lg_sl ([.ref (B 2), .int 1280]) ++ List.replicate (4 - (lg_sl ([.ref (B 2), .int 1280])).length) Slot.unset).toArray = ls at hl ⊢
  have hl : lv_has ls 4 [(0, .ref (B 2)), (1, .int 1280)] := hl
  refine lv_iconst (v := 0) hx hb dX1_countOf_0 (by decide) ?_
  refine lv_istore_n hx hb dX1_countOf_1 rfl hl (by decide) rfl (fun ls hl => ?_)
  have hl : lv_has ls 4 [(2, .int 0), (0, .ref (B 2)), (1, .int 1280)] := hl
  refine lv_iconst (v := 0) hx hb dX1_countOf_2 (by decide) ?_
  refine lv_istore_n hx hb dX1_countOf_3 rfl hl (by decide) rfl (fun ls hl => ?_)
  have hl : lv_has ls 4 [(3, .int 0), (2, .int 0), (0, .ref (B 2)), (1, .int 1280)] := hl
  have hl := lv_sub (l' := [(0, .ref (B 2)), (1, .int 1280), (2, .int 0), (3, .int 0)]) hl [2, 3, 1, 0] rfl
  have loop : ∀ (n i : Nat) (a : Int32) (ls : Array Slot), i + n = 1280 → lv_has ls 4 [(0, .ref (B 2)), (1, .int 1280), (2, .int a), (3, .int (nI i))] → g_cnt (nTc μ) n i a = g_cnt (nTc μ) 1280 0 0 → W p l e (headSpec wsX1_countOf (rk 0)).room s m ([.ref (B 2), .int 1280]).toArray below meth c s.heap [] 0 0 (MQ below (QcRead (g_cnt (nTc μ) 1280 0 0)) ([.ref (B 2), .int 1280]).toArray s 0 0 (fun _ => False)) (F0 m 4 ls []) := by
    intro n
    induction n with
    | zero =>
      intro i a ls hi hl hF
      have hi8 : i = 1280 := by omega
      subst hi8
      refine lv_iload_n hx hb dX1_countOf_4 rfl (lv_at hl 3 rfl) ?_
      refine lv_iload_n hx hb dX1_countOf_5 rfl (lv_at hl 1 rfl) ?_
      refine lv_icmp_ge (tgt := 29) hx hb dX1_countOf_6 rfl (fun h1 => ?_) (fun h1 => ?_)
      · skip
        refine lv_iload_n hx hb dX1_countOf_29 rfl (lv_at hl 2 rfl) ?_
        exact W.iret (v := a) hx hb hr (fun t ht _ => ⟨congrArg (fun z => Outcome.returned (some (Value.int z))) (hF), ht⟩) (fun q h => by cases h) dX1_countOf_30
      · skip
        exact absurd (by decide) h1
    | succ n ih =>
      intro i a ls hi hl hF
      refine lv_iload_n hx hb dX1_countOf_4 rfl (lv_at hl 3 rfl) ?_
      refine lv_iload_n hx hb dX1_countOf_5 rfl (lv_at hl 1 rfl) ?_
      refine lv_icmp_ge (tgt := 29) hx hb dX1_countOf_6 rfl (fun h1 => ?_) (fun h1 => ?_)
      · skip
        exact absurd h1 (nI_ge (b := 1280) (by omega) (by decide))
      · skip
        refine lv_iload_n hx hb dX1_countOf_9 rfl (lv_at hl 2 rfl) ?_
        refine lv_aload_n hx hb dX1_countOf_10 rfl (lv_at hl 0 rfl) ?_
        refine lv_iload_n hx hb dX1_countOf_11 rfl (lv_at hl 3 rfl) ?_
        refine va_zald (D := (dC, dI)) (i := (nI i)) hx hb hK hP 2 1 rfl rfl (vp_in_nI (by omega) (by decide)) dX1_countOf_12 ?_
        rw [show ((nI i)).toNatClampNeg = i from nI_clamp (by omega)]
        refine lv_if_eq (tgt := 20) hx hb dX1_countOf_13 rfl (fun h2 => ?_) (fun h2 => ?_)
        · skip
          refine lv_iconst (v := 0) hx hb dX1_countOf_20 (by decide) ?_
          refine lv_iadd hx hb dX1_countOf_21 ?_
          refine lv_istore_n hx hb dX1_countOf_22 rfl hl (by decide) rfl (fun ls hl => ?_)
          have hl : lv_has ls 4 [(2, .int (a + 0)), (0, .ref (B 2)), (1, .int 1280), (3, .int (nI i))] := hl
          refine lv_iinc (k := 3) (v := (nI (i + 1))) hx hb dX1_countOf_23 hl rfl (nI_1 i) (by decide) rfl (fun ls hl => ?_)
          have hl : lv_has ls 4 [(3, .int (nI (i + 1))), (2, .int (a + 0)), (0, .ref (B 2)), (1, .int 1280)] := hl
          refine lv_goto (tgt := 4) hx hb dX1_countOf_26 rfl ?_
          refine ih (i + 1) _ ls (by omega) (lv_sub hl [2, 3, 1, 0] rfl) ?_
          rw [← hF, g_cnt, if_pos h2]
        · skip
          refine lv_iconst (v := 1) hx hb dX1_countOf_16 (by decide) ?_
          refine lv_goto (tgt := 21) hx hb dX1_countOf_17 rfl ?_
          refine lv_iadd hx hb dX1_countOf_21 ?_
          refine lv_istore_n hx hb dX1_countOf_22 rfl hl (by decide) rfl (fun ls hl => ?_)
          have hl : lv_has ls 4 [(2, .int (a + 1)), (0, .ref (B 2)), (1, .int 1280), (3, .int (nI i))] := hl
          refine lv_iinc (k := 3) (v := (nI (i + 1))) hx hb dX1_countOf_23 hl rfl (nI_1 i) (by decide) rfl (fun ls hl => ?_)
          have hl : lv_has ls 4 [(3, .int (nI (i + 1))), (2, .int (a + 1)), (0, .ref (B 2)), (1, .int 1280)] := hl
          refine lv_goto (tgt := 4) hx hb dX1_countOf_26 rfl ?_
          refine ih (i + 1) _ ls (by omega) (lv_sub hl [2, 3, 1, 0] rfl) ?_
          rw [← hF, g_cnt, if_neg h2]
  exact loop 1280 0 0 ls rfl hl rfl
set_option maxRecDepth 100000 in
theorem ck1_countOf2 {p : Program} {l : Launch} {e : Env} {R : Room} {s : State} {m : MethodId} {args : Array Value} {below : List Frame} {meth : Method} {c : Code} {H : Heap} {locs : List Loc} {cells slots : Nat} {Q : State → Prop} {cc : ByteArray} {nL pc : Nat} {ls : Array Slot} {rest : List Value} {dC : Nat → ClassId} {dI : Nat → Nat → Nat} {B : Nat → Nat} {cI : ClassId} {cZ : ClassId} {μ : NS} (hx : p.tables.exec = Jvm.exec) (hb : c.code = cc) (hml : c.maxLocals = nL) (hown : s.vm.findClass RX1 = some m.cls) (hB : ∀ w ∈ bX1, w.before args s = true) (hsz : ls.size = nL) (hP : va_P (dC, dI) vwCl (wN B cI cZ μ) H) (hK : va_K (dC, dI) vwCl [(cI, .int), (cZ, .boolean)] s)  (hd : decode cc pc = .ok (.invokestatic 155, 3)) (hF : 1 ≤ R.frames) (hLo : 23 ≤ R.locals) (hc : cells ≤ R.cells ∧ slots ≤ R.slots) (hst : (rest.map fun v => v.category).sum ≤ 8)
    (kk : W p l e R s m args below meth c H locs cells slots Q (F0 m (pc + 3) ls (.int (g_cnt (nTc μ) 1280 0 0) :: rest))) : W p l e R s m args below meth c H locs cells slots Q (F0 m pc ls (.int 1280 :: .ref (B 2) :: rest)) := by
  refine W.callR (W.runS (As := [.ref (B 2), .int 1280]) (rest := rest) ⟨hx, hb, hml, hown, hB⟩ (cm1_countOf2 l dC dI B cI cZ μ) (cwS 2 hB goX1_countOf rfl rfl rfl ⟨rfl, by decide, by decide, by decide +kernel⟩ ⟨hF, hLo⟩) ⟨fun a U g mk q => by obtain ⟨q9, qP, qK⟩ := q; exact ⟨q9, qP, va_K.moved (u := U) (U := U.calling g mk a) (Vm.Alike.refl U.vm) qK⟩, fun U hU hW => ⟨rfl, by rw [hU]; exact hP, va_K.moved hW.alike hK⟩⟩ rfl rfl hsz rfl (lv_room hst) hd hc) kk
set_option maxHeartbeats 4000000 in
set_option maxRecDepth 100000 in
theorem cm1_countOf3 (l : Launch) (dC : Nat → ClassId) (dI : Nat → Nat → Nat) (B : Nat → Nat) (cI : ClassId) (cZ : ClassId) (μ : NS) : Met l yX1_countOf wsX1_countOf (rk 0) (va_Pc [.ref (B 3), .int 11520] (fun U => va_P (dC, dI) vwCl (wN B cI cZ μ) U.heap ∧ va_K (dC, dI) vwCl [(cI, .int), (cZ, .boolean)] U)) (QcRead (g_cnt (nLc μ) 11520 0 0)) 0 0 (fun _ => False) := by
  refine Met.ofW (cc := cX1_countOf) (maxL := 4) (ret := (some .int)) (by decide) rfl ?_
  intro p e s m args below meth c s₁ Bd hml hv
  obtain ⟨rfl, hP, hK⟩ := hv
  have hx := Bd.exec
  have hb := Bd.bytes
  have hr := Bd.returns
  have hB : ∀ w ∈ bX1, w.before _ s = true := fun w h => atoms_spec (ws := wsX1_countOf) Bd.pre w (List.mem_cons_of_mem _ h)
  have hown : s.vm.findClass RX1 = some m.cls := findClass_of_methodNamed Bd.named
  have hlocks := Bd.notSynchronized
  have hl := lv_entry ([.ref (B 3), .int 11520]) (n := 4) (Nat.le_of_ble_eq_true rfl)
  rw [lg_entry_eq]
  generalize (lg_sl ([.ref (B 3), .int 11520]) ++ List.replicate (4 - (lg_sl ([.ref (B 3), .int 11520])).length) Slot.unset).toArray = ls at hl ⊢
  have hl : lv_has ls 4 [(0, .ref (B 3)), (1, .int 11520)] := hl
  refine lv_iconst (v := 0) hx hb dX1_countOf_0 (by decide) ?_
  refine lv_istore_n hx hb dX1_countOf_1 rfl hl (by decide) rfl (fun ls hl => ?_)
  have hl : lv_has ls 4 [(2, .int 0), (0, .ref (B 3)), (1, .int 11520)] := hl
  refine lv_iconst (v := 0) hx hb dX1_countOf_2 (by decide) ?_
  refine lv_istore_n hx hb dX1_countOf_3 rfl hl (by decide) rfl (fun ls hl => ?_)
  have hl : lv_has ls 4 [(3, .int 0), (2, .int 0), (0, .ref (B 3)), (1, .int 11520)] := hl
  have hl := lv_sub (l' := [(0, .ref (B 3)), (1, .int 11520), (2, .int 0), (3, .int 0)]) hl [2, 3, 1, 0] rfl
  have loop : ∀ (n i : Nat) (a : Int32) (ls : Array Slot), i + n = 11520 → lv_has ls 4 [(0, .ref (B 3)), (1, .int 11520), (2, .int a), (3, .int (nI i))] → g_cnt (nLc μ) n i a = g_cnt (nLc μ) 11520 0 0 → W p l e (headSpec wsX1_countOf (rk 0)).room s m ([.ref (B 3), .int 11520]).toArray below meth c s.heap [] 0 0 (MQ below (QcRead (g_cnt (nLc μ) 11520 0 0)) ([.ref (B 3), .int 11520]).toArray s 0 0 (fun _ => False)) (F0 m 4 ls []) := by
    intro n
    induction n with
    | zero =>
      intro i a ls hi hl hF
      have hi8 : i = 11520 := by omega
      subst hi8
      refine lv_iload_n hx hb dX1_countOf_4 rfl (lv_at hl 3 rfl) ?_
      refine lv_iload_n hx hb dX1_countOf_5 rfl (lv_at hl 1 rfl) ?_
      refine lv_icmp_ge (tgt := 29) hx hb dX1_countOf_6 rfl (fun h1 => ?_) (fun h1 => ?_)
      · skip
        refine lv_iload_n hx hb dX1_countOf_29 rfl (lv_at hl 2 rfl) ?_
        exact W.iret (v := a) hx hb hr (fun t ht _ => ⟨congrArg (fun z => Outcome.returned (some (Value.int z))) (hF), ht⟩) (fun q h => by cases h) dX1_countOf_30
      · skip
        exact absurd (by decide) h1
    | succ n ih =>
      intro i a ls hi hl hF
      refine lv_iload_n hx hb dX1_countOf_4 rfl (lv_at hl 3 rfl) ?_
      refine lv_iload_n hx hb dX1_countOf_5 rfl (lv_at hl 1 rfl) ?_
      refine lv_icmp_ge (tgt := 29) hx hb dX1_countOf_6 rfl (fun h1 => ?_) (fun h1 => ?_)
      · skip
        exact absurd h1 (nI_ge (b := 11520) (by omega) (by decide))
      · skip
        refine lv_iload_n hx hb dX1_countOf_9 rfl (lv_at hl 2 rfl) ?_
        refine lv_aload_n hx hb dX1_countOf_10 rfl (lv_at hl 0 rfl) ?_
        refine lv_iload_n hx hb dX1_countOf_11 rfl (lv_at hl 3 rfl) ?_
        refine va_zald (D := (dC, dI)) (i := (nI i)) hx hb hK hP 3 1 rfl rfl (vp_in_nI (by omega) (by decide)) dX1_countOf_12 ?_
        rw [show ((nI i)).toNatClampNeg = i from nI_clamp (by omega)]
        refine lv_if_eq (tgt := 20) hx hb dX1_countOf_13 rfl (fun h2 => ?_) (fun h2 => ?_)
        · skip
          refine lv_iconst (v := 0) hx hb dX1_countOf_20 (by decide) ?_
          refine lv_iadd hx hb dX1_countOf_21 ?_
          refine lv_istore_n hx hb dX1_countOf_22 rfl hl (by decide) rfl (fun ls hl => ?_)
          have hl : lv_has ls 4 [(2, .int (a + 0)), (0, .ref (B 3)), (1, .int 11520), (3, .int (nI i))] := hl
          refine lv_iinc (k := 3) (v := (nI (i + 1))) hx hb dX1_countOf_23 hl rfl (nI_1 i) (by decide) rfl (fun ls hl => ?_)
          have hl : lv_has ls 4 [(3, .int (nI (i + 1))), (2, .int (a + 0)), (0, .ref (B 3)), (1, .int 11520)] := hl
          refine lv_goto (tgt := 4) hx hb dX1_countOf_26 rfl ?_
          refine ih (i + 1) _ ls (by omega) (lv_sub hl [2, 3, 1, 0] rfl) ?_
          rw [← hF, g_cnt, if_pos h2]
        · skip
          refine lv_iconst (v := 1) hx hb dX1_countOf_16 (by decide) ?_
          refine lv_goto (tgt := 21) hx hb dX1_countOf_17 rfl ?_
          refine lv_iadd hx hb dX1_countOf_21 ?_
          refine lv_istore_n hx hb dX1_countOf_22 rfl hl (by decide) rfl (fun ls hl => ?_)
          have hl : lv_has ls 4 [(2, .int (a + 1)), (0, .ref (B 3)), (1, .int 11520), (3, .int (nI i))] := hl
          refine lv_iinc (k := 3) (v := (nI (i + 1))) hx hb dX1_countOf_23 hl rfl (nI_1 i) (by decide) rfl (fun ls hl => ?_)
          have hl : lv_has ls 4 [(3, .int (nI (i + 1))), (2, .int (a + 1)), (0, .ref (B 3)), (1, .int 11520)] := hl
          refine lv_goto (tgt := 4) hx hb dX1_countOf_26 rfl ?_
          refine ih (i + 1) _ ls (by omega) (lv_sub hl [2, 3, 1, 0] rfl) ?_
          rw [← hF, g_cnt, if_neg h2]
  exact loop 11520 0 0 ls rfl hl rfl
set_option maxRecDepth 100000 in
theorem ck1_countOf3 {p : Program} {l : Launch} {e : Env} {R : Room} {s : State} {m : MethodId} {args : Array Value} {below : List Frame} {meth : Method} {c : Code} {H : Heap} {locs : List Loc} {cells slots : Nat} {Q : State → Prop} {cc : ByteArray} {nL pc : Nat} {ls : Array Slot} {rest : List Value} {dC : Nat → ClassId} {dI : Nat → Nat → Nat} {B : Nat → Nat} {cI : ClassId} {cZ : ClassId} {μ : NS} (hx : p.tables.exec = Jvm.exec) (hb : c.code = cc) (hml : c.maxLocals = nL) (hown : s.vm.findClass RX1 = some m.cls) (hB : ∀ w ∈ bX1, w.before args s = true) (hsz : ls.size = nL) (hP : va_P (dC, dI) vwCl (wN B cI cZ μ) H) (hK : va_K (dC, dI) vwCl [(cI, .int), (cZ, .boolean)] s)  (hd : decode cc pc = .ok (.invokestatic 155, 3)) (hF : 1 ≤ R.frames) (hLo : 23 ≤ R.locals) (hc : cells ≤ R.cells ∧ slots ≤ R.slots) (hst : (rest.map fun v => v.category).sum ≤ 8)
    (kk : W p l e R s m args below meth c H locs cells slots Q (F0 m (pc + 3) ls (.int (g_cnt (nLc μ) 11520 0 0) :: rest))) : W p l e R s m args below meth c H locs cells slots Q (F0 m pc ls (.int 11520 :: .ref (B 3) :: rest)) := by
  refine W.callR (W.runS (As := [.ref (B 3), .int 11520]) (rest := rest) ⟨hx, hb, hml, hown, hB⟩ (cm1_countOf3 l dC dI B cI cZ μ) (cwS 2 hB goX1_countOf rfl rfl rfl ⟨rfl, by decide, by decide, by decide +kernel⟩ ⟨hF, hLo⟩) ⟨fun a U g mk q => by obtain ⟨q9, qP, qK⟩ := q; exact ⟨q9, qP, va_K.moved (u := U) (U := U.calling g mk a) (Vm.Alike.refl U.vm) qK⟩, fun U hU hW => ⟨rfl, by rw [hU]; exact hP, va_K.moved hW.alike hK⟩⟩ rfl rfl hsz rfl (lv_room hst) hd hc) kk
set_option maxHeartbeats 4000000 in
set_option maxRecDepth 100000 in
theorem cm1_thrown (l : Launch) (dC : Nat → ClassId) (dI : Nat → Nat → Nat) (B : Nat → Nat) (cI : ClassId) (cZ : ClassId) (μ : NS) : Met l yX1_thrown wsX1_thrown (rk 0) (va_Pc [.ref (B 0)] (fun U => va_P (dC, dI) vwCl (wN B cI cZ μ) U.heap ∧ va_K (dC, dI) vwCl [(cI, .int), (cZ, .boolean)] U)) (QcRead (nTh μ)) 0 0 (fun _ => False) := by
  refine Met.ofW (cc := cX1_thrown) (maxL := 1) (ret := (some .int)) (by decide) rfl ?_
  intro p e s m args below meth c s₁ Bd hml hv
  obtain ⟨rfl, hP, hK⟩ := hv
  have hx := Bd.exec
  have hb := Bd.bytes
  have hr := Bd.returns
  have hB : ∀ w ∈ bX1, w.before _ s = true := fun w h => atoms_spec (ws := wsX1_thrown) Bd.pre w (List.mem_cons_of_mem _ h)
  have hown : s.vm.findClass RX1 = some m.cls := findClass_of_methodNamed Bd.named
  have hlocks := Bd.notSynchronized
  have hl := lv_entry ([.ref (B 0)]) (n := 1) (Nat.le_of_ble_eq_true rfl)
  rw [lg_entry_eq]
  generalize (lg_sl ([.ref (B 0)]) ++ List.replicate (1 - (lg_sl ([.ref (B 0)])).length) Slot.unset).toArray = ls at hl ⊢
  have hl : lv_has ls 1 [(0, .ref (B 0))] := hl
  refine lv_aload_n hx hb dX1_thrown_0 rfl (lv_at hl 0 rfl) ?_
  refine va_get (D := (dC, dI)) (ci := 1) (v := .int (nTh μ)) (C := RX1) (T := TX1) (N := 12) hx hb hB inX1 hown hK hP 0 rfl rfl 0 (by decide) (hB _ mX1_f_thrown) (fun _ h9 => h9) rfl dX1_thrown_1 ?_
  exact W.iret (v := (nTh μ)) hx hb hr (fun t ht _ => ⟨congrArg (fun z => Outcome.returned (some (Value.int z))) (rfl), ht⟩) (fun q h => by cases h) dX1_thrown_4
set_option maxHeartbeats 4000000 in
set_option maxRecDepth 100000 in
theorem cm1_put (l : Launch) (dC : Nat → ClassId) (dI : Nat → Nat → Nat) (B : Nat → Nat) (cI : ClassId) (cZ : ClassId) (μ : NS) (sz : Nat) (key : Int32) (v : Int32) : Met l yX1_put wsX1_put (rk 6) (va_Pc [.ref (B 0), .int key, .int v] (nPre (dC, dI) B cI cZ μ sz)) (va_Qi (fun r u => r = hr_put μ key v ∧ u = hs_put μ key v) (nB (dC, dI) B cI cZ (nX B cI cZ μ sz)) (nX B cI cZ μ sz)) 0 0 (nX B cI cZ μ sz) := by
  refine Met.ofW (cc := cX1_put) (maxL := 5) (ret := (some .int)) (by decide) rfl ?_
  intro p e s m args below meth c s₁ Bd hml hv
  obtain ⟨rfl, hsz, hP, hK, hD0⟩ := hv
  have hx := Bd.exec
  have hb := Bd.bytes
  have hr := Bd.returns
  have hB : ∀ w ∈ bX1, w.before _ s = true := fun w h => atoms_spec (ws := wsX1_put) Bd.pre w (List.mem_cons_of_mem _ h)
  have hown : s.vm.findClass RX1 = some m.cls := findClass_of_methodNamed Bd.named
  have hlocks := Bd.notSynchronized
  subst hsz
  have hD : va_D (nX B cI cZ μ s.heap.size) (wN B cI cZ μ) := hD0.self (sz := s.heap.size)
  have hA : ∀ q : Nat, s.heap.size ≤ q → nX B cI cZ μ s.heap.size q := fun q h => Or.inr h
  generalize nX B cI cZ μ s.heap.size = AA at hD hA ⊢
  have hS : va_S AA s.heap s.heap [] := va_S.rf
  have hl := lv_entry ([.ref (B 0), .int key, .int v]) (n := 5) (Nat.le_of_ble_eq_true rfl)
  rw [lg_entry_eq]
  generalize (lg_sl ([.ref (B 0), .int key, .int v]) ++ List.replicate (5 - (lg_sl ([.ref (B 0), .int key, .int v])).length) Slot.unset).toArray = ls at hl ⊢
  have hl : lv_has ls 5 [(0, .ref (B 0)), (1, .int key), (2, .int v)] := hl
  refine lv_aload_n hx hb dX1_put_0 rfl (lv_at hl 0 rfl) ?_
  refine lv_iload_n hx hb dX1_put_1 rfl (lv_at hl 1 rfl) ?_
  refine ck1_isKey hx hb hml hown hB hl.1  dX1_put_2 (Nat.le_of_ble_eq_true rfl) (Nat.le_of_ble_eq_true rfl) ⟨Nat.zero_le _, Nat.zero_le _⟩ (Nat.le_of_ble_eq_true rfl) ?_
  refine lv_if_eq (tgt := 15) hx hb dX1_put_5 rfl (fun h1 => ?_) (fun h1 => ?_)
  · skip
    have hka : k_args key v = false := by simp [k_args, bI_0.mp h1]
    refine lv_iconst (v := 1) hx hb dX1_put_15 (by decide) ?_
    refine lv_goto (tgt := 38) hx hb dX1_put_16 rfl ?_
    have hk : hk_put μ key v = 1 := by rw [hk_put, if_pos hka]
    have hkn : ¬ hk_put μ key v = 0 := by rw [hk]; decide
    refine va_put (D := (dC, dI)) (ci := 1) (v := .int 1) (ty := .int) (C := RX1) (T := TX1) (N := 12) hx hb hB inX1 tyX1 tyX1_ok nmX1 hown hK hP hD hS 0 rfl rfl 0 (by decide) (hB _ mX1_f_thrown) (fun _ h9 => h9) rfl (by decide +kernel) rfl rfl (Nat.le_of_ble_eq_true rfl) dX1_put_38 (fun H locs hP hD hS => ?_)
    have hP : va_P (dC, dI) vwCl (wN B cI cZ (mkN (1) (nWc μ) (nTc μ) (nLc μ) (nWr μ) (nOf μ) (nUn μ) (nOp μ) (nSt μ) (nKs μ) (nVs μ) (nTs μ))) H := hP
    have hD : va_D AA (wN B cI cZ (mkN (1) (nWc μ) (nTc μ) (nLc μ) (nWr μ) (nOf μ) (nUn μ) (nOp μ) (nSt μ) (nKs μ) (nVs μ) (nTs μ))) := hD
    refine lv_aload_n hx hb dX1_put_41 rfl (lv_at hl 0 rfl) ?_
    refine va_get (D := (dC, dI)) (ci := 1) (v := .int (1)) (C := RX1) (T := TX1) (N := 12) hx hb hB inX1 hown hK hP 0 rfl rfl 0 (by decide) (hB _ mX1_f_thrown) (fun _ h9 => h9) rfl dX1_put_42 ?_
    refine lv_if_eq (tgt := 50) hx hb dX1_put_45 rfl (fun h9 => ?_) (fun h9 => ?_)
    · skip
      exact absurd h9 (by decide)
    · skip
      refine lv_iconst (v := 0) hx hb dX1_put_48 (by decide) ?_
      exact W.iret (v := 0) hx hb hr (fun t ht hW => ⟨⟨0, mkN (1) (nWc μ) (nTc μ) (nLc μ) (nWr μ) (nOf μ) (nUn μ) (nOp μ) (nSt μ) (nKs μ) (nVs μ) (nTs μ), rfl, ⟨by rw [hr_put, if_pos hkn], by rw [hs_put, if_pos hkn, hk]⟩, by rw [ht]; exact hP, va_K.moved hW.alike hK, hD⟩, hS.F ht⟩) hS.2.2 dX1_put_49
  · skip
    refine lv_iload_n hx hb dX1_put_8 rfl (lv_at hl 2 rfl) ?_
    refine ck1_isValue hx hb hml hown hB hl.1  dX1_put_9 (Nat.le_of_ble_eq_true rfl) (Nat.le_of_ble_eq_true rfl) ⟨Nat.zero_le _, Nat.zero_le _⟩ (Nat.le_of_ble_eq_true rfl) ?_
    refine lv_if_ne (tgt := 19) hx hb dX1_put_12 rfl (fun h2 => ?_) (fun h2 => ?_)
    · skip
      have hka : k_args key v = true := by simp [k_args, bI_n0.mp h1, bI_n0.mp h2]
      refine lv_aload_n hx hb dX1_put_19 rfl (lv_at hl 0 rfl) ?_
      refine va_get (D := (dC, dI)) (ci := 1) (v := .int (nOf μ)) (C := RX1) (T := TX1) (N := 12) hx hb hB inX1 hown hK hP 0 rfl rfl 5 (by decide) (hB _ mX1_f_off) (fun _ h9 => h9) rfl dX1_put_20 ?_
      refine lv_if_ne (tgt := 33) hx hb dX1_put_23 rfl (fun h3 => ?_) (fun h3 => ?_)
      · skip
        refine lv_iconst (v := 2) hx hb dX1_put_33 (by decide) ?_
        refine lv_goto (tgt := 38) hx hb dX1_put_34 rfl ?_
        have hk : hk_put μ key v = 2 := by rw [hk_put, if_neg (by rw [hka]; decide), if_pos (Or.inl h3)]
        have hkn : ¬ hk_put μ key v = 0 := by rw [hk]; decide
        refine va_put (D := (dC, dI)) (ci := 1) (v := .int 2) (ty := .int) (C := RX1) (T := TX1) (N := 12) hx hb hB inX1 tyX1 tyX1_ok nmX1 hown hK hP hD hS 0 rfl rfl 0 (by decide) (hB _ mX1_f_thrown) (fun _ h9 => h9) rfl (by decide +kernel) rfl rfl (Nat.le_of_ble_eq_true rfl) dX1_put_38 (fun H locs hP hD hS => ?_)
        have hP : va_P (dC, dI) vwCl (wN B cI cZ (mkN (2) (nWc μ) (nTc μ) (nLc μ) (nWr μ) (nOf μ) (nUn μ) (nOp μ) (nSt μ) (nKs μ) (nVs μ) (nTs μ))) H := hP
        have hD : va_D AA (wN B cI cZ (mkN (2) (nWc μ) (nTc μ) (nLc μ) (nWr μ) (nOf μ) (nUn μ) (nOp μ) (nSt μ) (nKs μ) (nVs μ) (nTs μ))) := hD
        refine lv_aload_n hx hb dX1_put_41 rfl (lv_at hl 0 rfl) ?_
        refine va_get (D := (dC, dI)) (ci := 1) (v := .int (2)) (C := RX1) (T := TX1) (N := 12) hx hb hB inX1 hown hK hP 0 rfl rfl 0 (by decide) (hB _ mX1_f_thrown) (fun _ h9 => h9) rfl dX1_put_42 ?_
        refine lv_if_eq (tgt := 50) hx hb dX1_put_45 rfl (fun h9 => ?_) (fun h9 => ?_)
        · skip
          exact absurd h9 (by decide)
        · skip
          refine lv_iconst (v := 0) hx hb dX1_put_48 (by decide) ?_
          exact W.iret (v := 0) hx hb hr (fun t ht hW => ⟨⟨0, mkN (2) (nWc μ) (nTc μ) (nLc μ) (nWr μ) (nOf μ) (nUn μ) (nOp μ) (nSt μ) (nKs μ) (nVs μ) (nTs μ), rfl, ⟨by rw [hr_put, if_pos hkn], by rw [hs_put, if_pos hkn, hk]⟩, by rw [ht]; exact hP, va_K.moved hW.alike hK, hD⟩, hS.F ht⟩) hS.2.2 dX1_put_49
      · skip
        refine lv_aload_n hx hb dX1_put_26 rfl (lv_at hl 0 rfl) ?_
        refine va_get (D := (dC, dI)) (ci := 1) (v := .int (nOp μ)) (C := RX1) (T := TX1) (N := 12) hx hb hB inX1 hown hK hP 0 rfl rfl 7 (by decide) (hB _ mX1_f_open) (fun _ h9 => h9) rfl dX1_put_27 ?_
        refine lv_if_eq (tgt := 37) hx hb dX1_put_30 rfl (fun h4 => ?_) (fun h4 => ?_)
        · skip
          refine lv_iconst (v := 0) hx hb dX1_put_37 (by decide) ?_
          have hk : hk_put μ key v = 0 := by rw [hk_put, if_neg (by rw [hka]; decide), if_neg (fun h => h.elim (fun z => z h3) (fun z => z h4))]
          have hkn : ¬ ¬ hk_put μ key v = 0 := fun h => h hk
          refine va_put (D := (dC, dI)) (ci := 1) (v := .int 0) (ty := .int) (C := RX1) (T := TX1) (N := 12) hx hb hB inX1 tyX1 tyX1_ok nmX1 hown hK hP hD hS 0 rfl rfl 0 (by decide) (hB _ mX1_f_thrown) (fun _ h9 => h9) rfl (by decide +kernel) rfl rfl (Nat.le_of_ble_eq_true rfl) dX1_put_38 (fun H locs hP hD hS => ?_)
          have hP : va_P (dC, dI) vwCl (wN B cI cZ (mkN (0) (nWc μ) (nTc μ) (nLc μ) (nWr μ) (nOf μ) (nUn μ) (nOp μ) (nSt μ) (nKs μ) (nVs μ) (nTs μ))) H := hP
          have hD : va_D AA (wN B cI cZ (mkN (0) (nWc μ) (nTc μ) (nLc μ) (nWr μ) (nOf μ) (nUn μ) (nOp μ) (nSt μ) (nKs μ) (nVs μ) (nTs μ))) := hD
          refine lv_aload_n hx hb dX1_put_41 rfl (lv_at hl 0 rfl) ?_
          refine va_get (D := (dC, dI)) (ci := 1) (v := .int (0)) (C := RX1) (T := TX1) (N := 12) hx hb hB inX1 hown hK hP 0 rfl rfl 0 (by decide) (hB _ mX1_f_thrown) (fun _ h9 => h9) rfl dX1_put_42 ?_
          refine lv_if_eq (tgt := 50) hx hb dX1_put_45 rfl (fun h9 => ?_) (fun h9 => ?_)
          · skip
            refine lv_aload_n hx hb dX1_put_50 rfl (lv_at hl 0 rfl) ?_
            refine va_get (D := (dC, dI)) (ci := 1) (v := .int (nWr μ)) (C := RX1) (T := TX1) (N := 12) hx hb hB inX1 hown hK hP 0 rfl rfl 4 (by decide) (hB _ mX1_f_writes) (fun _ h9 => h9) rfl dX1_put_51 ?_
            refine lv_istore_n hx hb dX1_put_54 rfl hl (by decide) rfl (fun ls hl => ?_)
            have hl : lv_has ls 5 [(3, .int (nWr μ)), (0, .ref (B 0)), (1, .int key), (2, .int v)] := hl
            refine lv_aload_n hx hb dX1_put_55 rfl (lv_at hl 1 rfl) ?_
            refine lv_iload_n hx hb dX1_put_56 rfl (lv_at hl 2 rfl) ?_
            refine lv_iload_n hx hb dX1_put_57 rfl (lv_at hl 3 rfl) ?_
            refine lv_iconst (v := 0) hx hb dX1_put_58 (by decide) ?_
            refine ck1_taker (fr := 0) hx hb hml hown hB hl.1 hP hK (Nat.zero_le _) dX1_put_59 (Nat.le_of_ble_eq_true rfl) (Nat.le_of_ble_eq_true rfl) ⟨Nat.zero_le _, Nat.zero_le _⟩ (Nat.le_of_ble_eq_true rfl) ?_
            refine lv_istore hx hb dX1_put_62 hl (by decide) rfl (fun ls hl => ?_)
            have hl : lv_has ls 5 [(4, .int (g_take (nWc μ) (nTc μ) key v 0)), (3, .int (nWr μ)), (0, .ref (B 0)), (1, .int key), (2, .int v)] := hl
            refine lv_iload hx hb dX1_put_64 (lv_at hl 0 rfl) ?_
            refine lv_if_ge (tgt := 71) hx hb dX1_put_66 rfl (fun h5 => ?_) (fun h5 => ?_)
            · skip
              obtain ⟨k, hk1, ek⟩ := (g_take_in (nWc μ) (nTc μ) key v 0 (Nat.zero_le _)).resolve_left (fun h => absurd h5 (by rw [h]; decide))
              have ekc : (g_take (nWc μ) (nTc μ) key v 0).toNatClampNeg = k := by rw [ek]; exact nI_clamp (by omega)
              have hs : hs_put μ key v = g_perf (h_th μ 0) k key v := by rw [hs_put, if_neg hkn, if_pos h5, ekc, hk]
              rw [ek] at hl
              refine lv_aload_n hx hb dX1_put_71 rfl (lv_at hl 2 rfl) ?_
              refine lv_iload hx hb dX1_put_72 (lv_at hl 0 rfl) ?_
              refine lv_iload_n hx hb dX1_put_74 rfl (lv_at hl 3 rfl) ?_
              refine lv_iload_n hx hb dX1_put_75 rfl (lv_at hl 4 rfl) ?_
              refine ck1_perform hx hb hml hown hB hl.1 hP hK hD hS hA hk1 dX1_put_76 (Nat.le_of_ble_eq_true rfl) (Nat.le_of_ble_eq_true rfl) ⟨Nat.zero_le _, Nat.zero_le _⟩ (Nat.le_of_ble_eq_true rfl) (fun H locs hP hD hS => ?_)
              refine lv_aload_n hx hb dX1_put_79 rfl (lv_at hl 2 rfl) ?_
              refine va_get (D := (dC, dI)) (ci := 1) (v := .int (nOf (g_perf (h_th μ 0) k key v))) (C := RX1) (T := TX1) (N := 12) hx hb hB inX1 hown hK hP 0 rfl rfl 5 (by decide) (hB _ mX1_f_off) (fun _ h9 => h9) rfl dX1_put_80 ?_
              refine lv_if_eq (tgt := 91) hx hb dX1_put_83 rfl (fun h6 => ?_) (fun h6 => ?_)
              · skip
                refine lv_aload_n hx hb dX1_put_91 rfl (lv_at hl 2 rfl) ?_
                refine va_get (D := (dC, dI)) (ci := 1) (v := .int (nWr (g_perf (h_th μ 0) k key v))) (C := RX1) (T := TX1) (N := 12) hx hb hB inX1 hown hK hP 0 rfl rfl 4 (by decide) (hB _ mX1_f_writes) (fun _ h9 => h9) rfl dX1_put_92 ?_
                refine lv_iload_n hx hb dX1_put_95 rfl (lv_at hl 1 rfl) ?_
                refine lv_isub hx hb dX1_put_96 ?_
                exact W.iret (v := ((nWr (g_perf (h_th μ 0) k key v)) - (nWr μ))) hx hb hr (fun t ht hW => ⟨⟨((nWr (g_perf (h_th μ 0) k key v)) - (nWr μ)), g_perf (h_th μ 0) k key v, rfl, ⟨by rw [hr_put, if_neg hkn, if_pos h5, hs, if_pos h6], hs.symm⟩, by rw [ht]; exact hP, va_K.moved hW.alike hK, hD⟩, hS.F ht⟩) hS.2.2 dX1_put_97
              · skip
                refine lv_bipush (v := (-2)) hx hb dX1_put_86 (by decide) ?_
                refine lv_goto (tgt := 97) hx hb dX1_put_88 rfl ?_
                exact W.iret (v := (-2)) hx hb hr (fun t ht hW => ⟨⟨(-2), g_perf (h_th μ 0) k key v, rfl, ⟨by rw [hr_put, if_neg hkn, if_pos h5, hs, if_neg h6], hs.symm⟩, by rw [ht]; exact hP, va_K.moved hW.alike hK, hD⟩, hS.F ht⟩) hS.2.2 dX1_put_97
            · skip
              refine lv_iconst (v := (-1)) hx hb dX1_put_69 (by decide) ?_
              exact W.iret (v := (-1)) hx hb hr (fun t ht hW => ⟨⟨(-1), mkN (0) (nWc μ) (nTc μ) (nLc μ) (nWr μ) (nOf μ) (nUn μ) (nOp μ) (nSt μ) (nKs μ) (nVs μ) (nTs μ), rfl, ⟨by rw [hr_put, if_neg hkn, if_neg h5], by rw [hs_put, if_neg hkn, if_neg h5, hk]⟩, by rw [ht]; exact hP, va_K.moved hW.alike hK, hD⟩, hS.F ht⟩) hS.2.2 dX1_put_70
          · skip
            exact absurd rfl h9
        · skip
          refine lv_iconst (v := 2) hx hb dX1_put_33 (by decide) ?_
          refine lv_goto (tgt := 38) hx hb dX1_put_34 rfl ?_
          have hk : hk_put μ key v = 2 := by rw [hk_put, if_neg (by rw [hka]; decide), if_pos (Or.inr h4)]
          have hkn : ¬ hk_put μ key v = 0 := by rw [hk]; decide
          refine va_put (D := (dC, dI)) (ci := 1) (v := .int 2) (ty := .int) (C := RX1) (T := TX1) (N := 12) hx hb hB inX1 tyX1 tyX1_ok nmX1 hown hK hP hD hS 0 rfl rfl 0 (by decide) (hB _ mX1_f_thrown) (fun _ h9 => h9) rfl (by decide +kernel) rfl rfl (Nat.le_of_ble_eq_true rfl) dX1_put_38 (fun H locs hP hD hS => ?_)
          have hP : va_P (dC, dI) vwCl (wN B cI cZ (mkN (2) (nWc μ) (nTc μ) (nLc μ) (nWr μ) (nOf μ) (nUn μ) (nOp μ) (nSt μ) (nKs μ) (nVs μ) (nTs μ))) H := hP
          have hD : va_D AA (wN B cI cZ (mkN (2) (nWc μ) (nTc μ) (nLc μ) (nWr μ) (nOf μ) (nUn μ) (nOp μ) (nSt μ) (nKs μ) (nVs μ) (nTs μ))) := hD
          refine lv_aload_n hx hb dX1_put_41 rfl (lv_at hl 0 rfl) ?_
          refine va_get (D := (dC, dI)) (ci := 1) (v := .int (2)) (C := RX1) (T := TX1) (N := 12) hx hb hB inX1 hown hK hP 0 rfl rfl 0 (by decide) (hB _ mX1_f_thrown) (fun _ h9 => h9) rfl dX1_put_42 ?_
          refine lv_if_eq (tgt := 50) hx hb dX1_put_45 rfl (fun h9 => ?_) (fun h9 => ?_)
          · skip
            exact absurd h9 (by decide)
          · skip
            refine lv_iconst (v := 0) hx hb dX1_put_48 (by decide) ?_
            exact W.iret (v := 0) hx hb hr (fun t ht hW => ⟨⟨0, mkN (2) (nWc μ) (nTc μ) (nLc μ) (nWr μ) (nOf μ) (nUn μ) (nOp μ) (nSt μ) (nKs μ) (nVs μ) (nTs μ), rfl, ⟨by rw [hr_put, if_pos hkn], by rw [hs_put, if_pos hkn, hk]⟩, by rw [ht]; exact hP, va_K.moved hW.alike hK, hD⟩, hS.F ht⟩) hS.2.2 dX1_put_49
    · skip
      have hka : k_args key v = false := by simp [k_args, bI_0.mp h2]
      refine lv_iconst (v := 1) hx hb dX1_put_15 (by decide) ?_
      refine lv_goto (tgt := 38) hx hb dX1_put_16 rfl ?_
      have hk : hk_put μ key v = 1 := by rw [hk_put, if_pos hka]
      have hkn : ¬ hk_put μ key v = 0 := by rw [hk]; decide
      refine va_put (D := (dC, dI)) (ci := 1) (v := .int 1) (ty := .int) (C := RX1) (T := TX1) (N := 12) hx hb hB inX1 tyX1 tyX1_ok nmX1 hown hK hP hD hS 0 rfl rfl 0 (by decide) (hB _ mX1_f_thrown) (fun _ h9 => h9) rfl (by decide +kernel) rfl rfl (Nat.le_of_ble_eq_true rfl) dX1_put_38 (fun H locs hP hD hS => ?_)
      have hP : va_P (dC, dI) vwCl (wN B cI cZ (mkN (1) (nWc μ) (nTc μ) (nLc μ) (nWr μ) (nOf μ) (nUn μ) (nOp μ) (nSt μ) (nKs μ) (nVs μ) (nTs μ))) H := hP
      have hD : va_D AA (wN B cI cZ (mkN (1) (nWc μ) (nTc μ) (nLc μ) (nWr μ) (nOf μ) (nUn μ) (nOp μ) (nSt μ) (nKs μ) (nVs μ) (nTs μ))) := hD
      refine lv_aload_n hx hb dX1_put_41 rfl (lv_at hl 0 rfl) ?_
      refine va_get (D := (dC, dI)) (ci := 1) (v := .int (1)) (C := RX1) (T := TX1) (N := 12) hx hb hB inX1 hown hK hP 0 rfl rfl 0 (by decide) (hB _ mX1_f_thrown) (fun _ h9 => h9) rfl dX1_put_42 ?_
      refine lv_if_eq (tgt := 50) hx hb dX1_put_45 rfl (fun h9 => ?_) (fun h9 => ?_)
      · skip
        exact absurd h9 (by decide)
      · skip
        refine lv_iconst (v := 0) hx hb dX1_put_48 (by decide) ?_
        exact W.iret (v := 0) hx hb hr (fun t ht hW => ⟨⟨0, mkN (1) (nWc μ) (nTc μ) (nLc μ) (nWr μ) (nOf μ) (nUn μ) (nOp μ) (nSt μ) (nKs μ) (nVs μ) (nTs μ), rfl, ⟨by rw [hr_put, if_pos hkn], by rw [hs_put, if_pos hkn, hk]⟩, by rw [ht]; exact hP, va_K.moved hW.alike hK, hD⟩, hS.F ht⟩) hS.2.2 dX1_put_49
set_option maxHeartbeats 4000000 in
set_option maxRecDepth 100000 in
theorem cm1_get (l : Launch) (dC : Nat → ClassId) (dI : Nat → Nat → Nat) (B : Nat → Nat) (cI : ClassId) (cZ : ClassId) (μ : NS) (sz : Nat) (key : Int32) : Met l yX1_get wsX1_get (rk 6) (va_Pc [.ref (B 0), .int key] (nPre (dC, dI) B cI cZ μ sz)) (va_Qi (fun r u => r = hr_get μ key ∧ u = h_th μ (hk_get μ key)) (nB (dC, dI) B cI cZ (nX B cI cZ μ sz)) (nX B cI cZ μ sz)) 0 0 (nX B cI cZ μ sz) := by
  refine Met.ofW (cc := cX1_get) (maxL := 3) (ret := (some .int)) (by decide) rfl ?_
  intro p e s m args below meth c s₁ Bd hml hv
  obtain ⟨rfl, hsz, hP, hK, hD0⟩ := hv
  have hx := Bd.exec
  have hb := Bd.bytes
  have hr := Bd.returns
  have hB : ∀ w ∈ bX1, w.before _ s = true := fun w h => atoms_spec (ws := wsX1_get) Bd.pre w (List.mem_cons_of_mem _ h)
  have hown : s.vm.findClass RX1 = some m.cls := findClass_of_methodNamed Bd.named
  have hlocks := Bd.notSynchronized
  subst hsz
  have hD : va_D (nX B cI cZ μ s.heap.size) (wN B cI cZ μ) := hD0.self (sz := s.heap.size)
  have hA : ∀ q : Nat, s.heap.size ≤ q → nX B cI cZ μ s.heap.size q := fun q h => Or.inr h
  generalize nX B cI cZ μ s.heap.size = AA at hD hA ⊢
  have hS : va_S AA s.heap s.heap [] := va_S.rf
  have hl := lv_entry ([.ref (B 0), .int key]) (n := 3) (Nat.le_of_ble_eq_true rfl)
  rw [lg_entry_eq]
  generalize (lg_sl ([.ref (B 0), .int key]) ++ List.replicate (3 - (lg_sl ([.ref (B 0), .int key])).length) Slot.unset).toArray = ls at hl ⊢
  have hl : lv_has ls 3 [(0, .ref (B 0)), (1, .int key)] := hl
  refine lv_aload_n hx hb dX1_get_0 rfl (lv_at hl 0 rfl) ?_
  refine lv_iload_n hx hb dX1_get_1 rfl (lv_at hl 1 rfl) ?_
  refine ck1_isKey hx hb hml hown hB hl.1  dX1_get_2 (Nat.le_of_ble_eq_true rfl) (Nat.le_of_ble_eq_true rfl) ⟨Nat.zero_le _, Nat.zero_le _⟩ (Nat.le_of_ble_eq_true rfl) ?_
  refine lv_if_ne (tgt := 12) hx hb dX1_get_5 rfl (fun h1 => ?_) (fun h1 => ?_)
  · skip
    have hka : ¬ f_below key 64 = false := by rw [bI_n0.mp h1]; decide
    refine lv_aload_n hx hb dX1_get_12 rfl (lv_at hl 0 rfl) ?_
    refine va_get (D := (dC, dI)) (ci := 1) (v := .int (nOf μ)) (C := RX1) (T := TX1) (N := 12) hx hb hB inX1 hown hK hP 0 rfl rfl 5 (by decide) (hB _ mX1_f_off) (fun _ h9 => h9) rfl dX1_get_13 ?_
    refine lv_if_eq (tgt := 23) hx hb dX1_get_16 rfl (fun h3 => ?_) (fun h3 => ?_)
    · skip
      refine lv_iconst (v := 0) hx hb dX1_get_23 (by decide) ?_
      have hk : hk_get μ key = 0 := by rw [hk_get, if_neg hka, if_neg (fun h => h h3)]
      have hkn : ¬ ¬ hk_get μ key = 0 := fun h => h hk
      refine va_put (D := (dC, dI)) (ci := 1) (v := .int 0) (ty := .int) (C := RX1) (T := TX1) (N := 12) hx hb hB inX1 tyX1 tyX1_ok nmX1 hown hK hP hD hS 0 rfl rfl 0 (by decide) (hB _ mX1_f_thrown) (fun _ h9 => h9) rfl (by decide +kernel) rfl rfl (Nat.le_of_ble_eq_true rfl) dX1_get_24 (fun H locs hP hD hS => ?_)
      have hP : va_P (dC, dI) vwCl (wN B cI cZ (mkN (0) (nWc μ) (nTc μ) (nLc μ) (nWr μ) (nOf μ) (nUn μ) (nOp μ) (nSt μ) (nKs μ) (nVs μ) (nTs μ))) H := hP
      have hD : va_D AA (wN B cI cZ (mkN (0) (nWc μ) (nTc μ) (nLc μ) (nWr μ) (nOf μ) (nUn μ) (nOp μ) (nSt μ) (nKs μ) (nVs μ) (nTs μ))) := hD
      refine lv_aload_n hx hb dX1_get_27 rfl (lv_at hl 0 rfl) ?_
      refine va_get (D := (dC, dI)) (ci := 1) (v := .int (0)) (C := RX1) (T := TX1) (N := 12) hx hb hB inX1 hown hK hP 0 rfl rfl 0 (by decide) (hB _ mX1_f_thrown) (fun _ h9 => h9) rfl dX1_get_28 ?_
      refine lv_if_eq (tgt := 36) hx hb dX1_get_31 rfl (fun h9 => ?_) (fun h9 => ?_)
      · skip
        refine lv_aload_n hx hb dX1_get_36 rfl (lv_at hl 0 rfl) ?_
        refine lv_iload_n hx hb dX1_get_37 rfl (lv_at hl 1 rfl) ?_
        refine ck1_present hx hb hml hown hB hl.1 hP hK dX1_get_38 (Nat.le_of_ble_eq_true rfl) (Nat.le_of_ble_eq_true rfl) ⟨Nat.zero_le _, Nat.zero_le _⟩ (Nat.le_of_ble_eq_true rfl) ?_
        refine lv_istore_n hx hb dX1_get_41 rfl hl (by decide) rfl (fun ls hl => ?_)
        have hl : lv_has ls 3 [(2, .int (g_pres (nTc μ) key 160)), (0, .ref (B 0)), (1, .int key)] := hl
        refine lv_iload_n hx hb dX1_get_42 rfl (lv_at hl 0 rfl) ?_
        refine lv_if_ge (tgt := 50) hx hb dX1_get_43 rfl (fun h5 => ?_) (fun h5 => ?_)
        · skip
          obtain ⟨k, hk1, ek, -⟩ := (g_pres_in (nTc μ) key 160 (Nat.le_refl _)).resolve_left (fun h => absurd h5 (by rw [h]; decide))
          have ekc : (g_pres (nTc μ) key 160).toNatClampNeg = k := by rw [ek]; exact nI_clamp (by omega)
          rw [ek] at hl
          refine lv_aload_n hx hb dX1_get_50 rfl (lv_at hl 1 rfl) ?_
          refine lv_iload_n hx hb dX1_get_51 rfl (lv_at hl 0 rfl) ?_
          refine ck1_valueOf hx hb hml hown hB hl.1 hP hK hk1 dX1_get_52 (Nat.le_of_ble_eq_true rfl) (Nat.le_of_ble_eq_true rfl) ⟨Nat.zero_le _, Nat.zero_le _⟩ (Nat.le_of_ble_eq_true rfl) ?_
          exact W.iret (v := (g_val (nWc μ) k)) hx hb hr (fun t ht hW => ⟨⟨(g_val (nWc μ) k), mkN (0) (nWc μ) (nTc μ) (nLc μ) (nWr μ) (nOf μ) (nUn μ) (nOp μ) (nSt μ) (nKs μ) (nVs μ) (nTs μ), rfl, ⟨by rw [hr_get, if_neg hkn, if_pos h5, ekc], by rw [hk]⟩, by rw [ht]; exact hP, va_K.moved hW.alike hK, hD⟩, hS.F ht⟩) hS.2.2 dX1_get_55
        · skip
          refine lv_iconst (v := (-1)) hx hb dX1_get_46 (by decide) ?_
          refine lv_goto (tgt := 55) hx hb dX1_get_47 rfl ?_
          exact W.iret (v := (-1)) hx hb hr (fun t ht hW => ⟨⟨(-1), mkN (0) (nWc μ) (nTc μ) (nLc μ) (nWr μ) (nOf μ) (nUn μ) (nOp μ) (nSt μ) (nKs μ) (nVs μ) (nTs μ), rfl, ⟨by rw [hr_get, if_neg hkn, if_neg h5], by rw [hk]⟩, by rw [ht]; exact hP, va_K.moved hW.alike hK, hD⟩, hS.F ht⟩) hS.2.2 dX1_get_55
      · skip
        exact absurd rfl h9
    · skip
      refine lv_iconst (v := 2) hx hb dX1_get_19 (by decide) ?_
      refine lv_goto (tgt := 24) hx hb dX1_get_20 rfl ?_
      have hk : hk_get μ key = 2 := by rw [hk_get, if_neg hka, if_pos h3]
      have hkn : ¬ hk_get μ key = 0 := by rw [hk]; decide
      refine va_put (D := (dC, dI)) (ci := 1) (v := .int 2) (ty := .int) (C := RX1) (T := TX1) (N := 12) hx hb hB inX1 tyX1 tyX1_ok nmX1 hown hK hP hD hS 0 rfl rfl 0 (by decide) (hB _ mX1_f_thrown) (fun _ h9 => h9) rfl (by decide +kernel) rfl rfl (Nat.le_of_ble_eq_true rfl) dX1_get_24 (fun H locs hP hD hS => ?_)
      have hP : va_P (dC, dI) vwCl (wN B cI cZ (mkN (2) (nWc μ) (nTc μ) (nLc μ) (nWr μ) (nOf μ) (nUn μ) (nOp μ) (nSt μ) (nKs μ) (nVs μ) (nTs μ))) H := hP
      have hD : va_D AA (wN B cI cZ (mkN (2) (nWc μ) (nTc μ) (nLc μ) (nWr μ) (nOf μ) (nUn μ) (nOp μ) (nSt μ) (nKs μ) (nVs μ) (nTs μ))) := hD
      refine lv_aload_n hx hb dX1_get_27 rfl (lv_at hl 0 rfl) ?_
      refine va_get (D := (dC, dI)) (ci := 1) (v := .int (2)) (C := RX1) (T := TX1) (N := 12) hx hb hB inX1 hown hK hP 0 rfl rfl 0 (by decide) (hB _ mX1_f_thrown) (fun _ h9 => h9) rfl dX1_get_28 ?_
      refine lv_if_eq (tgt := 36) hx hb dX1_get_31 rfl (fun h9 => ?_) (fun h9 => ?_)
      · skip
        exact absurd h9 (by decide)
      · skip
        refine lv_iconst (v := 0) hx hb dX1_get_34 (by decide) ?_
        exact W.iret (v := 0) hx hb hr (fun t ht hW => ⟨⟨0, mkN (2) (nWc μ) (nTc μ) (nLc μ) (nWr μ) (nOf μ) (nUn μ) (nOp μ) (nSt μ) (nKs μ) (nVs μ) (nTs μ), rfl, ⟨by rw [hr_get, if_pos hkn], by rw [hk]⟩, by rw [ht]; exact hP, va_K.moved hW.alike hK, hD⟩, hS.F ht⟩) hS.2.2 dX1_get_35
  · skip
    refine lv_iconst (v := 1) hx hb dX1_get_8 (by decide) ?_
    refine lv_goto (tgt := 24) hx hb dX1_get_9 rfl ?_
    have hk : hk_get μ key = 1 := by rw [hk_get, if_pos (bI_0.mp h1)]
    have hkn : ¬ hk_get μ key = 0 := by rw [hk]; decide
    refine va_put (D := (dC, dI)) (ci := 1) (v := .int 1) (ty := .int) (C := RX1) (T := TX1) (N := 12) hx hb hB inX1 tyX1 tyX1_ok nmX1 hown hK hP hD hS 0 rfl rfl 0 (by decide) (hB _ mX1_f_thrown) (fun _ h9 => h9) rfl (by decide +kernel) rfl rfl (Nat.le_of_ble_eq_true rfl) dX1_get_24 (fun H locs hP hD hS => ?_)
    have hP : va_P (dC, dI) vwCl (wN B cI cZ (mkN (1) (nWc μ) (nTc μ) (nLc μ) (nWr μ) (nOf μ) (nUn μ) (nOp μ) (nSt μ) (nKs μ) (nVs μ) (nTs μ))) H := hP
    have hD : va_D AA (wN B cI cZ (mkN (1) (nWc μ) (nTc μ) (nLc μ) (nWr μ) (nOf μ) (nUn μ) (nOp μ) (nSt μ) (nKs μ) (nVs μ) (nTs μ))) := hD
    refine lv_aload_n hx hb dX1_get_27 rfl (lv_at hl 0 rfl) ?_
    refine va_get (D := (dC, dI)) (ci := 1) (v := .int (1)) (C := RX1) (T := TX1) (N := 12) hx hb hB inX1 hown hK hP 0 rfl rfl 0 (by decide) (hB _ mX1_f_thrown) (fun _ h9 => h9) rfl dX1_get_28 ?_
    refine lv_if_eq (tgt := 36) hx hb dX1_get_31 rfl (fun h9 => ?_) (fun h9 => ?_)
    · skip
      exact absurd h9 (by decide)
    · skip
      refine lv_iconst (v := 0) hx hb dX1_get_34 (by decide) ?_
      exact W.iret (v := 0) hx hb hr (fun t ht hW => ⟨⟨0, mkN (1) (nWc μ) (nTc μ) (nLc μ) (nWr μ) (nOf μ) (nUn μ) (nOp μ) (nSt μ) (nKs μ) (nVs μ) (nTs μ), rfl, ⟨by rw [hr_get, if_pos hkn], by rw [hk]⟩, by rw [ht]; exact hP, va_K.moved hW.alike hK, hD⟩, hS.F ht⟩) hS.2.2 dX1_get_35
set_option maxHeartbeats 4000000 in
set_option maxRecDepth 100000 in
theorem cm1_wouldMove (l : Launch) (dC : Nat → ClassId) (dI : Nat → Nat → Nat) (B : Nat → Nat) (cI : ClassId) (cZ : ClassId) (μ : NS) (sz : Nat) (key : Int32) (v : Int32) : Met l yX1_wouldMove wsX1_wouldMove (rk 6) (va_Pc [.ref (B 0), .int key, .int v] (nPre (dC, dI) B cI cZ μ sz)) (va_Qi (fun r u => r = bI (hr_wm μ key v) ∧ u = h_th μ (hk_wm μ key v)) (nB (dC, dI) B cI cZ (nX B cI cZ μ sz)) (nX B cI cZ μ sz)) 0 0 (nX B cI cZ μ sz) := by
  refine Met.ofW (cc := cX1_wouldMove) (maxL := 3) (ret := (some .boolean)) (by decide) rfl ?_
  intro p e s m args below meth c s₁ Bd hml hv
  obtain ⟨rfl, hsz, hP, hK, hD0⟩ := hv
  have hx := Bd.exec
  have hb := Bd.bytes
  have hr := Bd.returns
  have hB : ∀ w ∈ bX1, w.before _ s = true := fun w h => atoms_spec (ws := wsX1_wouldMove) Bd.pre w (List.mem_cons_of_mem _ h)
  have hown : s.vm.findClass RX1 = some m.cls := findClass_of_methodNamed Bd.named
  have hlocks := Bd.notSynchronized
  subst hsz
  have hD : va_D (nX B cI cZ μ s.heap.size) (wN B cI cZ μ) := hD0.self (sz := s.heap.size)
  have hA : ∀ q : Nat, s.heap.size ≤ q → nX B cI cZ μ s.heap.size q := fun q h => Or.inr h
  generalize nX B cI cZ μ s.heap.size = AA at hD hA ⊢
  have hS : va_S AA s.heap s.heap [] := va_S.rf
  have hl := lv_entry ([.ref (B 0), .int key, .int v]) (n := 3) (Nat.le_of_ble_eq_true rfl)
  rw [lg_entry_eq]
  generalize (lg_sl ([.ref (B 0), .int key, .int v]) ++ List.replicate (3 - (lg_sl ([.ref (B 0), .int key, .int v])).length) Slot.unset).toArray = ls at hl ⊢
  have hl : lv_has ls 3 [(0, .ref (B 0)), (1, .int key), (2, .int v)] := hl
  refine lv_aload_n hx hb dX1_wouldMove_0 rfl (lv_at hl 0 rfl) ?_
  refine lv_iload_n hx hb dX1_wouldMove_1 rfl (lv_at hl 1 rfl) ?_
  refine ck1_isKey hx hb hml hown hB hl.1  dX1_wouldMove_2 (Nat.le_of_ble_eq_true rfl) (Nat.le_of_ble_eq_true rfl) ⟨Nat.zero_le _, Nat.zero_le _⟩ (Nat.le_of_ble_eq_true rfl) ?_
  refine lv_if_eq (tgt := 15) hx hb dX1_wouldMove_5 rfl (fun h1 => ?_) (fun h1 => ?_)
  · skip
    have hka : k_args key v = false := by simp [k_args, bI_0.mp h1]
    refine lv_iconst (v := 1) hx hb dX1_wouldMove_15 (by decide) ?_
    refine lv_goto (tgt := 31) hx hb dX1_wouldMove_16 rfl ?_
    have hk : hk_wm μ key v = 1 := by rw [hk_wm, if_pos hka]
    refine va_put (D := (dC, dI)) (ci := 1) (v := .int 1) (ty := .int) (C := RX1) (T := TX1) (N := 12) hx hb hB inX1 tyX1 tyX1_ok nmX1 hown hK hP hD hS 0 rfl rfl 0 (by decide) (hB _ mX1_f_thrown) (fun _ h9 => h9) rfl (by decide +kernel) rfl rfl (Nat.le_of_ble_eq_true rfl) dX1_wouldMove_31 (fun H locs hP hD hS => ?_)
    have hP : va_P (dC, dI) vwCl (wN B cI cZ (mkN (1) (nWc μ) (nTc μ) (nLc μ) (nWr μ) (nOf μ) (nUn μ) (nOp μ) (nSt μ) (nKs μ) (nVs μ) (nTs μ))) H := hP
    have hD : va_D AA (wN B cI cZ (mkN (1) (nWc μ) (nTc μ) (nLc μ) (nWr μ) (nOf μ) (nUn μ) (nOp μ) (nSt μ) (nKs μ) (nVs μ) (nTs μ))) := hD
    refine lv_aload_n hx hb dX1_wouldMove_34 rfl (lv_at hl 0 rfl) ?_
    refine va_get (D := (dC, dI)) (ci := 1) (v := .int (1)) (C := RX1) (T := TX1) (N := 12) hx hb hB inX1 hown hK hP 0 rfl rfl 0 (by decide) (hB _ mX1_f_thrown) (fun _ h9 => h9) rfl dX1_wouldMove_35 ?_
    refine lv_if_ne (tgt := 54) hx hb dX1_wouldMove_38 rfl (fun h9 => ?_) (fun h9 => ?_)
    · skip
      refine lv_iconst (v := 0) hx hb dX1_wouldMove_54 (by decide) ?_
      exact W.zret (v := 0) hx hb hr (rfl) (fun t ht hW => ⟨⟨0, mkN (1) (nWc μ) (nTc μ) (nLc μ) (nWr μ) (nOf μ) (nUn μ) (nOp μ) (nSt μ) (nKs μ) (nVs μ) (nTs μ), rfl, ⟨by rw [hr_wm, hk]; rfl, by rw [hk]⟩, by rw [ht]; exact hP, va_K.moved hW.alike hK, hD⟩, hS.F ht⟩) hS.2.2 dX1_wouldMove_55
    · skip
      exact absurd h9 (by decide)
  · skip
    refine lv_iload_n hx hb dX1_wouldMove_8 rfl (lv_at hl 2 rfl) ?_
    refine ck1_isValue hx hb hml hown hB hl.1  dX1_wouldMove_9 (Nat.le_of_ble_eq_true rfl) (Nat.le_of_ble_eq_true rfl) ⟨Nat.zero_le _, Nat.zero_le _⟩ (Nat.le_of_ble_eq_true rfl) ?_
    refine lv_if_ne (tgt := 19) hx hb dX1_wouldMove_12 rfl (fun h2 => ?_) (fun h2 => ?_)
    · skip
      have hka : k_args key v = true := by simp [k_args, bI_n0.mp h1, bI_n0.mp h2]
      refine lv_aload_n hx hb dX1_wouldMove_19 rfl (lv_at hl 0 rfl) ?_
      refine va_get (D := (dC, dI)) (ci := 1) (v := .int (nOf μ)) (C := RX1) (T := TX1) (N := 12) hx hb hB inX1 hown hK hP 0 rfl rfl 5 (by decide) (hB _ mX1_f_off) (fun _ h9 => h9) rfl dX1_wouldMove_20 ?_
      refine lv_if_eq (tgt := 30) hx hb dX1_wouldMove_23 rfl (fun h3 => ?_) (fun h3 => ?_)
      · skip
        refine lv_iconst (v := 0) hx hb dX1_wouldMove_30 (by decide) ?_
        have hk : hk_wm μ key v = 0 := by rw [hk_wm, if_neg (by rw [hka]; decide), if_neg (fun h => h h3)]
        refine va_put (D := (dC, dI)) (ci := 1) (v := .int 0) (ty := .int) (C := RX1) (T := TX1) (N := 12) hx hb hB inX1 tyX1 tyX1_ok nmX1 hown hK hP hD hS 0 rfl rfl 0 (by decide) (hB _ mX1_f_thrown) (fun _ h9 => h9) rfl (by decide +kernel) rfl rfl (Nat.le_of_ble_eq_true rfl) dX1_wouldMove_31 (fun H locs hP hD hS => ?_)
        have hP : va_P (dC, dI) vwCl (wN B cI cZ (mkN (0) (nWc μ) (nTc μ) (nLc μ) (nWr μ) (nOf μ) (nUn μ) (nOp μ) (nSt μ) (nKs μ) (nVs μ) (nTs μ))) H := hP
        have hD : va_D AA (wN B cI cZ (mkN (0) (nWc μ) (nTc μ) (nLc μ) (nWr μ) (nOf μ) (nUn μ) (nOp μ) (nSt μ) (nKs μ) (nVs μ) (nTs μ))) := hD
        refine lv_aload_n hx hb dX1_wouldMove_34 rfl (lv_at hl 0 rfl) ?_
        refine va_get (D := (dC, dI)) (ci := 1) (v := .int (0)) (C := RX1) (T := TX1) (N := 12) hx hb hB inX1 hown hK hP 0 rfl rfl 0 (by decide) (hB _ mX1_f_thrown) (fun _ h9 => h9) rfl dX1_wouldMove_35 ?_
        refine lv_if_ne (tgt := 54) hx hb dX1_wouldMove_38 rfl (fun h9 => ?_) (fun h9 => ?_)
        · skip
          exact absurd rfl h9
        · skip
          refine lv_aload_n hx hb dX1_wouldMove_41 rfl (lv_at hl 0 rfl) ?_
          refine lv_iload_n hx hb dX1_wouldMove_42 rfl (lv_at hl 1 rfl) ?_
          refine lv_iload_n hx hb dX1_wouldMove_43 rfl (lv_at hl 2 rfl) ?_
          refine ck1_moves hx hb hml hown hB hl.1 hP hK dX1_wouldMove_44 (Nat.le_of_ble_eq_true rfl) (Nat.le_of_ble_eq_true rfl) ⟨Nat.zero_le _, Nat.zero_le _⟩ (Nat.le_of_ble_eq_true rfl) ?_
          refine lv_if_eq (tgt := 54) hx hb dX1_wouldMove_47 rfl (fun h5 => ?_) (fun h5 => ?_)
          · skip
            refine lv_iconst (v := 0) hx hb dX1_wouldMove_54 (by decide) ?_
            exact W.zret (v := 0) hx hb hr (rfl) (fun t ht hW => ⟨⟨0, mkN (0) (nWc μ) (nTc μ) (nLc μ) (nWr μ) (nOf μ) (nUn μ) (nOp μ) (nSt μ) (nKs μ) (nVs μ) (nTs μ), rfl, ⟨by rw [hr_wm, hk, bI_0.mp h5]; rfl, by rw [hk]⟩, by rw [ht]; exact hP, va_K.moved hW.alike hK, hD⟩, hS.F ht⟩) hS.2.2 dX1_wouldMove_55
          · skip
            refine lv_iconst (v := 1) hx hb dX1_wouldMove_50 (by decide) ?_
            refine lv_goto (tgt := 55) hx hb dX1_wouldMove_51 rfl ?_
            exact W.zret (v := 1) hx hb hr (rfl) (fun t ht hW => ⟨⟨1, mkN (0) (nWc μ) (nTc μ) (nLc μ) (nWr μ) (nOf μ) (nUn μ) (nOp μ) (nSt μ) (nKs μ) (nVs μ) (nTs μ), rfl, ⟨by rw [hr_wm, hk, bI_n0.mp h5]; rfl, by rw [hk]⟩, by rw [ht]; exact hP, va_K.moved hW.alike hK, hD⟩, hS.F ht⟩) hS.2.2 dX1_wouldMove_55
      · skip
        refine lv_iconst (v := 2) hx hb dX1_wouldMove_26 (by decide) ?_
        refine lv_goto (tgt := 31) hx hb dX1_wouldMove_27 rfl ?_
        have hk : hk_wm μ key v = 2 := by rw [hk_wm, if_neg (by rw [hka]; decide), if_pos h3]
        refine va_put (D := (dC, dI)) (ci := 1) (v := .int 2) (ty := .int) (C := RX1) (T := TX1) (N := 12) hx hb hB inX1 tyX1 tyX1_ok nmX1 hown hK hP hD hS 0 rfl rfl 0 (by decide) (hB _ mX1_f_thrown) (fun _ h9 => h9) rfl (by decide +kernel) rfl rfl (Nat.le_of_ble_eq_true rfl) dX1_wouldMove_31 (fun H locs hP hD hS => ?_)
        have hP : va_P (dC, dI) vwCl (wN B cI cZ (mkN (2) (nWc μ) (nTc μ) (nLc μ) (nWr μ) (nOf μ) (nUn μ) (nOp μ) (nSt μ) (nKs μ) (nVs μ) (nTs μ))) H := hP
        have hD : va_D AA (wN B cI cZ (mkN (2) (nWc μ) (nTc μ) (nLc μ) (nWr μ) (nOf μ) (nUn μ) (nOp μ) (nSt μ) (nKs μ) (nVs μ) (nTs μ))) := hD
        refine lv_aload_n hx hb dX1_wouldMove_34 rfl (lv_at hl 0 rfl) ?_
        refine va_get (D := (dC, dI)) (ci := 1) (v := .int (2)) (C := RX1) (T := TX1) (N := 12) hx hb hB inX1 hown hK hP 0 rfl rfl 0 (by decide) (hB _ mX1_f_thrown) (fun _ h9 => h9) rfl dX1_wouldMove_35 ?_
        refine lv_if_ne (tgt := 54) hx hb dX1_wouldMove_38 rfl (fun h9 => ?_) (fun h9 => ?_)
        · skip
          refine lv_iconst (v := 0) hx hb dX1_wouldMove_54 (by decide) ?_
          exact W.zret (v := 0) hx hb hr (rfl) (fun t ht hW => ⟨⟨0, mkN (2) (nWc μ) (nTc μ) (nLc μ) (nWr μ) (nOf μ) (nUn μ) (nOp μ) (nSt μ) (nKs μ) (nVs μ) (nTs μ), rfl, ⟨by rw [hr_wm, hk]; rfl, by rw [hk]⟩, by rw [ht]; exact hP, va_K.moved hW.alike hK, hD⟩, hS.F ht⟩) hS.2.2 dX1_wouldMove_55
        · skip
          exact absurd h9 (by decide)
    · skip
      have hka : k_args key v = false := by simp [k_args, bI_0.mp h2]
      refine lv_iconst (v := 1) hx hb dX1_wouldMove_15 (by decide) ?_
      refine lv_goto (tgt := 31) hx hb dX1_wouldMove_16 rfl ?_
      have hk : hk_wm μ key v = 1 := by rw [hk_wm, if_pos hka]
      refine va_put (D := (dC, dI)) (ci := 1) (v := .int 1) (ty := .int) (C := RX1) (T := TX1) (N := 12) hx hb hB inX1 tyX1 tyX1_ok nmX1 hown hK hP hD hS 0 rfl rfl 0 (by decide) (hB _ mX1_f_thrown) (fun _ h9 => h9) rfl (by decide +kernel) rfl rfl (Nat.le_of_ble_eq_true rfl) dX1_wouldMove_31 (fun H locs hP hD hS => ?_)
      have hP : va_P (dC, dI) vwCl (wN B cI cZ (mkN (1) (nWc μ) (nTc μ) (nLc μ) (nWr μ) (nOf μ) (nUn μ) (nOp μ) (nSt μ) (nKs μ) (nVs μ) (nTs μ))) H := hP
      have hD : va_D AA (wN B cI cZ (mkN (1) (nWc μ) (nTc μ) (nLc μ) (nWr μ) (nOf μ) (nUn μ) (nOp μ) (nSt μ) (nKs μ) (nVs μ) (nTs μ))) := hD
      refine lv_aload_n hx hb dX1_wouldMove_34 rfl (lv_at hl 0 rfl) ?_
      refine va_get (D := (dC, dI)) (ci := 1) (v := .int (1)) (C := RX1) (T := TX1) (N := 12) hx hb hB inX1 hown hK hP 0 rfl rfl 0 (by decide) (hB _ mX1_f_thrown) (fun _ h9 => h9) rfl dX1_wouldMove_35 ?_
      refine lv_if_ne (tgt := 54) hx hb dX1_wouldMove_38 rfl (fun h9 => ?_) (fun h9 => ?_)
      · skip
        refine lv_iconst (v := 0) hx hb dX1_wouldMove_54 (by decide) ?_
        exact W.zret (v := 0) hx hb hr (rfl) (fun t ht hW => ⟨⟨0, mkN (1) (nWc μ) (nTc μ) (nLc μ) (nWr μ) (nOf μ) (nUn μ) (nOp μ) (nSt μ) (nKs μ) (nVs μ) (nTs μ), rfl, ⟨by rw [hr_wm, hk]; rfl, by rw [hk]⟩, by rw [ht]; exact hP, va_K.moved hW.alike hK, hD⟩, hS.F ht⟩) hS.2.2 dX1_wouldMove_55
      · skip
        exact absurd h9 (by decide)
set_option maxHeartbeats 4000000 in
set_option maxRecDepth 100000 in
theorem cm1_begin (l : Launch) (dC : Nat → ClassId) (dI : Nat → Nat → Nat) (B : Nat → Nat) (cI : ClassId) (cZ : ClassId) (μ : NS) (sz : Nat) : Met l yX1_begin wsX1_begin (rk 6) (va_Pc [.ref (B 0)] (nPre (dC, dI) B cI cZ μ sz)) (va_Qv (fun u => u = hs_begin μ) (nB (dC, dI) B cI cZ (nX B cI cZ μ sz)) (nX B cI cZ μ sz)) 0 0 (nX B cI cZ μ sz) := by
  refine Met.ofW (cc := cX1_begin) (maxL := 1) (ret := none) (by decide) rfl ?_
  intro p e s m args below meth c s₁ Bd hml hv
  obtain ⟨rfl, hsz, hP, hK, hD0⟩ := hv
  have hx := Bd.exec
  have hb := Bd.bytes
  have hr := Bd.returns
  have hB : ∀ w ∈ bX1, w.before _ s = true := fun w h => atoms_spec (ws := wsX1_begin) Bd.pre w (List.mem_cons_of_mem _ h)
  have hown : s.vm.findClass RX1 = some m.cls := findClass_of_methodNamed Bd.named
  have hlocks := Bd.notSynchronized
  subst hsz
  have hD : va_D (nX B cI cZ μ s.heap.size) (wN B cI cZ μ) := hD0.self (sz := s.heap.size)
  have hA : ∀ q : Nat, s.heap.size ≤ q → nX B cI cZ μ s.heap.size q := fun q h => Or.inr h
  generalize nX B cI cZ μ s.heap.size = AA at hD hA ⊢
  have hS : va_S AA s.heap s.heap [] := va_S.rf
  have hl := lv_entry ([.ref (B 0)]) (n := 1) (Nat.le_of_ble_eq_true rfl)
  rw [lg_entry_eq]
  generalize (lg_sl ([.ref (B 0)]) ++ List.replicate (1 - (lg_sl ([.ref (B 0)])).length) Slot.unset).toArray = ls at hl ⊢
  have hl : lv_has ls 1 [(0, .ref (B 0))] := hl
  refine lv_aload_n hx hb dX1_begin_0 rfl (lv_at hl 0 rfl) ?_
  refine lv_aload_n hx hb dX1_begin_1 rfl (lv_at hl 0 rfl) ?_
  refine va_get (D := (dC, dI)) (ci := 1) (v := .int (nOf μ)) (C := RX1) (T := TX1) (N := 12) hx hb hB inX1 hown hK hP 0 rfl rfl 5 (by decide) (hB _ mX1_f_off) (fun _ h9 => h9) rfl dX1_begin_2 ?_
  refine lv_if_ne (tgt := 15) hx hb dX1_begin_5 rfl (fun h1 => ?_) (fun h1 => ?_)
  · skip
    refine lv_iconst (v := 1) hx hb dX1_begin_15 (by decide) ?_
    refine lv_goto (tgt := 20) hx hb dX1_begin_16 rfl ?_
    have hk : hk_begin μ = 1 := by rw [hk_begin, if_pos (Or.inl h1)]
    refine va_put (D := (dC, dI)) (ci := 1) (v := .int 1) (ty := .int) (C := RX1) (T := TX1) (N := 12) hx hb hB inX1 tyX1 tyX1_ok nmX1 hown hK hP hD hS 0 rfl rfl 0 (by decide) (hB _ mX1_f_thrown) (fun _ h9 => h9) rfl (by decide +kernel) rfl rfl (Nat.le_of_ble_eq_true rfl) dX1_begin_20 (fun H locs hP hD hS => ?_)
    have hP : va_P (dC, dI) vwCl (wN B cI cZ (mkN (1) (nWc μ) (nTc μ) (nLc μ) (nWr μ) (nOf μ) (nUn μ) (nOp μ) (nSt μ) (nKs μ) (nVs μ) (nTs μ))) H := hP
    have hD : va_D AA (wN B cI cZ (mkN (1) (nWc μ) (nTc μ) (nLc μ) (nWr μ) (nOf μ) (nUn μ) (nOp μ) (nSt μ) (nKs μ) (nVs μ) (nTs μ))) := hD
    refine lv_aload_n hx hb dX1_begin_23 rfl (lv_at hl 0 rfl) ?_
    refine va_get (D := (dC, dI)) (ci := 1) (v := .int (1)) (C := RX1) (T := TX1) (N := 12) hx hb hB inX1 hown hK hP 0 rfl rfl 0 (by decide) (hB _ mX1_f_thrown) (fun _ h9 => h9) rfl dX1_begin_24 ?_
    refine lv_if_eq (tgt := 31) hx hb dX1_begin_27 rfl (fun h9 => ?_) (fun h9 => ?_)
    · skip
      exact absurd h9 (by decide)
    · skip
      exact W.vret hx hb hr (fun t ht hW => ⟨⟨mkN (1) (nWc μ) (nTc μ) (nLc μ) (nWr μ) (nOf μ) (nUn μ) (nOp μ) (nSt μ) (nKs μ) (nVs μ) (nTs μ), rfl, by rw [hs_begin, if_neg (by rw [hk]; decide), hk], by rw [ht]; exact hP, va_K.moved hW.alike hK, hD⟩, hS.F ht⟩) hS.2.2 dX1_begin_30
  · skip
    refine lv_aload_n hx hb dX1_begin_8 rfl (lv_at hl 0 rfl) ?_
    refine va_get (D := (dC, dI)) (ci := 1) (v := .int (nOp μ)) (C := RX1) (T := TX1) (N := 12) hx hb hB inX1 hown hK hP 0 rfl rfl 7 (by decide) (hB _ mX1_f_open) (fun _ h9 => h9) rfl dX1_begin_9 ?_
    refine lv_if_eq (tgt := 19) hx hb dX1_begin_12 rfl (fun h2 => ?_) (fun h2 => ?_)
    · skip
      refine lv_iconst (v := 0) hx hb dX1_begin_19 (by decide) ?_
      have hk : hk_begin μ = 0 := by rw [hk_begin, if_neg (fun h => h.elim (fun z => z h1) (fun z => z h2))]
      refine va_put (D := (dC, dI)) (ci := 1) (v := .int 0) (ty := .int) (C := RX1) (T := TX1) (N := 12) hx hb hB inX1 tyX1 tyX1_ok nmX1 hown hK hP hD hS 0 rfl rfl 0 (by decide) (hB _ mX1_f_thrown) (fun _ h9 => h9) rfl (by decide +kernel) rfl rfl (Nat.le_of_ble_eq_true rfl) dX1_begin_20 (fun H locs hP hD hS => ?_)
      have hP : va_P (dC, dI) vwCl (wN B cI cZ (mkN (0) (nWc μ) (nTc μ) (nLc μ) (nWr μ) (nOf μ) (nUn μ) (nOp μ) (nSt μ) (nKs μ) (nVs μ) (nTs μ))) H := hP
      have hD : va_D AA (wN B cI cZ (mkN (0) (nWc μ) (nTc μ) (nLc μ) (nWr μ) (nOf μ) (nUn μ) (nOp μ) (nSt μ) (nKs μ) (nVs μ) (nTs μ))) := hD
      refine lv_aload_n hx hb dX1_begin_23 rfl (lv_at hl 0 rfl) ?_
      refine va_get (D := (dC, dI)) (ci := 1) (v := .int (0)) (C := RX1) (T := TX1) (N := 12) hx hb hB inX1 hown hK hP 0 rfl rfl 0 (by decide) (hB _ mX1_f_thrown) (fun _ h9 => h9) rfl dX1_begin_24 ?_
      refine lv_if_eq (tgt := 31) hx hb dX1_begin_27 rfl (fun h9 => ?_) (fun h9 => ?_)
      · skip
        refine lv_aload_n hx hb dX1_begin_31 rfl (lv_at hl 0 rfl) ?_
        refine lv_iconst (v := 1) hx hb dX1_begin_32 (by decide) ?_
        refine va_put (D := (dC, dI)) (ci := 1) (v := .int 1) (ty := .boolean) (C := RX1) (T := TX1) (N := 12) hx hb hB inX1 tyX1 tyX1_ok nmX1 hown hK hP hD hS 0 rfl rfl 7 (by decide) (hB _ mX1_f_open) (fun _ h9 => h9) rfl (by decide +kernel) rfl rfl (Nat.le_of_ble_eq_true rfl) dX1_begin_33 (fun H locs hP hD hS => ?_)
        have hP : va_P (dC, dI) vwCl (wN B cI cZ (mkN (0) (nWc μ) (nTc μ) (nLc μ) (nWr μ) (nOf μ) (nUn μ) (1) (nSt μ) (nKs μ) (nVs μ) (nTs μ))) H := hP
        have hD : va_D AA (wN B cI cZ (mkN (0) (nWc μ) (nTc μ) (nLc μ) (nWr μ) (nOf μ) (nUn μ) (1) (nSt μ) (nKs μ) (nVs μ) (nTs μ))) := hD
        refine lv_aload_n hx hb dX1_begin_36 rfl (lv_at hl 0 rfl) ?_
        refine lv_iconst (v := 0) hx hb dX1_begin_37 (by decide) ?_
        refine va_put (D := (dC, dI)) (ci := 1) (v := .int 0) (ty := .int) (C := RX1) (T := TX1) (N := 12) hx hb hB inX1 tyX1 tyX1_ok nmX1 hown hK hP hD hS 0 rfl rfl 8 (by decide) (hB _ mX1_f_staged) (fun _ h9 => h9) rfl (by decide +kernel) rfl rfl (Nat.le_of_ble_eq_true rfl) dX1_begin_38 (fun H locs hP hD hS => ?_)
        have hP : va_P (dC, dI) vwCl (wN B cI cZ (mkN (0) (nWc μ) (nTc μ) (nLc μ) (nWr μ) (nOf μ) (nUn μ) (1) (0) (nKs μ) (nVs μ) (nTs μ))) H := hP
        have hD : va_D AA (wN B cI cZ (mkN (0) (nWc μ) (nTc μ) (nLc μ) (nWr μ) (nOf μ) (nUn μ) (1) (0) (nKs μ) (nVs μ) (nTs μ))) := hD
        exact W.vret hx hb hr (fun t ht hW => ⟨⟨mkN (0) (nWc μ) (nTc μ) (nLc μ) (nWr μ) (nOf μ) (nUn μ) (1) (0) (nKs μ) (nVs μ) (nTs μ), rfl, by rw [hs_begin, if_pos hk], by rw [ht]; exact hP, va_K.moved hW.alike hK, hD⟩, hS.F ht⟩) hS.2.2 dX1_begin_41
      · skip
        exact absurd rfl h9
    · skip
      refine lv_iconst (v := 1) hx hb dX1_begin_15 (by decide) ?_
      refine lv_goto (tgt := 20) hx hb dX1_begin_16 rfl ?_
      have hk : hk_begin μ = 1 := by rw [hk_begin, if_pos (Or.inr h2)]
      refine va_put (D := (dC, dI)) (ci := 1) (v := .int 1) (ty := .int) (C := RX1) (T := TX1) (N := 12) hx hb hB inX1 tyX1 tyX1_ok nmX1 hown hK hP hD hS 0 rfl rfl 0 (by decide) (hB _ mX1_f_thrown) (fun _ h9 => h9) rfl (by decide +kernel) rfl rfl (Nat.le_of_ble_eq_true rfl) dX1_begin_20 (fun H locs hP hD hS => ?_)
      have hP : va_P (dC, dI) vwCl (wN B cI cZ (mkN (1) (nWc μ) (nTc μ) (nLc μ) (nWr μ) (nOf μ) (nUn μ) (nOp μ) (nSt μ) (nKs μ) (nVs μ) (nTs μ))) H := hP
      have hD : va_D AA (wN B cI cZ (mkN (1) (nWc μ) (nTc μ) (nLc μ) (nWr μ) (nOf μ) (nUn μ) (nOp μ) (nSt μ) (nKs μ) (nVs μ) (nTs μ))) := hD
      refine lv_aload_n hx hb dX1_begin_23 rfl (lv_at hl 0 rfl) ?_
      refine va_get (D := (dC, dI)) (ci := 1) (v := .int (1)) (C := RX1) (T := TX1) (N := 12) hx hb hB inX1 hown hK hP 0 rfl rfl 0 (by decide) (hB _ mX1_f_thrown) (fun _ h9 => h9) rfl dX1_begin_24 ?_
      refine lv_if_eq (tgt := 31) hx hb dX1_begin_27 rfl (fun h9 => ?_) (fun h9 => ?_)
      · skip
        exact absurd h9 (by decide)
      · skip
        exact W.vret hx hb hr (fun t ht hW => ⟨⟨mkN (1) (nWc μ) (nTc μ) (nLc μ) (nWr μ) (nOf μ) (nUn μ) (nOp μ) (nSt μ) (nKs μ) (nVs μ) (nTs μ), rfl, by rw [hs_begin, if_neg (by rw [hk]; decide), hk], by rw [ht]; exact hP, va_K.moved hW.alike hK, hD⟩, hS.F ht⟩) hS.2.2 dX1_begin_30
set_option maxHeartbeats 4000000 in
set_option maxRecDepth 100000 in
theorem cm1_stage (l : Launch) (dC : Nat → ClassId) (dI : Nat → Nat → Nat) (B : Nat → Nat) (cI : ClassId) (cZ : ClassId) (μ : NS) (sz : Nat) (key : Int32) (v : Int32) (nb : Nat) (hnb : nSt μ = nI nb) (hnb8 : nb ≤ 8) : Met l yX1_stage wsX1_stage (rk 6) (va_Pc [.ref (B 0), .int key, .int v] (nPre (dC, dI) B cI cZ μ sz)) (va_Qi (fun r u => r = hr_stage μ nb key v ∧ u = hs_stage μ nb key v) (nB (dC, dI) B cI cZ (nX B cI cZ μ sz)) (nX B cI cZ μ sz)) 0 0 (nX B cI cZ μ sz) := by
  refine Met.ofW (cc := cX1_stage) (maxL := 3) (ret := (some .int)) (by decide) rfl ?_
  intro p e s m args below meth c s₁ Bd hml hv
  obtain ⟨rfl, hsz, hP, hK, hD0⟩ := hv
  have hx := Bd.exec
  have hb := Bd.bytes
  have hr := Bd.returns
  have hB : ∀ w ∈ bX1, w.before _ s = true := fun w h => atoms_spec (ws := wsX1_stage) Bd.pre w (List.mem_cons_of_mem _ h)
  have hown : s.vm.findClass RX1 = some m.cls := findClass_of_methodNamed Bd.named
  have hlocks := Bd.notSynchronized
  subst hsz
  have hD : va_D (nX B cI cZ μ s.heap.size) (wN B cI cZ μ) := hD0.self (sz := s.heap.size)
  have hA : ∀ q : Nat, s.heap.size ≤ q → nX B cI cZ μ s.heap.size q := fun q h => Or.inr h
  generalize nX B cI cZ μ s.heap.size = AA at hD hA ⊢
  have hS : va_S AA s.heap s.heap [] := va_S.rf
  have hl := lv_entry ([.ref (B 0), .int key, .int v]) (n := 3) (Nat.le_of_ble_eq_true rfl)
  rw [lg_entry_eq]
  generalize (lg_sl ([.ref (B 0), .int key, .int v]) ++ List.replicate (3 - (lg_sl ([.ref (B 0), .int key, .int v])).length) Slot.unset).toArray = ls at hl ⊢
  have hl : lv_has ls 3 [(0, .ref (B 0)), (1, .int key), (2, .int v)] := hl
  refine lv_aload_n hx hb dX1_stage_0 rfl (lv_at hl 0 rfl) ?_
  refine lv_iload_n hx hb dX1_stage_1 rfl (lv_at hl 1 rfl) ?_
  refine ck1_isKey hx hb hml hown hB hl.1  dX1_stage_2 (Nat.le_of_ble_eq_true rfl) (Nat.le_of_ble_eq_true rfl) ⟨Nat.zero_le _, Nat.zero_le _⟩ (Nat.le_of_ble_eq_true rfl) ?_
  refine lv_if_eq (tgt := 23) hx hb dX1_stage_5 rfl (fun h1 => ?_) (fun h1 => ?_)
  · skip
    refine lv_iconst (v := 1) hx hb dX1_stage_23 (by decide) ?_
    refine lv_goto (tgt := 55) hx hb dX1_stage_24 rfl ?_
    have hk : hk_stage μ nb key v = 1 := by rw [hk_stage, if_pos (Or.inl (by simp [k_args, bI_0.mp h1]))]
    have hkn : ¬ hk_stage μ nb key v = 0 := by rw [hk]; decide
    refine va_put (D := (dC, dI)) (ci := 1) (v := .int 1) (ty := .int) (C := RX1) (T := TX1) (N := 12) hx hb hB inX1 tyX1 tyX1_ok nmX1 hown hK hP hD hS 0 rfl rfl 0 (by decide) (hB _ mX1_f_thrown) (fun _ h9 => h9) rfl (by decide +kernel) rfl rfl (Nat.le_of_ble_eq_true rfl) dX1_stage_55 (fun H locs hP hD hS => ?_)
    have hP : va_P (dC, dI) vwCl (wN B cI cZ (mkN (1) (nWc μ) (nTc μ) (nLc μ) (nWr μ) (nOf μ) (nUn μ) (nOp μ) (nSt μ) (nKs μ) (nVs μ) (nTs μ))) H := hP
    have hD : va_D AA (wN B cI cZ (mkN (1) (nWc μ) (nTc μ) (nLc μ) (nWr μ) (nOf μ) (nUn μ) (nOp μ) (nSt μ) (nKs μ) (nVs μ) (nTs μ))) := hD
    refine lv_aload_n hx hb dX1_stage_58 rfl (lv_at hl 0 rfl) ?_
    refine va_get (D := (dC, dI)) (ci := 1) (v := .int (1)) (C := RX1) (T := TX1) (N := 12) hx hb hB inX1 hown hK hP 0 rfl rfl 0 (by decide) (hB _ mX1_f_thrown) (fun _ h9 => h9) rfl dX1_stage_59 ?_
    refine lv_if_eq (tgt := 67) hx hb dX1_stage_62 rfl (fun h9 => ?_) (fun h9 => ?_)
    · skip
      exact absurd h9 (by decide)
    · skip
      refine lv_iconst (v := 0) hx hb dX1_stage_65 (by decide) ?_
      exact W.iret (v := 0) hx hb hr (fun t ht hW => ⟨⟨0, mkN (1) (nWc μ) (nTc μ) (nLc μ) (nWr μ) (nOf μ) (nUn μ) (nOp μ) (nSt μ) (nKs μ) (nVs μ) (nTs μ), rfl, ⟨by rw [hr_stage, if_neg hkn], by rw [hs_stage, if_neg hkn, hk]⟩, by rw [ht]; exact hP, va_K.moved hW.alike hK, hD⟩, hS.F ht⟩) hS.2.2 dX1_stage_66
  · skip
    refine lv_iload_n hx hb dX1_stage_8 rfl (lv_at hl 2 rfl) ?_
    refine ck1_isValue hx hb hml hown hB hl.1  dX1_stage_9 (Nat.le_of_ble_eq_true rfl) (Nat.le_of_ble_eq_true rfl) ⟨Nat.zero_le _, Nat.zero_le _⟩ (Nat.le_of_ble_eq_true rfl) ?_
    refine lv_if_eq (tgt := 23) hx hb dX1_stage_12 rfl (fun h2 => ?_) (fun h2 => ?_)
    · skip
      refine lv_iconst (v := 1) hx hb dX1_stage_23 (by decide) ?_
      refine lv_goto (tgt := 55) hx hb dX1_stage_24 rfl ?_
      have hk : hk_stage μ nb key v = 1 := by rw [hk_stage, if_pos (Or.inl (by simp [k_args, bI_0.mp h2]))]
      have hkn : ¬ hk_stage μ nb key v = 0 := by rw [hk]; decide
      refine va_put (D := (dC, dI)) (ci := 1) (v := .int 1) (ty := .int) (C := RX1) (T := TX1) (N := 12) hx hb hB inX1 tyX1 tyX1_ok nmX1 hown hK hP hD hS 0 rfl rfl 0 (by decide) (hB _ mX1_f_thrown) (fun _ h9 => h9) rfl (by decide +kernel) rfl rfl (Nat.le_of_ble_eq_true rfl) dX1_stage_55 (fun H locs hP hD hS => ?_)
      have hP : va_P (dC, dI) vwCl (wN B cI cZ (mkN (1) (nWc μ) (nTc μ) (nLc μ) (nWr μ) (nOf μ) (nUn μ) (nOp μ) (nSt μ) (nKs μ) (nVs μ) (nTs μ))) H := hP
      have hD : va_D AA (wN B cI cZ (mkN (1) (nWc μ) (nTc μ) (nLc μ) (nWr μ) (nOf μ) (nUn μ) (nOp μ) (nSt μ) (nKs μ) (nVs μ) (nTs μ))) := hD
      refine lv_aload_n hx hb dX1_stage_58 rfl (lv_at hl 0 rfl) ?_
      refine va_get (D := (dC, dI)) (ci := 1) (v := .int (1)) (C := RX1) (T := TX1) (N := 12) hx hb hB inX1 hown hK hP 0 rfl rfl 0 (by decide) (hB _ mX1_f_thrown) (fun _ h9 => h9) rfl dX1_stage_59 ?_
      refine lv_if_eq (tgt := 67) hx hb dX1_stage_62 rfl (fun h9 => ?_) (fun h9 => ?_)
      · skip
        exact absurd h9 (by decide)
      · skip
        refine lv_iconst (v := 0) hx hb dX1_stage_65 (by decide) ?_
        exact W.iret (v := 0) hx hb hr (fun t ht hW => ⟨⟨0, mkN (1) (nWc μ) (nTc μ) (nLc μ) (nWr μ) (nOf μ) (nUn μ) (nOp μ) (nSt μ) (nKs μ) (nVs μ) (nTs μ), rfl, ⟨by rw [hr_stage, if_neg hkn], by rw [hs_stage, if_neg hkn, hk]⟩, by rw [ht]; exact hP, va_K.moved hW.alike hK, hD⟩, hS.F ht⟩) hS.2.2 dX1_stage_66
    · skip
      have hka : k_args key v = true := by simp [k_args, bI_n0.mp h1, bI_n0.mp h2]
      refine lv_aload_n hx hb dX1_stage_15 rfl (lv_at hl 0 rfl) ?_
      refine lv_iload_n hx hb dX1_stage_16 rfl (lv_at hl 1 rfl) ?_
      refine ck1_isStaged hx hb hml hown hB hl.1 hP hK hnb hnb8 dX1_stage_17 (Nat.le_of_ble_eq_true rfl) (Nat.le_of_ble_eq_true rfl) ⟨Nat.zero_le _, Nat.zero_le _⟩ (Nat.le_of_ble_eq_true rfl) ?_
      refine lv_if_eq (tgt := 27) hx hb dX1_stage_20 rfl (fun h3 => ?_) (fun h3 => ?_)
      · skip
        have h0 : ¬ (k_args key v = false ∨ g_sta μ key nb = true) := by rw [hka, bI_0.mp h3]; decide
        refine lv_aload_n hx hb dX1_stage_27 rfl (lv_at hl 0 rfl) ?_
        refine va_get (D := (dC, dI)) (ci := 1) (v := .int (nOf μ)) (C := RX1) (T := TX1) (N := 12) hx hb hB inX1 hown hK hP 0 rfl rfl 5 (by decide) (hB _ mX1_f_off) (fun _ h9 => h9) rfl dX1_stage_28 ?_
        refine lv_if_ne (tgt := 50) hx hb dX1_stage_31 rfl (fun h4 => ?_) (fun h4 => ?_)
        · skip
          refine lv_iconst (v := 2) hx hb dX1_stage_50 (by decide) ?_
          refine lv_goto (tgt := 55) hx hb dX1_stage_51 rfl ?_
          have hk : hk_stage μ nb key v = 2 := by rw [hk_stage, if_neg h0, if_pos (Or.inl h4)]
          have hkn : ¬ hk_stage μ nb key v = 0 := by rw [hk]; decide
          refine va_put (D := (dC, dI)) (ci := 1) (v := .int 2) (ty := .int) (C := RX1) (T := TX1) (N := 12) hx hb hB inX1 tyX1 tyX1_ok nmX1 hown hK hP hD hS 0 rfl rfl 0 (by decide) (hB _ mX1_f_thrown) (fun _ h9 => h9) rfl (by decide +kernel) rfl rfl (Nat.le_of_ble_eq_true rfl) dX1_stage_55 (fun H locs hP hD hS => ?_)
          have hP : va_P (dC, dI) vwCl (wN B cI cZ (mkN (2) (nWc μ) (nTc μ) (nLc μ) (nWr μ) (nOf μ) (nUn μ) (nOp μ) (nSt μ) (nKs μ) (nVs μ) (nTs μ))) H := hP
          have hD : va_D AA (wN B cI cZ (mkN (2) (nWc μ) (nTc μ) (nLc μ) (nWr μ) (nOf μ) (nUn μ) (nOp μ) (nSt μ) (nKs μ) (nVs μ) (nTs μ))) := hD
          refine lv_aload_n hx hb dX1_stage_58 rfl (lv_at hl 0 rfl) ?_
          refine va_get (D := (dC, dI)) (ci := 1) (v := .int (2)) (C := RX1) (T := TX1) (N := 12) hx hb hB inX1 hown hK hP 0 rfl rfl 0 (by decide) (hB _ mX1_f_thrown) (fun _ h9 => h9) rfl dX1_stage_59 ?_
          refine lv_if_eq (tgt := 67) hx hb dX1_stage_62 rfl (fun h9 => ?_) (fun h9 => ?_)
          · skip
            exact absurd h9 (by decide)
          · skip
            refine lv_iconst (v := 0) hx hb dX1_stage_65 (by decide) ?_
            exact W.iret (v := 0) hx hb hr (fun t ht hW => ⟨⟨0, mkN (2) (nWc μ) (nTc μ) (nLc μ) (nWr μ) (nOf μ) (nUn μ) (nOp μ) (nSt μ) (nKs μ) (nVs μ) (nTs μ), rfl, ⟨by rw [hr_stage, if_neg hkn], by rw [hs_stage, if_neg hkn, hk]⟩, by rw [ht]; exact hP, va_K.moved hW.alike hK, hD⟩, hS.F ht⟩) hS.2.2 dX1_stage_66
        · skip
          refine lv_aload_n hx hb dX1_stage_34 rfl (lv_at hl 0 rfl) ?_
          refine va_get (D := (dC, dI)) (ci := 1) (v := .int (nOp μ)) (C := RX1) (T := TX1) (N := 12) hx hb hB inX1 hown hK hP 0 rfl rfl 7 (by decide) (hB _ mX1_f_open) (fun _ h9 => h9) rfl dX1_stage_35 ?_
          refine lv_if_eq (tgt := 50) hx hb dX1_stage_38 rfl (fun h5 => ?_) (fun h5 => ?_)
          · skip
            refine lv_iconst (v := 2) hx hb dX1_stage_50 (by decide) ?_
            refine lv_goto (tgt := 55) hx hb dX1_stage_51 rfl ?_
            have hk : hk_stage μ nb key v = 2 := by rw [hk_stage, if_neg h0, if_pos (Or.inr (Or.inl h5))]
            have hkn : ¬ hk_stage μ nb key v = 0 := by rw [hk]; decide
            refine va_put (D := (dC, dI)) (ci := 1) (v := .int 2) (ty := .int) (C := RX1) (T := TX1) (N := 12) hx hb hB inX1 tyX1 tyX1_ok nmX1 hown hK hP hD hS 0 rfl rfl 0 (by decide) (hB _ mX1_f_thrown) (fun _ h9 => h9) rfl (by decide +kernel) rfl rfl (Nat.le_of_ble_eq_true rfl) dX1_stage_55 (fun H locs hP hD hS => ?_)
            have hP : va_P (dC, dI) vwCl (wN B cI cZ (mkN (2) (nWc μ) (nTc μ) (nLc μ) (nWr μ) (nOf μ) (nUn μ) (nOp μ) (nSt μ) (nKs μ) (nVs μ) (nTs μ))) H := hP
            have hD : va_D AA (wN B cI cZ (mkN (2) (nWc μ) (nTc μ) (nLc μ) (nWr μ) (nOf μ) (nUn μ) (nOp μ) (nSt μ) (nKs μ) (nVs μ) (nTs μ))) := hD
            refine lv_aload_n hx hb dX1_stage_58 rfl (lv_at hl 0 rfl) ?_
            refine va_get (D := (dC, dI)) (ci := 1) (v := .int (2)) (C := RX1) (T := TX1) (N := 12) hx hb hB inX1 hown hK hP 0 rfl rfl 0 (by decide) (hB _ mX1_f_thrown) (fun _ h9 => h9) rfl dX1_stage_59 ?_
            refine lv_if_eq (tgt := 67) hx hb dX1_stage_62 rfl (fun h9 => ?_) (fun h9 => ?_)
            · skip
              exact absurd h9 (by decide)
            · skip
              refine lv_iconst (v := 0) hx hb dX1_stage_65 (by decide) ?_
              exact W.iret (v := 0) hx hb hr (fun t ht hW => ⟨⟨0, mkN (2) (nWc μ) (nTc μ) (nLc μ) (nWr μ) (nOf μ) (nUn μ) (nOp μ) (nSt μ) (nKs μ) (nVs μ) (nTs μ), rfl, ⟨by rw [hr_stage, if_neg hkn], by rw [hs_stage, if_neg hkn, hk]⟩, by rw [ht]; exact hP, va_K.moved hW.alike hK, hD⟩, hS.F ht⟩) hS.2.2 dX1_stage_66
          · skip
            refine lv_aload_n hx hb dX1_stage_41 rfl (lv_at hl 0 rfl) ?_
            refine va_get (D := (dC, dI)) (ci := 1) (v := .int (nSt μ)) (C := RX1) (T := TX1) (N := 12) hx hb hB inX1 hown hK hP 0 rfl rfl 8 (by decide) (hB _ mX1_f_staged) (fun _ h9 => h9) rfl dX1_stage_42 ?_
            rw [hnb]
            refine lv_bipush (v := 8) hx hb dX1_stage_45 (by decide) ?_
            refine lv_icmp_ne (tgt := 54) hx hb dX1_stage_47 rfl (fun h6 => ?_) (fun h6 => ?_)
            · skip
              have hn8 : ¬ nb = 8 := fun h => h6 (by rw [h]; rfl)
              refine lv_iconst (v := 0) hx hb dX1_stage_54 (by decide) ?_
              have hk : hk_stage μ nb key v = 0 := by rw [hk_stage, if_neg h0, if_neg (fun h => h.elim (fun z => z h4) (fun h => h.elim h5 hn8))]
              refine va_put (D := (dC, dI)) (ci := 1) (v := .int 0) (ty := .int) (C := RX1) (T := TX1) (N := 12) hx hb hB inX1 tyX1 tyX1_ok nmX1 hown hK hP hD hS 0 rfl rfl 0 (by decide) (hB _ mX1_f_thrown) (fun _ h9 => h9) rfl (by decide +kernel) rfl rfl (Nat.le_of_ble_eq_true rfl) dX1_stage_55 (fun H locs hP hD hS => ?_)
              have hP : va_P (dC, dI) vwCl (wN B cI cZ (mkN (0) (nWc μ) (nTc μ) (nLc μ) (nWr μ) (nOf μ) (nUn μ) (nOp μ) (nSt μ) (nKs μ) (nVs μ) (nTs μ))) H := hP
              have hD : va_D AA (wN B cI cZ (mkN (0) (nWc μ) (nTc μ) (nLc μ) (nWr μ) (nOf μ) (nUn μ) (nOp μ) (nSt μ) (nKs μ) (nVs μ) (nTs μ))) := hD
              refine lv_aload_n hx hb dX1_stage_58 rfl (lv_at hl 0 rfl) ?_
              refine va_get (D := (dC, dI)) (ci := 1) (v := .int (0)) (C := RX1) (T := TX1) (N := 12) hx hb hB inX1 hown hK hP 0 rfl rfl 0 (by decide) (hB _ mX1_f_thrown) (fun _ h9 => h9) rfl dX1_stage_59 ?_
              refine lv_if_eq (tgt := 67) hx hb dX1_stage_62 rfl (fun h9 => ?_) (fun h9 => ?_)
              · skip
                refine lv_aload_n hx hb dX1_stage_67 rfl (lv_at hl 0 rfl) ?_
                refine va_get (D := (dC, dI)) (ci := 1) (v := .ref (B 4)) (C := RX1) (T := TX1) (N := 12) hx hb hB inX1 hown hK hP 0 rfl rfl 9 (by decide) (hB _ mX1_f_keys) (fun _ h9 => h9) rfl dX1_stage_68 ?_
                refine lv_aload_n hx hb dX1_stage_71 rfl (lv_at hl 0 rfl) ?_
                refine va_get (D := (dC, dI)) (ci := 1) (v := .int (nSt μ)) (C := RX1) (T := TX1) (N := 12) hx hb hB inX1 hown hK hP 0 rfl rfl 8 (by decide) (hB _ mX1_f_staged) (fun _ h9 => h9) rfl dX1_stage_72 ?_
                refine lv_iload_n hx hb dX1_stage_75 rfl (lv_at hl 1 rfl) ?_
                refine va_iast (D := (dC, dI)) (i := (nSt μ)) (x := key) hx hb hK hP hD hS 4 0 rfl rfl (by rw [hnb]; exact vp_in_nI (by omega) (by decide)) dX1_stage_76 (fun H locs hP hD hS => ?_)
                rw [show ((nSt μ)).toNatClampNeg = nb from by rw [hnb]; exact nI_clamp (by omega)] at hP hD
                have hP : va_P (dC, dI) vwCl (wN B cI cZ (mkN (0) (nWc μ) (nTc μ) (nLc μ) (nWr μ) (nOf μ) (nUn μ) (nOp μ) (nSt μ) (upd (nKs μ) (nb) (key)) (nVs μ) (nTs μ))) H := hP
                have hD : va_D AA (wN B cI cZ (mkN (0) (nWc μ) (nTc μ) (nLc μ) (nWr μ) (nOf μ) (nUn μ) (nOp μ) (nSt μ) (upd (nKs μ) (nb) (key)) (nVs μ) (nTs μ))) := hD
                refine lv_aload_n hx hb dX1_stage_77 rfl (lv_at hl 0 rfl) ?_
                refine va_get (D := (dC, dI)) (ci := 1) (v := .ref (B 5)) (C := RX1) (T := TX1) (N := 12) hx hb hB inX1 hown hK hP 0 rfl rfl 10 (by decide) (hB _ mX1_f_values) (fun _ h9 => h9) rfl dX1_stage_78 ?_
                refine lv_aload_n hx hb dX1_stage_81 rfl (lv_at hl 0 rfl) ?_
                refine va_get (D := (dC, dI)) (ci := 1) (v := .int (nSt μ)) (C := RX1) (T := TX1) (N := 12) hx hb hB inX1 hown hK hP 0 rfl rfl 8 (by decide) (hB _ mX1_f_staged) (fun _ h9 => h9) rfl dX1_stage_82 ?_
                refine lv_iload_n hx hb dX1_stage_85 rfl (lv_at hl 2 rfl) ?_
                refine va_iast (D := (dC, dI)) (i := (nSt μ)) (x := v) hx hb hK hP hD hS 5 0 rfl rfl (by rw [hnb]; exact vp_in_nI (by omega) (by decide)) dX1_stage_86 (fun H locs hP hD hS => ?_)
                rw [show ((nSt μ)).toNatClampNeg = nb from by rw [hnb]; exact nI_clamp (by omega)] at hP hD
                have hP : va_P (dC, dI) vwCl (wN B cI cZ (mkN (0) (nWc μ) (nTc μ) (nLc μ) (nWr μ) (nOf μ) (nUn μ) (nOp μ) (nSt μ) (upd (nKs μ) (nb) (key)) (upd (nVs μ) (nb) (v)) (nTs μ))) H := hP
                have hD : va_D AA (wN B cI cZ (mkN (0) (nWc μ) (nTc μ) (nLc μ) (nWr μ) (nOf μ) (nUn μ) (nOp μ) (nSt μ) (upd (nKs μ) (nb) (key)) (upd (nVs μ) (nb) (v)) (nTs μ))) := hD
                refine lv_aload_n hx hb dX1_stage_87 rfl (lv_at hl 0 rfl) ?_
                refine lv_dup hx hb dX1_stage_88 rfl ?_
                refine va_get (D := (dC, dI)) (ci := 1) (v := .int (nSt μ)) (C := RX1) (T := TX1) (N := 12) hx hb hB inX1 hown hK hP 0 rfl rfl 8 (by decide) (hB _ mX1_f_staged) (fun _ h9 => h9) rfl dX1_stage_89 ?_
                refine lv_iconst (v := 1) hx hb dX1_stage_92 (by decide) ?_
                refine lv_iadd hx hb dX1_stage_93 ?_
                rw [show nSt μ + 1 = nI (nb + 1) from by rw [hnb, nI_1]]
                refine va_put (D := (dC, dI)) (ci := 1) (v := .int (nI (nb + 1))) (ty := .int) (C := RX1) (T := TX1) (N := 12) hx hb hB inX1 tyX1 tyX1_ok nmX1 hown hK hP hD hS 0 rfl rfl 8 (by decide) (hB _ mX1_f_staged) (fun _ h9 => h9) rfl (by decide +kernel) rfl rfl (Nat.le_of_ble_eq_true rfl) dX1_stage_94 (fun H locs hP hD hS => ?_)
                have hP : va_P (dC, dI) vwCl (wN B cI cZ (mkN (0) (nWc μ) (nTc μ) (nLc μ) (nWr μ) (nOf μ) (nUn μ) (nOp μ) ((nI (nb + 1))) (upd (nKs μ) (nb) (key)) (upd (nVs μ) (nb) (v)) (nTs μ))) H := hP
                have hD : va_D AA (wN B cI cZ (mkN (0) (nWc μ) (nTc μ) (nLc μ) (nWr μ) (nOf μ) (nUn μ) (nOp μ) ((nI (nb + 1))) (upd (nKs μ) (nb) (key)) (upd (nVs μ) (nb) (v)) (nTs μ))) := hD
                refine lv_aload_n hx hb dX1_stage_97 rfl (lv_at hl 0 rfl) ?_
                refine va_get (D := (dC, dI)) (ci := 1) (v := .int ((nI (nb + 1)))) (C := RX1) (T := TX1) (N := 12) hx hb hB inX1 hown hK hP 0 rfl rfl 8 (by decide) (hB _ mX1_f_staged) (fun _ h9 => h9) rfl dX1_stage_98 ?_
                exact W.iret (v := ((nI (nb + 1)))) hx hb hr (fun t ht hW => ⟨⟨((nI (nb + 1))), mkN (0) (nWc μ) (nTc μ) (nLc μ) (nWr μ) (nOf μ) (nUn μ) (nOp μ) ((nI (nb + 1))) (upd (nKs μ) (nb) (key)) (upd (nVs μ) (nb) (v)) (nTs μ), rfl, ⟨by rw [hr_stage, if_pos hk], by rw [hs_stage, if_pos hk]⟩, by rw [ht]; exact hP, va_K.moved hW.alike hK, hD⟩, hS.F ht⟩) hS.2.2 dX1_stage_101
              · skip
                exact absurd rfl h9
            · skip
              have hn8 : nb = 8 := (nI_eq (by omega) (by decide)).mp h6
              refine lv_iconst (v := 2) hx hb dX1_stage_50 (by decide) ?_
              refine lv_goto (tgt := 55) hx hb dX1_stage_51 rfl ?_
              have hk : hk_stage μ nb key v = 2 := by rw [hk_stage, if_neg h0, if_pos (Or.inr (Or.inr hn8))]
              have hkn : ¬ hk_stage μ nb key v = 0 := by rw [hk]; decide
              refine va_put (D := (dC, dI)) (ci := 1) (v := .int 2) (ty := .int) (C := RX1) (T := TX1) (N := 12) hx hb hB inX1 tyX1 tyX1_ok nmX1 hown hK hP hD hS 0 rfl rfl 0 (by decide) (hB _ mX1_f_thrown) (fun _ h9 => h9) rfl (by decide +kernel) rfl rfl (Nat.le_of_ble_eq_true rfl) dX1_stage_55 (fun H locs hP hD hS => ?_)
              have hP : va_P (dC, dI) vwCl (wN B cI cZ (mkN (2) (nWc μ) (nTc μ) (nLc μ) (nWr μ) (nOf μ) (nUn μ) (nOp μ) (nSt μ) (nKs μ) (nVs μ) (nTs μ))) H := hP
              have hD : va_D AA (wN B cI cZ (mkN (2) (nWc μ) (nTc μ) (nLc μ) (nWr μ) (nOf μ) (nUn μ) (nOp μ) (nSt μ) (nKs μ) (nVs μ) (nTs μ))) := hD
              refine lv_aload_n hx hb dX1_stage_58 rfl (lv_at hl 0 rfl) ?_
              refine va_get (D := (dC, dI)) (ci := 1) (v := .int (2)) (C := RX1) (T := TX1) (N := 12) hx hb hB inX1 hown hK hP 0 rfl rfl 0 (by decide) (hB _ mX1_f_thrown) (fun _ h9 => h9) rfl dX1_stage_59 ?_
              refine lv_if_eq (tgt := 67) hx hb dX1_stage_62 rfl (fun h9 => ?_) (fun h9 => ?_)
              · skip
                exact absurd h9 (by decide)
              · skip
                refine lv_iconst (v := 0) hx hb dX1_stage_65 (by decide) ?_
                exact W.iret (v := 0) hx hb hr (fun t ht hW => ⟨⟨0, mkN (2) (nWc μ) (nTc μ) (nLc μ) (nWr μ) (nOf μ) (nUn μ) (nOp μ) (nSt μ) (nKs μ) (nVs μ) (nTs μ), rfl, ⟨by rw [hr_stage, if_neg hkn], by rw [hs_stage, if_neg hkn, hk]⟩, by rw [ht]; exact hP, va_K.moved hW.alike hK, hD⟩, hS.F ht⟩) hS.2.2 dX1_stage_66
      · skip
        refine lv_iconst (v := 1) hx hb dX1_stage_23 (by decide) ?_
        refine lv_goto (tgt := 55) hx hb dX1_stage_24 rfl ?_
        have hk : hk_stage μ nb key v = 1 := by rw [hk_stage, if_pos (Or.inr (bI_n0.mp h3))]
        have hkn : ¬ hk_stage μ nb key v = 0 := by rw [hk]; decide
        refine va_put (D := (dC, dI)) (ci := 1) (v := .int 1) (ty := .int) (C := RX1) (T := TX1) (N := 12) hx hb hB inX1 tyX1 tyX1_ok nmX1 hown hK hP hD hS 0 rfl rfl 0 (by decide) (hB _ mX1_f_thrown) (fun _ h9 => h9) rfl (by decide +kernel) rfl rfl (Nat.le_of_ble_eq_true rfl) dX1_stage_55 (fun H locs hP hD hS => ?_)
        have hP : va_P (dC, dI) vwCl (wN B cI cZ (mkN (1) (nWc μ) (nTc μ) (nLc μ) (nWr μ) (nOf μ) (nUn μ) (nOp μ) (nSt μ) (nKs μ) (nVs μ) (nTs μ))) H := hP
        have hD : va_D AA (wN B cI cZ (mkN (1) (nWc μ) (nTc μ) (nLc μ) (nWr μ) (nOf μ) (nUn μ) (nOp μ) (nSt μ) (nKs μ) (nVs μ) (nTs μ))) := hD
        refine lv_aload_n hx hb dX1_stage_58 rfl (lv_at hl 0 rfl) ?_
        refine va_get (D := (dC, dI)) (ci := 1) (v := .int (1)) (C := RX1) (T := TX1) (N := 12) hx hb hB inX1 hown hK hP 0 rfl rfl 0 (by decide) (hB _ mX1_f_thrown) (fun _ h9 => h9) rfl dX1_stage_59 ?_
        refine lv_if_eq (tgt := 67) hx hb dX1_stage_62 rfl (fun h9 => ?_) (fun h9 => ?_)
        · skip
          exact absurd h9 (by decide)
        · skip
          refine lv_iconst (v := 0) hx hb dX1_stage_65 (by decide) ?_
          exact W.iret (v := 0) hx hb hr (fun t ht hW => ⟨⟨0, mkN (1) (nWc μ) (nTc μ) (nLc μ) (nWr μ) (nOf μ) (nUn μ) (nOp μ) (nSt μ) (nKs μ) (nVs μ) (nTs μ), rfl, ⟨by rw [hr_stage, if_neg hkn], by rw [hs_stage, if_neg hkn, hk]⟩, by rw [ht]; exact hP, va_K.moved hW.alike hK, hD⟩, hS.F ht⟩) hS.2.2 dX1_stage_66
set_option maxHeartbeats 4000000 in
set_option maxRecDepth 100000 in
theorem cm1_abandon (l : Launch) (dC : Nat → ClassId) (dI : Nat → Nat → Nat) (B : Nat → Nat) (cI : ClassId) (cZ : ClassId) (μ : NS) (sz : Nat) : Met l yX1_abandon wsX1_abandon (rk 6) (va_Pc [.ref (B 0)] (nPre (dC, dI) B cI cZ μ sz)) (va_Qi (fun r u => r = hr_ab μ ∧ u = hs_ab μ) (nB (dC, dI) B cI cZ (nX B cI cZ μ sz)) (nX B cI cZ μ sz)) 0 0 (nX B cI cZ μ sz) := by
  refine Met.ofW (cc := cX1_abandon) (maxL := 1) (ret := (some .int)) (by decide) rfl ?_
  intro p e s m args below meth c s₁ Bd hml hv
  obtain ⟨rfl, hsz, hP, hK, hD0⟩ := hv
  have hx := Bd.exec
  have hb := Bd.bytes
  have hr := Bd.returns
  have hB : ∀ w ∈ bX1, w.before _ s = true := fun w h => atoms_spec (ws := wsX1_abandon) Bd.pre w (List.mem_cons_of_mem _ h)
  have hown : s.vm.findClass RX1 = some m.cls := findClass_of_methodNamed Bd.named
  have hlocks := Bd.notSynchronized
  subst hsz
  have hD : va_D (nX B cI cZ μ s.heap.size) (wN B cI cZ μ) := hD0.self (sz := s.heap.size)
  have hA : ∀ q : Nat, s.heap.size ≤ q → nX B cI cZ μ s.heap.size q := fun q h => Or.inr h
  generalize nX B cI cZ μ s.heap.size = AA at hD hA ⊢
  have hS : va_S AA s.heap s.heap [] := va_S.rf
  have hl := lv_entry ([.ref (B 0)]) (n := 1) (Nat.le_of_ble_eq_true rfl)
  rw [lg_entry_eq]
  generalize (lg_sl ([.ref (B 0)]) ++ List.replicate (1 - (lg_sl ([.ref (B 0)])).length) Slot.unset).toArray = ls at hl ⊢
  have hl : lv_has ls 1 [(0, .ref (B 0))] := hl
  refine lv_aload_n hx hb dX1_abandon_0 rfl (lv_at hl 0 rfl) ?_
  refine lv_aload_n hx hb dX1_abandon_1 rfl (lv_at hl 0 rfl) ?_
  refine va_get (D := (dC, dI)) (ci := 1) (v := .int (nOf μ)) (C := RX1) (T := TX1) (N := 12) hx hb hB inX1 hown hK hP 0 rfl rfl 5 (by decide) (hB _ mX1_f_off) (fun _ h9 => h9) rfl dX1_abandon_2 ?_
  refine lv_if_ne (tgt := 15) hx hb dX1_abandon_5 rfl (fun h1 => ?_) (fun h1 => ?_)
  · skip
    refine lv_iconst (v := 1) hx hb dX1_abandon_15 (by decide) ?_
    refine lv_goto (tgt := 20) hx hb dX1_abandon_16 rfl ?_
    have hk : hk_open μ = 1 := by rw [hk_open, if_pos (Or.inl h1)]
    have hkn : ¬ hk_open μ = 0 := by rw [hk]; decide
    refine va_put (D := (dC, dI)) (ci := 1) (v := .int 1) (ty := .int) (C := RX1) (T := TX1) (N := 12) hx hb hB inX1 tyX1 tyX1_ok nmX1 hown hK hP hD hS 0 rfl rfl 0 (by decide) (hB _ mX1_f_thrown) (fun _ h9 => h9) rfl (by decide +kernel) rfl rfl (Nat.le_of_ble_eq_true rfl) dX1_abandon_20 (fun H locs hP hD hS => ?_)
    have hP : va_P (dC, dI) vwCl (wN B cI cZ (mkN (1) (nWc μ) (nTc μ) (nLc μ) (nWr μ) (nOf μ) (nUn μ) (nOp μ) (nSt μ) (nKs μ) (nVs μ) (nTs μ))) H := hP
    have hD : va_D AA (wN B cI cZ (mkN (1) (nWc μ) (nTc μ) (nLc μ) (nWr μ) (nOf μ) (nUn μ) (nOp μ) (nSt μ) (nKs μ) (nVs μ) (nTs μ))) := hD
    refine lv_aload_n hx hb dX1_abandon_23 rfl (lv_at hl 0 rfl) ?_
    refine va_get (D := (dC, dI)) (ci := 1) (v := .int (1)) (C := RX1) (T := TX1) (N := 12) hx hb hB inX1 hown hK hP 0 rfl rfl 0 (by decide) (hB _ mX1_f_thrown) (fun _ h9 => h9) rfl dX1_abandon_24 ?_
    refine lv_if_eq (tgt := 32) hx hb dX1_abandon_27 rfl (fun h9 => ?_) (fun h9 => ?_)
    · skip
      exact absurd h9 (by decide)
    · skip
      refine lv_iconst (v := 0) hx hb dX1_abandon_30 (by decide) ?_
      exact W.iret (v := 0) hx hb hr (fun t ht hW => ⟨⟨0, mkN (1) (nWc μ) (nTc μ) (nLc μ) (nWr μ) (nOf μ) (nUn μ) (nOp μ) (nSt μ) (nKs μ) (nVs μ) (nTs μ), rfl, ⟨by rw [hr_ab, if_neg hkn], by rw [hs_ab, if_neg hkn, hk]⟩, by rw [ht]; exact hP, va_K.moved hW.alike hK, hD⟩, hS.F ht⟩) hS.2.2 dX1_abandon_31
  · skip
    refine lv_aload_n hx hb dX1_abandon_8 rfl (lv_at hl 0 rfl) ?_
    refine va_get (D := (dC, dI)) (ci := 1) (v := .int (nOp μ)) (C := RX1) (T := TX1) (N := 12) hx hb hB inX1 hown hK hP 0 rfl rfl 7 (by decide) (hB _ mX1_f_open) (fun _ h9 => h9) rfl dX1_abandon_9 ?_
    refine lv_if_ne (tgt := 19) hx hb dX1_abandon_12 rfl (fun h2 => ?_) (fun h2 => ?_)
    · skip
      refine lv_iconst (v := 0) hx hb dX1_abandon_19 (by decide) ?_
      have hk : hk_open μ = 0 := by rw [hk_open, if_neg (fun h => h.elim (fun z => z h1) h2)]
      refine va_put (D := (dC, dI)) (ci := 1) (v := .int 0) (ty := .int) (C := RX1) (T := TX1) (N := 12) hx hb hB inX1 tyX1 tyX1_ok nmX1 hown hK hP hD hS 0 rfl rfl 0 (by decide) (hB _ mX1_f_thrown) (fun _ h9 => h9) rfl (by decide +kernel) rfl rfl (Nat.le_of_ble_eq_true rfl) dX1_abandon_20 (fun H locs hP hD hS => ?_)
      have hP : va_P (dC, dI) vwCl (wN B cI cZ (mkN (0) (nWc μ) (nTc μ) (nLc μ) (nWr μ) (nOf μ) (nUn μ) (nOp μ) (nSt μ) (nKs μ) (nVs μ) (nTs μ))) H := hP
      have hD : va_D AA (wN B cI cZ (mkN (0) (nWc μ) (nTc μ) (nLc μ) (nWr μ) (nOf μ) (nUn μ) (nOp μ) (nSt μ) (nKs μ) (nVs μ) (nTs μ))) := hD
      refine lv_aload_n hx hb dX1_abandon_23 rfl (lv_at hl 0 rfl) ?_
      refine va_get (D := (dC, dI)) (ci := 1) (v := .int (0)) (C := RX1) (T := TX1) (N := 12) hx hb hB inX1 hown hK hP 0 rfl rfl 0 (by decide) (hB _ mX1_f_thrown) (fun _ h9 => h9) rfl dX1_abandon_24 ?_
      refine lv_if_eq (tgt := 32) hx hb dX1_abandon_27 rfl (fun h9 => ?_) (fun h9 => ?_)
      · skip
        refine lv_aload_n hx hb dX1_abandon_32 rfl (lv_at hl 0 rfl) ?_
        refine lv_iconst (v := 0) hx hb dX1_abandon_33 (by decide) ?_
        refine va_put (D := (dC, dI)) (ci := 1) (v := .int 0) (ty := .boolean) (C := RX1) (T := TX1) (N := 12) hx hb hB inX1 tyX1 tyX1_ok nmX1 hown hK hP hD hS 0 rfl rfl 7 (by decide) (hB _ mX1_f_open) (fun _ h9 => h9) rfl (by decide +kernel) rfl rfl (Nat.le_of_ble_eq_true rfl) dX1_abandon_34 (fun H locs hP hD hS => ?_)
        have hP : va_P (dC, dI) vwCl (wN B cI cZ (mkN (0) (nWc μ) (nTc μ) (nLc μ) (nWr μ) (nOf μ) (nUn μ) (0) (nSt μ) (nKs μ) (nVs μ) (nTs μ))) H := hP
        have hD : va_D AA (wN B cI cZ (mkN (0) (nWc μ) (nTc μ) (nLc μ) (nWr μ) (nOf μ) (nUn μ) (0) (nSt μ) (nKs μ) (nVs μ) (nTs μ))) := hD
        refine lv_aload_n hx hb dX1_abandon_37 rfl (lv_at hl 0 rfl) ?_
        refine va_get (D := (dC, dI)) (ci := 1) (v := .int (nSt μ)) (C := RX1) (T := TX1) (N := 12) hx hb hB inX1 hown hK hP 0 rfl rfl 8 (by decide) (hB _ mX1_f_staged) (fun _ h9 => h9) rfl dX1_abandon_38 ?_
        exact W.iret (v := (nSt μ)) hx hb hr (fun t ht hW => ⟨⟨(nSt μ), mkN (0) (nWc μ) (nTc μ) (nLc μ) (nWr μ) (nOf μ) (nUn μ) (0) (nSt μ) (nKs μ) (nVs μ) (nTs μ), rfl, ⟨by rw [hr_ab, if_pos hk], by rw [hs_ab, if_pos hk]⟩, by rw [ht]; exact hP, va_K.moved hW.alike hK, hD⟩, hS.F ht⟩) hS.2.2 dX1_abandon_41
      · skip
        exact absurd rfl h9
    · skip
      refine lv_iconst (v := 1) hx hb dX1_abandon_15 (by decide) ?_
      refine lv_goto (tgt := 20) hx hb dX1_abandon_16 rfl ?_
      have hk : hk_open μ = 1 := by rw [hk_open, if_pos (Or.inr h2)]
      have hkn : ¬ hk_open μ = 0 := by rw [hk]; decide
      refine va_put (D := (dC, dI)) (ci := 1) (v := .int 1) (ty := .int) (C := RX1) (T := TX1) (N := 12) hx hb hB inX1 tyX1 tyX1_ok nmX1 hown hK hP hD hS 0 rfl rfl 0 (by decide) (hB _ mX1_f_thrown) (fun _ h9 => h9) rfl (by decide +kernel) rfl rfl (Nat.le_of_ble_eq_true rfl) dX1_abandon_20 (fun H locs hP hD hS => ?_)
      have hP : va_P (dC, dI) vwCl (wN B cI cZ (mkN (1) (nWc μ) (nTc μ) (nLc μ) (nWr μ) (nOf μ) (nUn μ) (nOp μ) (nSt μ) (nKs μ) (nVs μ) (nTs μ))) H := hP
      have hD : va_D AA (wN B cI cZ (mkN (1) (nWc μ) (nTc μ) (nLc μ) (nWr μ) (nOf μ) (nUn μ) (nOp μ) (nSt μ) (nKs μ) (nVs μ) (nTs μ))) := hD
      refine lv_aload_n hx hb dX1_abandon_23 rfl (lv_at hl 0 rfl) ?_
      refine va_get (D := (dC, dI)) (ci := 1) (v := .int (1)) (C := RX1) (T := TX1) (N := 12) hx hb hB inX1 hown hK hP 0 rfl rfl 0 (by decide) (hB _ mX1_f_thrown) (fun _ h9 => h9) rfl dX1_abandon_24 ?_
      refine lv_if_eq (tgt := 32) hx hb dX1_abandon_27 rfl (fun h9 => ?_) (fun h9 => ?_)
      · skip
        exact absurd h9 (by decide)
      · skip
        refine lv_iconst (v := 0) hx hb dX1_abandon_30 (by decide) ?_
        exact W.iret (v := 0) hx hb hr (fun t ht hW => ⟨⟨0, mkN (1) (nWc μ) (nTc μ) (nLc μ) (nWr μ) (nOf μ) (nUn μ) (nOp μ) (nSt μ) (nKs μ) (nVs μ) (nTs μ), rfl, ⟨by rw [hr_ab, if_neg hkn], by rw [hs_ab, if_neg hkn, hk]⟩, by rw [ht]; exact hP, va_K.moved hW.alike hK, hD⟩, hS.F ht⟩) hS.2.2 dX1_abandon_31
set_option maxHeartbeats 4000000 in
set_option maxRecDepth 100000 in
theorem cm1_failAfter (l : Launch) (dC : Nat → ClassId) (dI : Nat → Nat → Nat) (B : Nat → Nat) (cI : ClassId) (cZ : ClassId) (μ : NS) (sz : Nat) (x : Int32) : Met l yX1_failAfter wsX1_failAfter (rk 6) (va_Pc [.ref (B 0), .int x] (nPre (dC, dI) B cI cZ μ sz)) (va_Qv (fun u => u = hs_fail μ x) (nB (dC, dI) B cI cZ (nX B cI cZ μ sz)) (nX B cI cZ μ sz)) 0 0 (nX B cI cZ μ sz) := by
  refine Met.ofW (cc := cX1_failAfter) (maxL := 2) (ret := none) (by decide) rfl ?_
  intro p e s m args below meth c s₁ Bd hml hv
  obtain ⟨rfl, hsz, hP, hK, hD0⟩ := hv
  have hx := Bd.exec
  have hb := Bd.bytes
  have hr := Bd.returns
  have hB : ∀ w ∈ bX1, w.before _ s = true := fun w h => atoms_spec (ws := wsX1_failAfter) Bd.pre w (List.mem_cons_of_mem _ h)
  have hown : s.vm.findClass RX1 = some m.cls := findClass_of_methodNamed Bd.named
  have hlocks := Bd.notSynchronized
  subst hsz
  have hD : va_D (nX B cI cZ μ s.heap.size) (wN B cI cZ μ) := hD0.self (sz := s.heap.size)
  have hA : ∀ q : Nat, s.heap.size ≤ q → nX B cI cZ μ s.heap.size q := fun q h => Or.inr h
  generalize nX B cI cZ μ s.heap.size = AA at hD hA ⊢
  have hS : va_S AA s.heap s.heap [] := va_S.rf
  have hl := lv_entry ([.ref (B 0), .int x]) (n := 2) (Nat.le_of_ble_eq_true rfl)
  rw [lg_entry_eq]
  generalize (lg_sl ([.ref (B 0), .int x]) ++ List.replicate (2 - (lg_sl ([.ref (B 0), .int x])).length) Slot.unset).toArray = ls at hl ⊢
  have hl : lv_has ls 2 [(0, .ref (B 0)), (1, .int x)] := hl
  refine lv_aload_n hx hb dX1_failAfter_0 rfl (lv_at hl 0 rfl) ?_
  refine lv_iload_n hx hb dX1_failAfter_1 rfl (lv_at hl 1 rfl) ?_
  refine lv_iconst (v := (-1)) hx hb dX1_failAfter_2 (by decide) ?_
  refine lv_icmp_lt (tgt := 13) hx hb dX1_failAfter_3 rfl (fun h1 => ?_) (fun h1 => ?_)
  · skip
    refine lv_iconst (v := 1) hx hb dX1_failAfter_13 (by decide) ?_
    refine lv_goto (tgt := 29) hx hb dX1_failAfter_14 rfl ?_
    have hk : hk_fail μ x = 1 := by rw [hk_fail, if_pos (Or.inl h1)]
    refine va_put (D := (dC, dI)) (ci := 1) (v := .int 1) (ty := .int) (C := RX1) (T := TX1) (N := 12) hx hb hB inX1 tyX1 tyX1_ok nmX1 hown hK hP hD hS 0 rfl rfl 0 (by decide) (hB _ mX1_f_thrown) (fun _ h9 => h9) rfl (by decide +kernel) rfl rfl (Nat.le_of_ble_eq_true rfl) dX1_failAfter_29 (fun H locs hP hD hS => ?_)
    have hP : va_P (dC, dI) vwCl (wN B cI cZ (mkN (1) (nWc μ) (nTc μ) (nLc μ) (nWr μ) (nOf μ) (nUn μ) (nOp μ) (nSt μ) (nKs μ) (nVs μ) (nTs μ))) H := hP
    have hD : va_D AA (wN B cI cZ (mkN (1) (nWc μ) (nTc μ) (nLc μ) (nWr μ) (nOf μ) (nUn μ) (nOp μ) (nSt μ) (nKs μ) (nVs μ) (nTs μ))) := hD
    refine lv_aload_n hx hb dX1_failAfter_32 rfl (lv_at hl 0 rfl) ?_
    refine va_get (D := (dC, dI)) (ci := 1) (v := .int (1)) (C := RX1) (T := TX1) (N := 12) hx hb hB inX1 hown hK hP 0 rfl rfl 0 (by decide) (hB _ mX1_f_thrown) (fun _ h9 => h9) rfl dX1_failAfter_33 ?_
    refine lv_if_ne (tgt := 44) hx hb dX1_failAfter_36 rfl (fun h9 => ?_) (fun h9 => ?_)
    · skip
      exact W.vret hx hb hr (fun t ht hW => ⟨⟨mkN (1) (nWc μ) (nTc μ) (nLc μ) (nWr μ) (nOf μ) (nUn μ) (nOp μ) (nSt μ) (nKs μ) (nVs μ) (nTs μ), rfl, by rw [hs_fail, if_neg (by rw [hk]; decide), hk], by rw [ht]; exact hP, va_K.moved hW.alike hK, hD⟩, hS.F ht⟩) hS.2.2 dX1_failAfter_44
    · skip
      exact absurd h9 (by decide)
  · skip
    refine lv_iload_n hx hb dX1_failAfter_6 rfl (lv_at hl 1 rfl) ?_
    refine lv_sipush (v := 1000) hx hb dX1_failAfter_7 (by decide) ?_
    refine lv_icmp_le (tgt := 17) hx hb dX1_failAfter_10 rfl (fun h2 => ?_) (fun h2 => ?_)
    · skip
      have h0 : ¬ (x < -1 ∨ ¬ x ≤ 1000) := fun h => h.elim h1 (fun z => z h2)
      refine lv_aload_n hx hb dX1_failAfter_17 rfl (lv_at hl 0 rfl) ?_
      refine va_get (D := (dC, dI)) (ci := 1) (v := .int (nOf μ)) (C := RX1) (T := TX1) (N := 12) hx hb hB inX1 hown hK hP 0 rfl rfl 5 (by decide) (hB _ mX1_f_off) (fun _ h9 => h9) rfl dX1_failAfter_18 ?_
      refine lv_if_eq (tgt := 28) hx hb dX1_failAfter_21 rfl (fun h3 => ?_) (fun h3 => ?_)
      · skip
        refine lv_iconst (v := 0) hx hb dX1_failAfter_28 (by decide) ?_
        have hk : hk_fail μ x = 0 := by rw [hk_fail, if_neg h0, if_neg (fun h => h h3)]
        refine va_put (D := (dC, dI)) (ci := 1) (v := .int 0) (ty := .int) (C := RX1) (T := TX1) (N := 12) hx hb hB inX1 tyX1 tyX1_ok nmX1 hown hK hP hD hS 0 rfl rfl 0 (by decide) (hB _ mX1_f_thrown) (fun _ h9 => h9) rfl (by decide +kernel) rfl rfl (Nat.le_of_ble_eq_true rfl) dX1_failAfter_29 (fun H locs hP hD hS => ?_)
        have hP : va_P (dC, dI) vwCl (wN B cI cZ (mkN (0) (nWc μ) (nTc μ) (nLc μ) (nWr μ) (nOf μ) (nUn μ) (nOp μ) (nSt μ) (nKs μ) (nVs μ) (nTs μ))) H := hP
        have hD : va_D AA (wN B cI cZ (mkN (0) (nWc μ) (nTc μ) (nLc μ) (nWr μ) (nOf μ) (nUn μ) (nOp μ) (nSt μ) (nKs μ) (nVs μ) (nTs μ))) := hD
        refine lv_aload_n hx hb dX1_failAfter_32 rfl (lv_at hl 0 rfl) ?_
        refine va_get (D := (dC, dI)) (ci := 1) (v := .int (0)) (C := RX1) (T := TX1) (N := 12) hx hb hB inX1 hown hK hP 0 rfl rfl 0 (by decide) (hB _ mX1_f_thrown) (fun _ h9 => h9) rfl dX1_failAfter_33 ?_
        refine lv_if_ne (tgt := 44) hx hb dX1_failAfter_36 rfl (fun h9 => ?_) (fun h9 => ?_)
        · skip
          exact absurd rfl h9
        · skip
          refine lv_aload_n hx hb dX1_failAfter_39 rfl (lv_at hl 0 rfl) ?_
          refine lv_iload_n hx hb dX1_failAfter_40 rfl (lv_at hl 1 rfl) ?_
          refine va_put (D := (dC, dI)) (ci := 1) (v := .int x) (ty := .int) (C := RX1) (T := TX1) (N := 12) hx hb hB inX1 tyX1 tyX1_ok nmX1 hown hK hP hD hS 0 rfl rfl 6 (by decide) (hB _ mX1_f_until) (fun _ h9 => h9) rfl (by decide +kernel) rfl rfl (Nat.le_of_ble_eq_true rfl) dX1_failAfter_41 (fun H locs hP hD hS => ?_)
          have hP : va_P (dC, dI) vwCl (wN B cI cZ (mkN (0) (nWc μ) (nTc μ) (nLc μ) (nWr μ) (nOf μ) (x) (nOp μ) (nSt μ) (nKs μ) (nVs μ) (nTs μ))) H := hP
          have hD : va_D AA (wN B cI cZ (mkN (0) (nWc μ) (nTc μ) (nLc μ) (nWr μ) (nOf μ) (x) (nOp μ) (nSt μ) (nKs μ) (nVs μ) (nTs μ))) := hD
          exact W.vret hx hb hr (fun t ht hW => ⟨⟨mkN (0) (nWc μ) (nTc μ) (nLc μ) (nWr μ) (nOf μ) (x) (nOp μ) (nSt μ) (nKs μ) (nVs μ) (nTs μ), rfl, by rw [hs_fail, if_pos hk], by rw [ht]; exact hP, va_K.moved hW.alike hK, hD⟩, hS.F ht⟩) hS.2.2 dX1_failAfter_44
      · skip
        refine lv_iconst (v := 2) hx hb dX1_failAfter_24 (by decide) ?_
        refine lv_goto (tgt := 29) hx hb dX1_failAfter_25 rfl ?_
        have hk : hk_fail μ x = 2 := by rw [hk_fail, if_neg h0, if_pos h3]
        refine va_put (D := (dC, dI)) (ci := 1) (v := .int 2) (ty := .int) (C := RX1) (T := TX1) (N := 12) hx hb hB inX1 tyX1 tyX1_ok nmX1 hown hK hP hD hS 0 rfl rfl 0 (by decide) (hB _ mX1_f_thrown) (fun _ h9 => h9) rfl (by decide +kernel) rfl rfl (Nat.le_of_ble_eq_true rfl) dX1_failAfter_29 (fun H locs hP hD hS => ?_)
        have hP : va_P (dC, dI) vwCl (wN B cI cZ (mkN (2) (nWc μ) (nTc μ) (nLc μ) (nWr μ) (nOf μ) (nUn μ) (nOp μ) (nSt μ) (nKs μ) (nVs μ) (nTs μ))) H := hP
        have hD : va_D AA (wN B cI cZ (mkN (2) (nWc μ) (nTc μ) (nLc μ) (nWr μ) (nOf μ) (nUn μ) (nOp μ) (nSt μ) (nKs μ) (nVs μ) (nTs μ))) := hD
        refine lv_aload_n hx hb dX1_failAfter_32 rfl (lv_at hl 0 rfl) ?_
        refine va_get (D := (dC, dI)) (ci := 1) (v := .int (2)) (C := RX1) (T := TX1) (N := 12) hx hb hB inX1 hown hK hP 0 rfl rfl 0 (by decide) (hB _ mX1_f_thrown) (fun _ h9 => h9) rfl dX1_failAfter_33 ?_
        refine lv_if_ne (tgt := 44) hx hb dX1_failAfter_36 rfl (fun h9 => ?_) (fun h9 => ?_)
        · skip
          exact W.vret hx hb hr (fun t ht hW => ⟨⟨mkN (2) (nWc μ) (nTc μ) (nLc μ) (nWr μ) (nOf μ) (nUn μ) (nOp μ) (nSt μ) (nKs μ) (nVs μ) (nTs μ), rfl, by rw [hs_fail, if_neg (by rw [hk]; decide), hk], by rw [ht]; exact hP, va_K.moved hW.alike hK, hD⟩, hS.F ht⟩) hS.2.2 dX1_failAfter_44
        · skip
          exact absurd h9 (by decide)
    · skip
      refine lv_iconst (v := 1) hx hb dX1_failAfter_13 (by decide) ?_
      refine lv_goto (tgt := 29) hx hb dX1_failAfter_14 rfl ?_
      have hk : hk_fail μ x = 1 := by rw [hk_fail, if_pos (Or.inr h2)]
      refine va_put (D := (dC, dI)) (ci := 1) (v := .int 1) (ty := .int) (C := RX1) (T := TX1) (N := 12) hx hb hB inX1 tyX1 tyX1_ok nmX1 hown hK hP hD hS 0 rfl rfl 0 (by decide) (hB _ mX1_f_thrown) (fun _ h9 => h9) rfl (by decide +kernel) rfl rfl (Nat.le_of_ble_eq_true rfl) dX1_failAfter_29 (fun H locs hP hD hS => ?_)
      have hP : va_P (dC, dI) vwCl (wN B cI cZ (mkN (1) (nWc μ) (nTc μ) (nLc μ) (nWr μ) (nOf μ) (nUn μ) (nOp μ) (nSt μ) (nKs μ) (nVs μ) (nTs μ))) H := hP
      have hD : va_D AA (wN B cI cZ (mkN (1) (nWc μ) (nTc μ) (nLc μ) (nWr μ) (nOf μ) (nUn μ) (nOp μ) (nSt μ) (nKs μ) (nVs μ) (nTs μ))) := hD
      refine lv_aload_n hx hb dX1_failAfter_32 rfl (lv_at hl 0 rfl) ?_
      refine va_get (D := (dC, dI)) (ci := 1) (v := .int (1)) (C := RX1) (T := TX1) (N := 12) hx hb hB inX1 hown hK hP 0 rfl rfl 0 (by decide) (hB _ mX1_f_thrown) (fun _ h9 => h9) rfl dX1_failAfter_33 ?_
      refine lv_if_ne (tgt := 44) hx hb dX1_failAfter_36 rfl (fun h9 => ?_) (fun h9 => ?_)
      · skip
        exact W.vret hx hb hr (fun t ht hW => ⟨⟨mkN (1) (nWc μ) (nTc μ) (nLc μ) (nWr μ) (nOf μ) (nUn μ) (nOp μ) (nSt μ) (nKs μ) (nVs μ) (nTs μ), rfl, by rw [hs_fail, if_neg (by rw [hk]; decide), hk], by rw [ht]; exact hP, va_K.moved hW.alike hK, hD⟩, hS.F ht⟩) hS.2.2 dX1_failAfter_44
      · skip
        exact absurd h9 (by decide)
set_option maxHeartbeats 4000000 in
set_option maxRecDepth 100000 in
theorem cm1_isOn (l : Launch) (dC : Nat → ClassId) (dI : Nat → Nat → Nat) (B : Nat → Nat) (cI : ClassId) (cZ : ClassId) (μ : NS) (sz : Nat) : Met l yX1_isOn wsX1_isOn (rk 6) (va_Pc [.ref (B 0)] (nPre (dC, dI) B cI cZ μ sz)) (va_Qi (fun r u => r = bI (decide (nOf μ = 0)) ∧ u = h_th μ 0) (nB (dC, dI) B cI cZ (nX B cI cZ μ sz)) (nX B cI cZ μ sz)) 0 0 (nX B cI cZ μ sz) := by
  refine Met.ofW (cc := cX1_isOn) (maxL := 1) (ret := (some .boolean)) (by decide) rfl ?_
  intro p e s m args below meth c s₁ Bd hml hv
  obtain ⟨rfl, hsz, hP, hK, hD0⟩ := hv
  have hx := Bd.exec
  have hb := Bd.bytes
  have hr := Bd.returns
  have hB : ∀ w ∈ bX1, w.before _ s = true := fun w h => atoms_spec (ws := wsX1_isOn) Bd.pre w (List.mem_cons_of_mem _ h)
  have hown : s.vm.findClass RX1 = some m.cls := findClass_of_methodNamed Bd.named
  have hlocks := Bd.notSynchronized
  subst hsz
  have hD : va_D (nX B cI cZ μ s.heap.size) (wN B cI cZ μ) := hD0.self (sz := s.heap.size)
  have hA : ∀ q : Nat, s.heap.size ≤ q → nX B cI cZ μ s.heap.size q := fun q h => Or.inr h
  generalize nX B cI cZ μ s.heap.size = AA at hD hA ⊢
  have hS : va_S AA s.heap s.heap [] := va_S.rf
  have hl := lv_entry ([.ref (B 0)]) (n := 1) (Nat.le_of_ble_eq_true rfl)
  rw [lg_entry_eq]
  generalize (lg_sl ([.ref (B 0)]) ++ List.replicate (1 - (lg_sl ([.ref (B 0)])).length) Slot.unset).toArray = ls at hl ⊢
  have hl : lv_has ls 1 [(0, .ref (B 0))] := hl
  refine lv_aload_n hx hb dX1_isOn_0 rfl (lv_at hl 0 rfl) ?_
  refine lv_iconst (v := 0) hx hb dX1_isOn_1 (by decide) ?_
  refine va_put (D := (dC, dI)) (ci := 1) (v := .int 0) (ty := .int) (C := RX1) (T := TX1) (N := 12) hx hb hB inX1 tyX1 tyX1_ok nmX1 hown hK hP hD hS 0 rfl rfl 0 (by decide) (hB _ mX1_f_thrown) (fun _ h9 => h9) rfl (by decide +kernel) rfl rfl (Nat.le_of_ble_eq_true rfl) dX1_isOn_2 (fun H locs hP hD hS => ?_)
  have hP : va_P (dC, dI) vwCl (wN B cI cZ (mkN (0) (nWc μ) (nTc μ) (nLc μ) (nWr μ) (nOf μ) (nUn μ) (nOp μ) (nSt μ) (nKs μ) (nVs μ) (nTs μ))) H := hP
  have hD : va_D AA (wN B cI cZ (mkN (0) (nWc μ) (nTc μ) (nLc μ) (nWr μ) (nOf μ) (nUn μ) (nOp μ) (nSt μ) (nKs μ) (nVs μ) (nTs μ))) := hD
  refine lv_aload_n hx hb dX1_isOn_5 rfl (lv_at hl 0 rfl) ?_
  refine va_get (D := (dC, dI)) (ci := 1) (v := .int (nOf μ)) (C := RX1) (T := TX1) (N := 12) hx hb hB inX1 hown hK hP 0 rfl rfl 5 (by decide) (hB _ mX1_f_off) (fun _ h9 => h9) rfl dX1_isOn_6 ?_
  refine lv_if_ne (tgt := 16) hx hb dX1_isOn_9 rfl (fun h1 => ?_) (fun h1 => ?_)
  · skip
    refine lv_iconst (v := 0) hx hb dX1_isOn_16 (by decide) ?_
    exact W.zret (v := 0) hx hb hr (rfl) (fun t ht hW => ⟨⟨0, mkN (0) (nWc μ) (nTc μ) (nLc μ) (nWr μ) (nOf μ) (nUn μ) (nOp μ) (nSt μ) (nKs μ) (nVs μ) (nTs μ), rfl, ⟨by simp [bI, h1], rfl⟩, by rw [ht]; exact hP, va_K.moved hW.alike hK, hD⟩, hS.F ht⟩) hS.2.2 dX1_isOn_17
  · skip
    refine lv_iconst (v := 1) hx hb dX1_isOn_12 (by decide) ?_
    refine lv_goto (tgt := 17) hx hb dX1_isOn_13 rfl ?_
    exact W.zret (v := 1) hx hb hr (rfl) (fun t ht hW => ⟨⟨1, mkN (0) (nWc μ) (nTc μ) (nLc μ) (nWr μ) (nOf μ) (nUn μ) (nOp μ) (nSt μ) (nKs μ) (nVs μ) (nTs μ), rfl, ⟨by simp [bI, h1], rfl⟩, by rw [ht]; exact hP, va_K.moved hW.alike hK, hD⟩, hS.F ht⟩) hS.2.2 dX1_isOn_17
