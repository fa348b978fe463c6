def ad7 (a b c d e f g : Nat) : Nat → Nat := fun k => match k with
  | 0 => a
  | 1 => b
  | 2 => c
  | 3 => d
  | 4 => e
  | 5 => f
  | _ => g
def rki (sl : Nat) : Room := { frames := 1, cells := 6, slots := sl, locals := 30 }
def σ0 : OS := mkO (fun _ => 0) (fun _ => 0) (fun _ => 0) 0 0 1 (-1) (fun _ => 0) (fun _ => 0) (fun _ => 0) 0 0
def μ0 : NS := mkN 0 (fun _ => 0) (fun _ => 0) (fun _ => 0) 0 0 (-1) 0 0 (fun _ => 0) (fun _ => 0) (fun _ => 0)
theorem va_K.one {D : va_G} {cl : List vw_C} {tys : List (ClassId × FieldType)} {s : State} {ty : FieldType} {a b : ClassId} (h : va_K D cl tys s) (i j : Nat) (hi : tys[i]? = some (a, ty)) (hj : tys[j]? = some (b, ty)) (hp : ∀ u v : ClassId, va_RA s u ty → va_RA s v ty → u = v) : a = b := hp a b (h.2 i _ hi).2 (h.2 j _ hj).2
theorem ra_int {s : State} (u v : ClassId) (h : va_RA s u .int) (k : va_RA s v .int) : u = v := Option.some.inj (h.symm.trans k)
theorem ra_bool {s : State} (u v : ClassId) (h : va_RA s u .boolean) (k : va_RA s v .boolean) : u = v := Option.some.inj (h.symm.trans k)
set_option maxHeartbeats 4000000 in
set_option maxRecDepth 100000 in
theorem cm0_init (l : Launch) (dC : Nat → ClassId) (dI : Nat → Nat → Nat) (h0 sz : Nat) : Met l yX0_init wsX0_init (rki 704) (va_Pc [.ref h0] (fun U => U.heap.size = sz ∧ va_P (dC, dI) vwCl [(h0, .inr (0, [.null, .null, .null, .int 0, .int 0, .int 0, .int 0, .null, .null, .null, .int 0, .int 0]))] U.heap ∧ va_K (dC, dI) vwCl [] U ∧ va_D (fun _ => True) [(h0, .inr (0, [.null, .null, .null, .int 0, .int 0, .int 0, .int 0, .null, .null, .null, .int 0, .int 0]))])) (va_Qv (fun _ : Unit => True) (fun _ t => ∃ (A : Nat → Nat) (cI : ClassId), A 0 = h0 ∧ va_P (dC, dI) vwCl (wO A cI σ0) t.heap ∧ va_K (dC, dI) vwCl [(cI, .int)] t ∧ va_D (va_A [(h0, .inr (0, [.null, .null, .null, .int 0, .int 0, .int 0, .int 0, .null, .null, .null, .int 0, .int 0]))] sz) (wO A cI σ0)) (va_A [(h0, .inr (0, [.null, .null, .null, .int 0, .int 0, .int 0, .int 0, .null, .null, .null, .int 0, .int 0]))] sz)) 6 704 (va_A [(h0, .inr (0, [.null, .null, .null, .int 0, .int 0, .int 0, .int 0, .null, .null, .null, .int 0, .int 0]))] sz) := by
  refine Met.ofW (cc := cX0_init) (maxL := 1) (ret := none) (by decide) rfl ?_
  intro p e s m args below meth c s₁ Bd hml hv
  obtain ⟨rfl, hsz, hP, hK, hD0⟩ := hv
  have hx := Bd.exec
  have hb := Bd.bytes
  have hr := Bd.returns
  have hB : ∀ w ∈ bX0, w.before _ s = true := fun w h => atoms_spec (ws := wsX0_init) Bd.pre w (List.mem_cons_of_mem _ h)
  have hown : s.vm.findClass RX0 = some m.cls := findClass_of_methodNamed Bd.named
  have hlocks := Bd.notSynchronized
  have hin : meth.name = "<init>" := (name_of_methodNamed Bd.named Bd.method).1
  subst hsz
  have hD := hD0.self (sz := s.heap.size)
  generalize hAe : va_A [(h0, .inr (0, [.null, .null, .null, .int 0, .int 0, .int 0, .int 0, .null, .null, .null, .int 0, .int 0]))] s.heap.size = AA at hD ⊢
  have hA : ∀ q : Nat, s.heap.size ≤ q → AA q := fun q h => by rw [← hAe]; exact Or.inr h
  have hS : va_S AA s.heap s.heap [] := va_S.rf
  have hl := lv_entry ([.ref h0]) (n := 1) (Nat.le_of_ble_eq_true rfl)
  rw [lg_entry_eq]
  generalize (lg_sl ([.ref h0]) ++ List.replicate (1 - (lg_sl ([.ref h0])).length) Slot.unset).toArray = ls at hl ⊢
  have hl : lv_has ls 1 [(0, .ref h0)] := hl
  refine lv_aload_n hx hb dX0_init_0 rfl (lv_at hl 0 rfl) ?_
  refine W.objInit hx hb hown (hB _ mX0_l_obj) (hB _ mX0_s_obj) (hB _ mX0_c_obj) rfl (by rw [hml]; exact hl.1) rfl dX0_init_1 (Nat.le_of_ble_eq_true rfl) (Nat.le_of_ble_eq_true rfl) ?_
  refine W.eq (g2 := F0 m 4 ls []) rfl ?_
  refine lv_aload_n hx hb dX0_init_4 rfl (lv_at hl 0 rfl) ?_
  refine lv_sipush (v := 160) hx hb dX0_init_5 (by decide) ?_
  refine va_newa (atype := .int) (ty := .int) (a0 := (160, .inl (fun _ => 0))) hx hb (hB _ mX0_a_int) rfl hK hP hD hS hA (fun _ => rfl) (by decide) (N' := 160) (by decide) (by decide) (Nat.le_of_ble_eq_true rfl) (Nat.le_of_ble_eq_true rfl) dX0_init_8 (fun q1 cA1 H hK hP hD hS => ?_)
  have hP : va_P (dC, dI) vwCl [(h0, .inr (0, [.null, .null, .null, .int 0, .int 0, .int 0, .int 0, .null, .null, .null, .int 0, .int 0])), (q1, .inl (cA1, 160, .inl (fun _ => 0)))] H := hP
  have hD : va_D AA [(h0, .inr (0, [.null, .null, .null, .int 0, .int 0, .int 0, .int 0, .null, .null, .null, .int 0, .int 0])), (q1, .inl (cA1, 160, .inl (fun _ => 0)))] := hD
  refine va_putF (D := (dC, dI)) (ci := 0) (v := .ref q1) (ty := .array .int) (C := RX0) (T := TX0) (N := 12) hx hb hB inX0 tyX0 tyX0_ok nmX0 hown hK hP hD hS 0 rfl rfl 0 (by decide) (hB _ mX0_f_wordRow) (fun _ h9 => h9) rfl hin rfl (by decide +kernel) rfl rfl (Nat.le_of_ble_eq_true rfl) dX0_init_10 (fun H locs hP hD hS => ?_)
  have hP : va_P (dC, dI) vwCl [(h0, .inr (0, [.ref q1, .null, .null, .int 0, .int 0, .int 0, .int 0, .null, .null, .null, .int 0, .int 0])), (q1, .inl (cA1, 160, .inl (fun _ => 0)))] H := hP
  have hD : va_D AA [(h0, .inr (0, [.ref q1, .null, .null, .int 0, .int 0, .int 0, .int 0, .null, .null, .null, .int 0, .int 0])), (q1, .inl (cA1, 160, .inl (fun _ => 0)))] := hD
  refine lv_aload_n hx hb dX0_init_13 rfl (lv_at hl 0 rfl) ?_
  refine lv_sipush (v := 160) hx hb dX0_init_14 (by decide) ?_
  refine va_newa (atype := .int) (ty := .int) (a0 := (160, .inl (fun _ => 0))) hx hb (hB _ mX0_a_int) rfl hK hP hD hS hA (fun _ => rfl) (by decide) (N' := 160) (by decide) (by decide) (Nat.le_of_ble_eq_true rfl) (Nat.le_of_ble_eq_true rfl) dX0_init_17 (fun q2 cA2 H hK hP hD hS => ?_)
  have hP : va_P (dC, dI) vwCl [(h0, .inr (0, [.ref q1, .null, .null, .int 0, .int 0, .int 0, .int 0, .null, .null, .null, .int 0, .int 0])), (q1, .inl (cA1, 160, .inl (fun _ => 0))), (q2, .inl (cA2, 160, .inl (fun _ => 0)))] H := hP
  have hD : va_D AA [(h0, .inr (0, [.ref q1, .null, .null, .int 0, .int 0, .int 0, .int 0, .null, .null, .null, .int 0, .int 0])), (q1, .inl (cA1, 160, .inl (fun _ => 0))), (q2, .inl (cA2, 160, .inl (fun _ => 0)))] := hD
  refine va_putF (D := (dC, dI)) (ci := 0) (v := .ref q2) (ty := .array .int) (C := RX0) (T := TX0) (N := 12) hx hb hB inX0 tyX0 tyX0_ok nmX0 hown hK hP hD hS 0 rfl rfl 1 (by decide) (hB _ mX0_f_tagRow) (fun _ h9 => h9) rfl hin rfl (by decide +kernel) rfl rfl (Nat.le_of_ble_eq_true rfl) dX0_init_19 (fun H locs hP hD hS => ?_)
  have hP : va_P (dC, dI) vwCl [(h0, .inr (0, [.ref q1, .ref q2, .null, .int 0, .int 0, .int 0, .int 0, .null, .null, .null, .int 0, .int 0])), (q1, .inl (cA1, 160, .inl (fun _ => 0))), (q2, .inl (cA2, 160, .inl (fun _ => 0)))] H := hP
  have hD : va_D AA [(h0, .inr (0, [.ref q1, .ref q2, .null, .int 0, .int 0, .int 0, .int 0, .null, .null, .null, .int 0, .int 0])), (q1, .inl (cA1, 160, .inl (fun _ => 0))), (q2, .inl (cA2, 160, .inl (fun _ => 0)))] := hD
  refine lv_aload_n hx hb dX0_init_22 rfl (lv_at hl 0 rfl) ?_
  refine lv_sipush (v := 360) hx hb dX0_init_23 (by decide) ?_
  refine va_newa (atype := .int) (ty := .int) (a0 := (360, .inl (fun _ => 0))) hx hb (hB _ mX0_a_int) rfl hK hP hD hS hA (fun _ => rfl) (by decide) (N' := 360) (by decide) (by decide) (Nat.le_of_ble_eq_true rfl) (Nat.le_of_ble_eq_true rfl) dX0_init_26 (fun q3 cA3 H hK hP hD hS => ?_)
  have hP : va_P (dC, dI) vwCl [(h0, .inr (0, [.ref q1, .ref q2, .null, .int 0, .int 0, .int 0, .int 0, .null, .null, .null, .int 0, .int 0])), (q1, .inl (cA1, 160, .inl (fun _ => 0))), (q2, .inl (cA2, 160, .inl (fun _ => 0))), (q3, .inl (cA3, 360, .inl (fun _ => 0)))] H := hP
  have hD : va_D AA [(h0, .inr (0, [.ref q1, .ref q2, .null, .int 0, .int 0, .int 0, .int 0, .null, .null, .null, .int 0, .int 0])), (q1, .inl (cA1, 160, .inl (fun _ => 0))), (q2, .inl (cA2, 160, .inl (fun _ => 0))), (q3, .inl (cA3, 360, .inl (fun _ => 0)))] := hD
  refine va_putF (D := (dC, dI)) (ci := 0) (v := .ref q3) (ty := .array .int) (C := RX0) (T := TX0) (N := 12) hx hb hB inX0 tyX0 tyX0_ok nmX0 hown hK hP hD hS 0 rfl rfl 2 (by decide) (hB _ mX0_f_lineRow) (fun _ h9 => h9) rfl hin rfl (by decide +kernel) rfl rfl (Nat.le_of_ble_eq_true rfl) dX0_init_28 (fun H locs hP hD hS => ?_)
  have hP : va_P (dC, dI) vwCl [(h0, .inr (0, [.ref q1, .ref q2, .ref q3, .int 0, .int 0, .int 0, .int 0, .null, .null, .null, .int 0, .int 0])), (q1, .inl (cA1, 160, .inl (fun _ => 0))), (q2, .inl (cA2, 160, .inl (fun _ => 0))), (q3, .inl (cA3, 360, .inl (fun _ => 0)))] H := hP
  have hD : va_D AA [(h0, .inr (0, [.ref q1, .ref q2, .ref q3, .int 0, .int 0, .int 0, .int 0, .null, .null, .null, .int 0, .int 0])), (q1, .inl (cA1, 160, .inl (fun _ => 0))), (q2, .inl (cA2, 160, .inl (fun _ => 0))), (q3, .inl (cA3, 360, .inl (fun _ => 0)))] := hD
  refine lv_aload_n hx hb dX0_init_31 rfl (lv_at hl 0 rfl) ?_
  refine lv_iconst (v := 0) hx hb dX0_init_32 (by decide) ?_
  refine va_put (D := (dC, dI)) (ci := 0) (v := .int 0) (ty := .int) (C := RX0) (T := TX0) (N := 12) hx hb hB inX0 tyX0 tyX0_ok nmX0 hown hK hP hD hS 0 rfl rfl 3 (by decide) (hB _ mX0_f_setCells) (fun _ h9 => h9) rfl (by decide +kernel) rfl rfl (Nat.le_of_ble_eq_true rfl) dX0_init_33 (fun H locs hP hD hS => ?_)
  have hP : va_P (dC, dI) vwCl [(h0, .inr (0, [.ref q1, .ref q2, .ref q3, .int 0, .int 0, .int 0, .int 0, .null, .null, .null, .int 0, .int 0])), (q1, .inl (cA1, 160, .inl (fun _ => 0))), (q2, .inl (cA2, 160, .inl (fun _ => 0))), (q3, .inl (cA3, 360, .inl (fun _ => 0)))] H := hP
  have hD : va_D AA [(h0, .inr (0, [.ref q1, .ref q2, .ref q3, .int 0, .int 0, .int 0, .int 0, .null, .null, .null, .int 0, .int 0])), (q1, .inl (cA1, 160, .inl (fun _ => 0))), (q2, .inl (cA2, 160, .inl (fun _ => 0))), (q3, .inl (cA3, 360, .inl (fun _ => 0)))] := hD
  refine lv_aload_n hx hb dX0_init_36 rfl (lv_at hl 0 rfl) ?_
  refine lv_iconst (v := 0) hx hb dX0_init_37 (by decide) ?_
  refine va_put (D := (dC, dI)) (ci := 0) (v := .int 0) (ty := .int) (C := RX0) (T := TX0) (N := 12) hx hb hB inX0 tyX0 tyX0_ok nmX0 hown hK hP hD hS 0 rfl rfl 4 (by decide) (hB _ mX0_f_writes) (fun _ h9 => h9) rfl (by decide +kernel) rfl rfl (Nat.le_of_ble_eq_true rfl) dX0_init_38 (fun H locs hP hD hS => ?_)
  have hP : va_P (dC, dI) vwCl [(h0, .inr (0, [.ref q1, .ref q2, .ref q3, .int 0, .int 0, .int 0, .int 0, .null, .null, .null, .int 0, .int 0])), (q1, .inl (cA1, 160, .inl (fun _ => 0))), (q2, .inl (cA2, 160, .inl (fun _ => 0))), (q3, .inl (cA3, 360, .inl (fun _ => 0)))] H := hP
  have hD : va_D AA [(h0, .inr (0, [.ref q1, .ref q2, .ref q3, .int 0, .int 0, .int 0, .int 0, .null, .null, .null, .int 0, .int 0])), (q1, .inl (cA1, 160, .inl (fun _ => 0))), (q2, .inl (cA2, 160, .inl (fun _ => 0))), (q3, .inl (cA3, 360, .inl (fun _ => 0)))] := hD
  refine lv_aload_n hx hb dX0_init_41 rfl (lv_at hl 0 rfl) ?_
  refine lv_iconst (v := 1) hx hb dX0_init_42 (by decide) ?_
  refine va_put (D := (dC, dI)) (ci := 0) (v := .int 1) (ty := .boolean) (C := RX0) (T := TX0) (N := 12) hx hb hB inX0 tyX0 tyX0_ok nmX0 hown hK hP hD hS 0 rfl rfl 5 (by decide) (hB _ mX0_f_powered) (fun _ h9 => h9) rfl (by decide +kernel) rfl rfl (Nat.le_of_ble_eq_true rfl) dX0_init_43 (fun H locs hP hD hS => ?_)
  have hP : va_P (dC, dI) vwCl [(h0, .inr (0, [.ref q1, .ref q2, .ref q3, .int 0, .int 0, .int 1, .int 0, .null, .null, .null, .int 0, .int 0])), (q1, .inl (cA1, 160, .inl (fun _ => 0))), (q2, .inl (cA2, 160, .inl (fun _ => 0))), (q3, .inl (cA3, 360, .inl (fun _ => 0)))] H := hP
  have hD : va_D AA [(h0, .inr (0, [.ref q1, .ref q2, .ref q3, .int 0, .int 0, .int 1, .int 0, .null, .null, .null, .int 0, .int 0])), (q1, .inl (cA1, 160, .inl (fun _ => 0))), (q2, .inl (cA2, 160, .inl (fun _ => 0))), (q3, .inl (cA3, 360, .inl (fun _ => 0)))] := hD
  refine lv_aload_n hx hb dX0_init_46 rfl (lv_at hl 0 rfl) ?_
  refine lv_iconst (v := (-1)) hx hb dX0_init_47 (by decide) ?_
  refine va_put (D := (dC, dI)) (ci := 0) (v := .int (-1)) (ty := .int) (C := RX0) (T := TX0) (N := 12) hx hb hB inX0 tyX0 tyX0_ok nmX0 hown hK hP hD hS 0 rfl rfl 6 (by decide) (hB _ mX0_f_writesToFailure) (fun _ h9 => h9) rfl (by decide +kernel) rfl rfl (Nat.le_of_ble_eq_true rfl) dX0_init_48 (fun H locs hP hD hS => ?_)
  have hP : va_P (dC, dI) vwCl [(h0, .inr (0, [.ref q1, .ref q2, .ref q3, .int 0, .int 0, .int 1, .int (-1), .null, .null, .null, .int 0, .int 0])), (q1, .inl (cA1, 160, .inl (fun _ => 0))), (q2, .inl (cA2, 160, .inl (fun _ => 0))), (q3, .inl (cA3, 360, .inl (fun _ => 0)))] H := hP
  have hD : va_D AA [(h0, .inr (0, [.ref q1, .ref q2, .ref q3, .int 0, .int 0, .int 1, .int (-1), .null, .null, .null, .int 0, .int 0])), (q1, .inl (cA1, 160, .inl (fun _ => 0))), (q2, .inl (cA2, 160, .inl (fun _ => 0))), (q3, .inl (cA3, 360, .inl (fun _ => 0)))] := hD
  refine lv_aload_n hx hb dX0_init_51 rfl (lv_at hl 0 rfl) ?_
  refine lv_bipush (v := 8) hx hb dX0_init_52 (by decide) ?_
  refine va_newa (atype := .int) (ty := .int) (a0 := (8, .inl (fun _ => 0))) hx hb (hB _ mX0_a_int) rfl hK hP hD hS hA (fun _ => rfl) (by decide) (N' := 8) (by decide) (by decide) (Nat.le_of_ble_eq_true rfl) (Nat.le_of_ble_eq_true rfl) dX0_init_54 (fun q4 cA4 H hK hP hD hS => ?_)
  have hP : va_P (dC, dI) vwCl [(h0, .inr (0, [.ref q1, .ref q2, .ref q3, .int 0, .int 0, .int 1, .int (-1), .null, .null, .null, .int 0, .int 0])), (q1, .inl (cA1, 160, .inl (fun _ => 0))), (q2, .inl (cA2, 160, .inl (fun _ => 0))), (q3, .inl (cA3, 360, .inl (fun _ => 0))), (q4, .inl (cA4, 8, .inl (fun _ => 0)))] H := hP
  have hD : va_D AA [(h0, .inr (0, [.ref q1, .ref q2, .ref q3, .int 0, .int 0, .int 1, .int (-1), .null, .null, .null, .int 0, .int 0])), (q1, .inl (cA1, 160, .inl (fun _ => 0))), (q2, .inl (cA2, 160, .inl (fun _ => 0))), (q3, .inl (cA3, 360, .inl (fun _ => 0))), (q4, .inl (cA4, 8, .inl (fun _ => 0)))] := hD
  refine va_putF (D := (dC, dI)) (ci := 0) (v := .ref q4) (ty := .array .int) (C := RX0) (T := TX0) (N := 12) hx hb hB inX0 tyX0 tyX0_ok nmX0 hown hK hP hD hS 0 rfl rfl 7 (by decide) (hB _ mX0_f_stagedKeys) (fun _ h9 => h9) rfl hin rfl (by decide +kernel) rfl rfl (Nat.le_of_ble_eq_true rfl) dX0_init_56 (fun H locs hP hD hS => ?_)
  have hP : va_P (dC, dI) vwCl [(h0, .inr (0, [.ref q1, .ref q2, .ref q3, .int 0, .int 0, .int 1, .int (-1), .ref q4, .null, .null, .int 0, .int 0])), (q1, .inl (cA1, 160, .inl (fun _ => 0))), (q2, .inl (cA2, 160, .inl (fun _ => 0))), (q3, .inl (cA3, 360, .inl (fun _ => 0))), (q4, .inl (cA4, 8, .inl (fun _ => 0)))] H := hP
  have hD : va_D AA [(h0, .inr (0, [.ref q1, .ref q2, .ref q3, .int 0, .int 0, .int 1, .int (-1), .ref q4, .null, .null, .int 0, .int 0])), (q1, .inl (cA1, 160, .inl (fun _ => 0))), (q2, .inl (cA2, 160, .inl (fun _ => 0))), (q3, .inl (cA3, 360, .inl (fun _ => 0))), (q4, .inl (cA4, 8, .inl (fun _ => 0)))] := hD
  refine lv_aload_n hx hb dX0_init_59 rfl (lv_at hl 0 rfl) ?_
  refine lv_bipush (v := 8) hx hb dX0_init_60 (by decide) ?_
  refine va_newa (atype := .int) (ty := .int) (a0 := (8, .inl (fun _ => 0))) hx hb (hB _ mX0_a_int) rfl hK hP hD hS hA (fun _ => rfl) (by decide) (N' := 8) (by decide) (by decide) (Nat.le_of_ble_eq_true rfl) (Nat.le_of_ble_eq_true rfl) dX0_init_62 (fun q5 cA5 H hK hP hD hS => ?_)
  have hP : va_P (dC, dI) vwCl [(h0, .inr (0, [.ref q1, .ref q2, .ref q3, .int 0, .int 0, .int 1, .int (-1), .ref q4, .null, .null, .int 0, .int 0])), (q1, .inl (cA1, 160, .inl (fun _ => 0))), (q2, .inl (cA2, 160, .inl (fun _ => 0))), (q3, .inl (cA3, 360, .inl (fun _ => 0))), (q4, .inl (cA4, 8, .inl (fun _ => 0))), (q5, .inl (cA5, 8, .inl (fun _ => 0)))] H := hP
  have hD : va_D AA [(h0, .inr (0, [.ref q1, .ref q2, .ref q3, .int 0, .int 0, .int 1, .int (-1), .ref q4, .null, .null, .int 0, .int 0])), (q1, .inl (cA1, 160, .inl (fun _ => 0))), (q2, .inl (cA2, 160, .inl (fun _ => 0))), (q3, .inl (cA3, 360, .inl (fun _ => 0))), (q4, .inl (cA4, 8, .inl (fun _ => 0))), (q5, .inl (cA5, 8, .inl (fun _ => 0)))] := hD
  refine va_putF (D := (dC, dI)) (ci := 0) (v := .ref q5) (ty := .array .int) (C := RX0) (T := TX0) (N := 12) hx hb hB inX0 tyX0 tyX0_ok nmX0 hown hK hP hD hS 0 rfl rfl 8 (by decide) (hB _ mX0_f_stagedValues) (fun _ h9 => h9) rfl hin rfl (by decide +kernel) rfl rfl (Nat.le_of_ble_eq_true rfl) dX0_init_64 (fun H locs hP hD hS => ?_)
  have hP : va_P (dC, dI) vwCl [(h0, .inr (0, [.ref q1, .ref q2, .ref q3, .int 0, .int 0, .int 1, .int (-1), .ref q4, .ref q5, .null, .int 0, .int 0])), (q1, .inl (cA1, 160, .inl (fun _ => 0))), (q2, .inl (cA2, 160, .inl (fun _ => 0))), (q3, .inl (cA3, 360, .inl (fun _ => 0))), (q4, .inl (cA4, 8, .inl (fun _ => 0))), (q5, .inl (cA5, 8, .inl (fun _ => 0)))] H := hP
  have hD : va_D AA [(h0, .inr (0, [.ref q1, .ref q2, .ref q3, .int 0, .int 0, .int 1, .int (-1), .ref q4, .ref q5, .null, .int 0, .int 0])), (q1, .inl (cA1, 160, .inl (fun _ => 0))), (q2, .inl (cA2, 160, .inl (fun _ => 0))), (q3, .inl (cA3, 360, .inl (fun _ => 0))), (q4, .inl (cA4, 8, .inl (fun _ => 0))), (q5, .inl (cA5, 8, .inl (fun _ => 0)))] := hD
  refine lv_aload_n hx hb dX0_init_67 rfl (lv_at hl 0 rfl) ?_
  refine lv_bipush (v := 8) hx hb dX0_init_68 (by decide) ?_
  refine va_newa (atype := .int) (ty := .int) (a0 := (8, .inl (fun _ => 0))) hx hb (hB _ mX0_a_int) rfl hK hP hD hS hA (fun _ => rfl) (by decide) (N' := 8) (by decide) (by decide) (Nat.le_of_ble_eq_true rfl) (Nat.le_of_ble_eq_true rfl) dX0_init_70 (fun q6 cA6 H hK hP hD hS => ?_)
  have hP : va_P (dC, dI) vwCl [(h0, .inr (0, [.ref q1, .ref q2, .ref q3, .int 0, .int 0, .int 1, .int (-1), .ref q4, .ref q5, .null, .int 0, .int 0])), (q1, .inl (cA1, 160, .inl (fun _ => 0))), (q2, .inl (cA2, 160, .inl (fun _ => 0))), (q3, .inl (cA3, 360, .inl (fun _ => 0))), (q4, .inl (cA4, 8, .inl (fun _ => 0))), (q5, .inl (cA5, 8, .inl (fun _ => 0))), (q6, .inl (cA6, 8, .inl (fun _ => 0)))] H := hP
  have hD : va_D AA [(h0, .inr (0, [.ref q1, .ref q2, .ref q3, .int 0, .int 0, .int 1, .int (-1), .ref q4, .ref q5, .null, .int 0, .int 0])), (q1, .inl (cA1, 160, .inl (fun _ => 0))), (q2, .inl (cA2, 160, .inl (fun _ => 0))), (q3, .inl (cA3, 360, .inl (fun _ => 0))), (q4, .inl (cA4, 8, .inl (fun _ => 0))), (q5, .inl (cA5, 8, .inl (fun _ => 0))), (q6, .inl (cA6, 8, .inl (fun _ => 0)))] := hD
  refine va_putF (D := (dC, dI)) (ci := 0) (v := .ref q6) (ty := .array .int) (C := RX0) (T := TX0) (N := 12) hx hb hB inX0 tyX0 tyX0_ok nmX0 hown hK hP hD hS 0 rfl rfl 9 (by decide) (hB _ mX0_f_plannedLines) (fun _ h9 => h9) rfl hin rfl (by decide +kernel) rfl rfl (Nat.le_of_ble_eq_true rfl) dX0_init_72 (fun H locs hP hD hS => ?_)
  have hP : va_P (dC, dI) vwCl [(h0, .inr (0, [.ref q1, .ref q2, .ref q3, .int 0, .int 0, .int 1, .int (-1), .ref q4, .ref q5, .ref q6, .int 0, .int 0])), (q1, .inl (cA1, 160, .inl (fun _ => 0))), (q2, .inl (cA2, 160, .inl (fun _ => 0))), (q3, .inl (cA3, 360, .inl (fun _ => 0))), (q4, .inl (cA4, 8, .inl (fun _ => 0))), (q5, .inl (cA5, 8, .inl (fun _ => 0))), (q6, .inl (cA6, 8, .inl (fun _ => 0)))] H := hP
  have hD : va_D AA [(h0, .inr (0, [.ref q1, .ref q2, .ref q3, .int 0, .int 0, .int 1, .int (-1), .ref q4, .ref q5, .ref q6, .int 0, .int 0])), (q1, .inl (cA1, 160, .inl (fun _ => 0))), (q2, .inl (cA2, 160, .inl (fun _ => 0))), (q3, .inl (cA3, 360, .inl (fun _ => 0))), (q4, .inl (cA4, 8, .inl (fun _ => 0))), (q5, .inl (cA5, 8, .inl (fun _ => 0))), (q6, .inl (cA6, 8, .inl (fun _ => 0)))] := hD
  refine lv_aload_n hx hb dX0_init_75 rfl (lv_at hl 0 rfl) ?_
  refine lv_iconst (v := 0) hx hb dX0_init_76 (by decide) ?_
  refine va_put (D := (dC, dI)) (ci := 0) (v := .int 0) (ty := .boolean) (C := RX0) (T := TX0) (N := 12) hx hb hB inX0 tyX0 tyX0_ok nmX0 hown hK hP hD hS 0 rfl rfl 10 (by decide) (hB _ mX0_f_batchOpen) (fun _ h9 => h9) rfl (by decide +kernel) rfl rfl (Nat.le_of_ble_eq_true rfl) dX0_init_77 (fun H locs hP hD hS => ?_)
  have hP : va_P (dC, dI) vwCl [(h0, .inr (0, [.ref q1, .ref q2, .ref q3, .int 0, .int 0, .int 1, .int (-1), .ref q4, .ref q5, .ref q6, .int 0, .int 0])), (q1, .inl (cA1, 160, .inl (fun _ => 0))), (q2, .inl (cA2, 160, .inl (fun _ => 0))), (q3, .inl (cA3, 360, .inl (fun _ => 0))), (q4, .inl (cA4, 8, .inl (fun _ => 0))), (q5, .inl (cA5, 8, .inl (fun _ => 0))), (q6, .inl (cA6, 8, .inl (fun _ => 0)))] H := hP
  have hD : va_D AA [(h0, .inr (0, [.ref q1, .ref q2, .ref q3, .int 0, .int 0, .int 1, .int (-1), .ref q4, .ref q5, .ref q6, .int 0, .int 0])), (q1, .inl (cA1, 160, .inl (fun _ => 0))), (q2, .inl (cA2, 160, .inl (fun _ => 0))), (q3, .inl (cA3, 360, .inl (fun _ => 0))), (q4, .inl (cA4, 8, .inl (fun _ => 0))), (q5, .inl (cA5, 8, .inl (fun _ => 0))), (q6, .inl (cA6, 8, .inl (fun _ => 0)))] := hD
  refine lv_aload_n hx hb dX0_init_80 rfl (lv_at hl 0 rfl) ?_
  refine lv_iconst (v := 0) hx hb dX0_init_81 (by decide) ?_
  refine va_put (D := (dC, dI)) (ci := 0) (v := .int 0) (ty := .int) (C := RX0) (T := TX0) (N := 12) hx hb hB inX0 tyX0 tyX0_ok nmX0 hown hK hP hD hS 0 rfl rfl 11 (by decide) (hB _ mX0_f_batchSize) (fun _ h9 => h9) rfl (by decide +kernel) rfl rfl (Nat.le_of_ble_eq_true rfl) dX0_init_82 (fun H locs hP hD hS => ?_)
  have hP : va_P (dC, dI) vwCl [(h0, .inr (0, [.ref q1, .ref q2, .ref q3, .int 0, .int 0, .int 1, .int (-1), .ref q4, .ref q5, .ref q6, .int 0, .int 0])), (q1, .inl (cA1, 160, .inl (fun _ => 0))), (q2, .inl (cA2, 160, .inl (fun _ => 0))), (q3, .inl (cA3, 360, .inl (fun _ => 0))), (q4, .inl (cA4, 8, .inl (fun _ => 0))), (q5, .inl (cA5, 8, .inl (fun _ => 0))), (q6, .inl (cA6, 8, .inl (fun _ => 0)))] H := hP
  have hD : va_D AA [(h0, .inr (0, [.ref q1, .ref q2, .ref q3, .int 0, .int 0, .int 1, .int (-1), .ref q4, .ref q5, .ref q6, .int 0, .int 0])), (q1, .inl (cA1, 160, .inl (fun _ => 0))), (q2, .inl (cA2, 160, .inl (fun _ => 0))), (q3, .inl (cA3, 360, .inl (fun _ => 0))), (q4, .inl (cA4, 8, .inl (fun _ => 0))), (q5, .inl (cA5, 8, .inl (fun _ => 0))), (q6, .inl (cA6, 8, .inl (fun _ => 0)))] := hD
  have e2 : cA1 = cA2 := hK.one 0 1 rfl rfl ra_int
  have e3 : cA1 = cA3 := hK.one 0 2 rfl rfl ra_int
  have e4 : cA1 = cA4 := hK.one 0 3 rfl rfl ra_int
  have e5 : cA1 = cA5 := hK.one 0 4 rfl rfl ra_int
  have e6 : cA1 = cA6 := hK.one 0 5 rfl rfl ra_int
  subst e2
  subst e3
  subst e4
  subst e5
  subst e6
  have hK9 := hK.sub (tys' := [(cA1, .int)]) [0] rfl
  exact W.vret hx hb hr (fun t ht hW => ⟨⟨(), rfl, trivial, ad7 h0 q1 q2 q3 q4 q5 q6, cA1, rfl, by rw [ht]; exact hP, va_K.moved hW.alike hK9, hD⟩, hS.F ht⟩) hS.2.2 dX0_init_85
set_option maxHeartbeats 4000000 in
set_option maxRecDepth 100000 in
theorem cm1_init (l : Launch) (dC : Nat → ClassId) (dI : Nat → Nat → Nat) (h0 sz : Nat) : Met l yX1_init wsX1_init (rki 16664) (va_Pc [.ref h0] (fun U => U.heap.size = sz ∧ va_P (dC, dI) vwCl [(h0, .inr (1, [.int 0, .null, .null, .null, .int 0, .int 0, .int 0, .int 0, .int 0, .null, .null, .null]))] U.heap ∧ va_K (dC, dI) vwCl [] U ∧ va_D (fun _ => True) [(h0, .inr (1, [.int 0, .null, .null, .null, .int 0, .int 0, .int 0, .int 0, .int 0, .null, .null, .null]))])) (va_Qv (fun _ : Unit => True) (fun _ t => ∃ (B : Nat → Nat) (cI cZ : ClassId), B 0 = h0 ∧ va_P (dC, dI) vwCl (wN B cI cZ μ0) t.heap ∧ va_K (dC, dI) vwCl [(cI, .int), (cZ, .boolean)] t ∧ va_D (va_A [(h0, .inr (1, [.int 0, .null, .null, .null, .int 0, .int 0, .int 0, .int 0, .int 0, .null, .null, .null]))] sz) (wN B cI cZ μ0)) (va_A [(h0, .inr (1, [.int 0, .null, .null, .null, .int 0, .int 0, .int 0, .int 0, .int 0, .null, .null, .null]))] sz)) 6 16664 (va_A [(h0, .inr (1, [.int 0, .null, .null, .null, .int 0, .int 0, .int 0, .int 0, .int 0, .null, .null, .null]))] sz) := by
  refine Met.ofW (cc := cX1_init) (maxL := 1) (ret := none) (by decide) rfl ?_
  intro p e s m args below meth c s₁ Bd hml hv
  obtain ⟨rfl, hsz, hP, hK, hD0⟩ := hv
  have hx := Bd.exec
  have hb := Bd.bytes
  have hr := Bd.returns
  have hB : ∀ w ∈ bX1, w.before _ s = true := fun w h => atoms_spec (ws := wsX1_init) Bd.pre w (List.mem_cons_of_mem _ h)
  have hown : s.vm.findClass RX1 = some m.cls := findClass_of_methodNamed Bd.named
  have hlocks := Bd.notSynchronized
  have hin : meth.name = "<init>" := (name_of_methodNamed Bd.named Bd.method).1
  subst hsz
  have hD := hD0.self (sz := s.heap.size)
  generalize hAe : va_A [(h0, .inr (1, [.int 0, .null, .null, .null, .int 0, .int 0, .int 0, .int 0, .int 0, .null, .null, .null]))] s.heap.size = AA at hD ⊢
  have hA : ∀ q : Nat, s.heap.size ≤ q → AA q := fun q h => by rw [← hAe]; exact Or.inr h
  have hS : va_S AA s.heap s.heap [] := va_S.rf
  have hl := lv_entry ([.ref h0]) (n := 1) (Nat.le_of_ble_eq_true rfl)
  rw [lg_entry_eq]
  generalize (lg_sl ([.ref h0]) ++ List.replicate (1 - (lg_sl ([.ref h0])).length) Slot.unset).toArray = ls at hl ⊢
  have hl : lv_has ls 1 [(0, .ref h0)] := hl
  refine lv_aload_n hx hb dX1_init_0 rfl (lv_at hl 0 rfl) ?_
  refine W.objInit hx hb hown (hB _ mX1_l_obj) (hB _ mX1_s_obj) (hB _ mX1_c_obj) rfl (by rw [hml]; exact hl.1) rfl dX1_init_1 (Nat.le_of_ble_eq_true rfl) (Nat.le_of_ble_eq_true rfl) ?_
  refine W.eq (g2 := F0 m 4 ls []) rfl ?_
  refine lv_aload_n hx hb dX1_init_4 rfl (lv_at hl 0 rfl) ?_
  refine lv_sipush (v := 3840) hx hb dX1_init_5 (by decide) ?_
  refine va_newa (atype := .boolean) (ty := .boolean) (a0 := (3840, .inl (fun _ => 0))) hx hb (hB _ mX1_a_boolean) rfl hK hP hD hS hA (fun _ => rfl) (by decide) (N' := 3840) (by decide) (by decide) (Nat.le_of_ble_eq_true rfl) (Nat.le_of_ble_eq_true rfl) dX1_init_8 (fun q1 cA1 H hK hP hD hS => ?_)
  have hP : va_P (dC, dI) vwCl [(h0, .inr (1, [.int 0, .null, .null, .null, .int 0, .int 0, .int 0, .int 0, .int 0, .null, .null, .null])), (q1, .inl (cA1, 3840, .inl (fun _ => 0)))] H := hP
  have hD : va_D AA [(h0, .inr (1, [.int 0, .null, .null, .null, .int 0, .int 0, .int 0, .int 0, .int 0, .null, .null, .null])), (q1, .inl (cA1, 3840, .inl (fun _ => 0)))] := hD
  refine va_putF (D := (dC, dI)) (ci := 1) (v := .ref q1) (ty := .array .boolean) (C := RX1) (T := TX1) (N := 12) hx hb hB inX1 tyX1 tyX1_ok nmX1 hown hK hP hD hS 0 rfl rfl 1 (by decide) (hB _ mX1_f_wordCells) (fun _ h9 => h9) rfl hin rfl (by decide +kernel) rfl rfl (Nat.le_of_ble_eq_true rfl) dX1_init_10 (fun H locs hP hD hS => ?_)
  have hP : va_P (dC, dI) vwCl [(h0, .inr (1, [.int 0, .ref q1, .null, .null, .int 0, .int 0, .int 0, .int 0, .int 0, .null, .null, .null])), (q1, .inl (cA1, 3840, .inl (fun _ => 0)))] H := hP
  have hD : va_D AA [(h0, .inr (1, [.int 0, .ref q1, .null, .null, .int 0, .int 0, .int 0, .int 0, .int 0, .null, .null, .null])), (q1, .inl (cA1, 3840, .inl (fun _ => 0)))] := hD
  refine lv_aload_n hx hb dX1_init_13 rfl (lv_at hl 0 rfl) ?_
  refine lv_sipush (v := 1280) hx hb dX1_init_14 (by decide) ?_
  refine va_newa (atype := .boolean) (ty := .boolean) (a0 := (1280, .inl (fun _ => 0))) hx hb (hB _ mX1_a_boolean) rfl hK hP hD hS hA (fun _ => rfl) (by decide) (N' := 1280) (by decide) (by decide) (Nat.le_of_ble_eq_true rfl) (Nat.le_of_ble_eq_true rfl) dX1_init_17 (fun q2 cA2 H hK hP hD hS => ?_)
  have hP : va_P (dC, dI) vwCl [(h0, .inr (1, [.int 0, .ref q1, .null, .null, .int 0, .int 0, .int 0, .int 0, .int 0, .null, .null, .null])), (q1, .inl (cA1, 3840, .inl (fun _ => 0))), (q2, .inl (cA2, 1280, .inl (fun _ => 0)))] H := hP
  have hD : va_D AA [(h0, .inr (1, [.int 0, .ref q1, .null, .null, .int 0, .int 0, .int 0, .int 0, .int 0, .null, .null, .null])), (q1, .inl (cA1, 3840, .inl (fun _ => 0))), (q2, .inl (cA2, 1280, .inl (fun _ => 0)))] := hD
  refine va_putF (D := (dC, dI)) (ci := 1) (v := .ref q2) (ty := .array .boolean) (C := RX1) (T := TX1) (N := 12) hx hb hB inX1 tyX1 tyX1_ok nmX1 hown hK hP hD hS 0 rfl rfl 2 (by decide) (hB _ mX1_f_tagCells) (fun _ h9 => h9) rfl hin rfl (by decide +kernel) rfl rfl (Nat.le_of_ble_eq_true rfl) dX1_init_19 (fun H locs hP hD hS => ?_)
  have hP : va_P (dC, dI) vwCl [(h0, .inr (1, [.int 0, .ref q1, .ref q2, .null, .int 0, .int 0, .int 0, .int 0, .int 0, .null, .null, .null])), (q1, .inl (cA1, 3840, .inl (fun _ => 0))), (q2, .inl (cA2, 1280, .inl (fun _ => 0)))] H := hP
  have hD : va_D AA [(h0, .inr (1, [.int 0, .ref q1, .ref q2, .null, .int 0, .int 0, .int 0, .int 0, .int 0, .null, .null, .null])), (q1, .inl (cA1, 3840, .inl (fun _ => 0))), (q2, .inl (cA2, 1280, .inl (fun _ => 0)))] := hD
  refine lv_aload_n hx hb dX1_init_22 rfl (lv_at hl 0 rfl) ?_
  refine lv_sipush (v := 11520) hx hb dX1_init_23 (by decide) ?_
  refine va_newa (atype := .boolean) (ty := .boolean) (a0 := (11520, .inl (fun _ => 0))) hx hb (hB _ mX1_a_boolean) rfl hK hP hD hS hA (fun _ => rfl) (by decide) (N' := 11520) (by decide) (by decide) (Nat.le_of_ble_eq_true rfl) (Nat.le_of_ble_eq_true rfl) dX1_init_26 (fun q3 cA3 H hK hP hD hS => ?_)
  have hP : va_P (dC, dI) vwCl [(h0, .inr (1, [.int 0, .ref q1, .ref q2, .null, .int 0, .int 0, .int 0, .int 0, .int 0, .null, .null, .null])), (q1, .inl (cA1, 3840, .inl (fun _ => 0))), (q2, .inl (cA2, 1280, .inl (fun _ => 0))), (q3, .inl (cA3, 11520, .inl (fun _ => 0)))] H := hP
  have hD : va_D AA [(h0, .inr (1, [.int 0, .ref q1, .ref q2, .null, .int 0, .int 0, .int 0, .int 0, .int 0, .null, .null, .null])), (q1, .inl (cA1, 3840, .inl (fun _ => 0))), (q2, .inl (cA2, 1280, .inl (fun _ => 0))), (q3, .inl (cA3, 11520, .inl (fun _ => 0)))] := hD
  refine va_putF (D := (dC, dI)) (ci := 1) (v := .ref q3) (ty := .array .boolean) (C := RX1) (T := TX1) (N := 12) hx hb hB inX1 tyX1 tyX1_ok nmX1 hown hK hP hD hS 0 rfl rfl 3 (by decide) (hB _ mX1_f_lineCells) (fun _ h9 => h9) rfl hin rfl (by decide +kernel) rfl rfl (Nat.le_of_ble_eq_true rfl) dX1_init_28 (fun H locs hP hD hS => ?_)
  have hP : va_P (dC, dI) vwCl [(h0, .inr (1, [.int 0, .ref q1, .ref q2, .ref q3, .int 0, .int 0, .int 0, .int 0, .int 0, .null, .null, .null])), (q1, .inl (cA1, 3840, .inl (fun _ => 0))), (q2, .inl (cA2, 1280, .inl (fun _ => 0))), (q3, .inl (cA3, 11520, .inl (fun _ => 0)))] H := hP
  have hD : va_D AA [(h0, .inr (1, [.int 0, .ref q1, .ref q2, .ref q3, .int 0, .int 0, .int 0, .int 0, .int 0, .null, .null, .null])), (q1, .inl (cA1, 3840, .inl (fun _ => 0))), (q2, .inl (cA2, 1280, .inl (fun _ => 0))), (q3, .inl (cA3, 11520, .inl (fun _ => 0)))] := hD
  refine lv_aload_n hx hb dX1_init_31 rfl (lv_at hl 0 rfl) ?_
  refine lv_iconst (v := (-1)) hx hb dX1_init_32 (by decide) ?_
  refine va_put (D := (dC, dI)) (ci := 1) (v := .int (-1)) (ty := .int) (C := RX1) (T := TX1) (N := 12) hx hb hB inX1 tyX1 tyX1_ok nmX1 hown hK hP hD hS 0 rfl rfl 6 (by decide) (hB _ mX1_f_until) (fun _ h9 => h9) rfl (by decide +kernel) rfl rfl (Nat.le_of_ble_eq_true rfl) dX1_init_33 (fun H locs hP hD hS => ?_)
  have hP : va_P (dC, dI) vwCl [(h0, .inr (1, [.int 0, .ref q1, .ref q2, .ref q3, .int 0, .int 0, .int (-1), .int 0, .int 0, .null, .null, .null])), (q1, .inl (cA1, 3840, .inl (fun _ => 0))), (q2, .inl (cA2, 1280, .inl (fun _ => 0))), (q3, .inl (cA3, 11520, .inl (fun _ => 0)))] H := hP
  have hD : va_D AA [(h0, .inr (1, [.int 0, .ref q1, .ref q2, .ref q3, .int 0, .int 0, .int (-1), .int 0, .int 0, .null, .null, .null])), (q1, .inl (cA1, 3840, .inl (fun _ => 0))), (q2, .inl (cA2, 1280, .inl (fun _ => 0))), (q3, .inl (cA3, 11520, .inl (fun _ => 0)))] := hD
  refine lv_aload_n hx hb dX1_init_36 rfl (lv_at hl 0 rfl) ?_
  refine lv_bipush (v := 8) hx hb dX1_init_37 (by decide) ?_
  refine va_newa (atype := .int) (ty := .int) (a0 := (8, .inl (fun _ => 0))) hx hb (hB _ mX1_a_int) rfl hK hP hD hS hA (fun _ => rfl) (by decide) (N' := 8) (by decide) (by decide) (Nat.le_of_ble_eq_true rfl) (Nat.le_of_ble_eq_true rfl) dX1_init_39 (fun q4 cA4 H hK hP hD hS => ?_)
  have hP : va_P (dC, dI) vwCl [(h0, .inr (1, [.int 0, .ref q1, .ref q2, .ref q3, .int 0, .int 0, .int (-1), .int 0, .int 0, .null, .null, .null])), (q1, .inl (cA1, 3840, .inl (fun _ => 0))), (q2, .inl (cA2, 1280, .inl (fun _ => 0))), (q3, .inl (cA3, 11520, .inl (fun _ => 0))), (q4, .inl (cA4, 8, .inl (fun _ => 0)))] H := hP
  have hD : va_D AA [(h0, .inr (1, [.int 0, .ref q1, .ref q2, .ref q3, .int 0, .int 0, .int (-1), .int 0, .int 0, .null, .null, .null])), (q1, .inl (cA1, 3840, .inl (fun _ => 0))), (q2, .inl (cA2, 1280, .inl (fun _ => 0))), (q3, .inl (cA3, 11520, .inl (fun _ => 0))), (q4, .inl (cA4, 8, .inl (fun _ => 0)))] := hD
  refine va_putF (D := (dC, dI)) (ci := 1) (v := .ref q4) (ty := .array .int) (C := RX1) (T := TX1) (N := 12) hx hb hB inX1 tyX1 tyX1_ok nmX1 hown hK hP hD hS 0 rfl rfl 9 (by decide) (hB _ mX1_f_keys) (fun _ h9 => h9) rfl hin rfl (by decide +kernel) rfl rfl (Nat.le_of_ble_eq_true rfl) dX1_init_41 (fun H locs hP hD hS => ?_)
  have hP : va_P (dC, dI) vwCl [(h0, .inr (1, [.int 0, .ref q1, .ref q2, .ref q3, .int 0, .int 0, .int (-1), .int 0, .int 0, .ref q4, .null, .null])), (q1, .inl (cA1, 3840, .inl (fun _ => 0))), (q2, .inl (cA2, 1280, .inl (fun _ => 0))), (q3, .inl (cA3, 11520, .inl (fun _ => 0))), (q4, .inl (cA4, 8, .inl (fun _ => 0)))] H := hP
  have hD : va_D AA [(h0, .inr (1, [.int 0, .ref q1, .ref q2, .ref q3, .int 0, .int 0, .int (-1), .int 0, .int 0, .ref q4, .null, .null])), (q1, .inl (cA1, 3840, .inl (fun _ => 0))), (q2, .inl (cA2, 1280, .inl (fun _ => 0))), (q3, .inl (cA3, 11520, .inl (fun _ => 0))), (q4, .inl (cA4, 8, .inl (fun _ => 0)))] := hD
  refine lv_aload_n hx hb dX1_init_44 rfl (lv_at hl 0 rfl) ?_
  refine lv_bipush (v := 8) hx hb dX1_init_45 (by decide) ?_
  refine va_newa (atype := .int) (ty := .int) (a0 := (8, .inl (fun _ => 0))) hx hb (hB _ mX1_a_int) rfl hK hP hD hS hA (fun _ => rfl) (by decide) (N' := 8) (by decide) (by decide) (Nat.le_of_ble_eq_true rfl) (Nat.le_of_ble_eq_true rfl) dX1_init_47 (fun q5 cA5 H hK hP hD hS => ?_)
  have hP : va_P (dC, dI) vwCl [(h0, .inr (1, [.int 0, .ref q1, .ref q2, .ref q3, .int 0, .int 0, .int (-1), .int 0, .int 0, .ref q4, .null, .null])), (q1, .inl (cA1, 3840, .inl (fun _ => 0))), (q2, .inl (cA2, 1280, .inl (fun _ => 0))), (q3, .inl (cA3, 11520, .inl (fun _ => 0))), (q4, .inl (cA4, 8, .inl (fun _ => 0))), (q5, .inl (cA5, 8, .inl (fun _ => 0)))] H := hP
  have hD : va_D AA [(h0, .inr (1, [.int 0, .ref q1, .ref q2, .ref q3, .int 0, .int 0, .int (-1), .int 0, .int 0, .ref q4, .null, .null])), (q1, .inl (cA1, 3840, .inl (fun _ => 0))), (q2, .inl (cA2, 1280, .inl (fun _ => 0))), (q3, .inl (cA3, 11520, .inl (fun _ => 0))), (q4, .inl (cA4, 8, .inl (fun _ => 0))), (q5, .inl (cA5, 8, .inl (fun _ => 0)))] := hD
  refine va_putF (D := (dC, dI)) (ci := 1) (v := .ref q5) (ty := .array .int) (C := RX1) (T := TX1) (N := 12) hx hb hB inX1 tyX1 tyX1_ok nmX1 hown hK hP hD hS 0 rfl rfl 10 (by decide) (hB _ mX1_f_values) (fun _ h9 => h9) rfl hin rfl (by decide +kernel) rfl rfl (Nat.le_of_ble_eq_true rfl) dX1_init_49 (fun H locs hP hD hS => ?_)
  have hP : va_P (dC, dI) vwCl [(h0, .inr (1, [.int 0, .ref q1, .ref q2, .ref q3, .int 0, .int 0, .int (-1), .int 0, .int 0, .ref q4, .ref q5, .null])), (q1, .inl (cA1, 3840, .inl (fun _ => 0))), (q2, .inl (cA2, 1280, .inl (fun _ => 0))), (q3, .inl (cA3, 11520, .inl (fun _ => 0))), (q4, .inl (cA4, 8, .inl (fun _ => 0))), (q5, .inl (cA5, 8, .inl (fun _ => 0)))] H := hP
  have hD : va_D AA [(h0, .inr (1, [.int 0, .ref q1, .ref q2, .ref q3, .int 0, .int 0, .int (-1), .int 0, .int 0, .ref q4, .ref q5, .null])), (q1, .inl (cA1, 3840, .inl (fun _ => 0))), (q2, .inl (cA2, 1280, .inl (fun _ => 0))), (q3, .inl (cA3, 11520, .inl (fun _ => 0))), (q4, .inl (cA4, 8, .inl (fun _ => 0))), (q5, .inl (cA5, 8, .inl (fun _ => 0)))] := hD
  refine lv_aload_n hx hb dX1_init_52 rfl (lv_at hl 0 rfl) ?_
  refine lv_bipush (v := 8) hx hb dX1_init_53 (by decide) ?_
  refine va_newa (atype := .int) (ty := .int) (a0 := (8, .inl (fun _ => 0))) hx hb (hB _ mX1_a_int) rfl hK hP hD hS hA (fun _ => rfl) (by decide) (N' := 8) (by decide) (by decide) (Nat.le_of_ble_eq_true rfl) (Nat.le_of_ble_eq_true rfl) dX1_init_55 (fun q6 cA6 H hK hP hD hS => ?_)
  have hP : va_P (dC, dI) vwCl [(h0, .inr (1, [.int 0, .ref q1, .ref q2, .ref q3, .int 0, .int 0, .int (-1), .int 0, .int 0, .ref q4, .ref q5, .null])), (q1, .inl (cA1, 3840, .inl (fun _ => 0))), (q2, .inl (cA2, 1280, .inl (fun _ => 0))), (q3, .inl (cA3, 11520, .inl (fun _ => 0))), (q4, .inl (cA4, 8, .inl (fun _ => 0))), (q5, .inl (cA5, 8, .inl (fun _ => 0))), (q6, .inl (cA6, 8, .inl (fun _ => 0)))] H := hP
  have hD : va_D AA [(h0, .inr (1, [.int 0, .ref q1, .ref q2, .ref q3, .int 0, .int 0, .int (-1), .int 0, .int 0, .ref q4, .ref q5, .null])), (q1, .inl (cA1, 3840, .inl (fun _ => 0))), (q2, .inl (cA2, 1280, .inl (fun _ => 0))), (q3, .inl (cA3, 11520, .inl (fun _ => 0))), (q4, .inl (cA4, 8, .inl (fun _ => 0))), (q5, .inl (cA5, 8, .inl (fun _ => 0))), (q6, .inl (cA6, 8, .inl (fun _ => 0)))] := hD
  refine va_putF (D := (dC, dI)) (ci := 1) (v := .ref q6) (ty := .array .int) (C := RX1) (T := TX1) (N := 12) hx hb hB inX1 tyX1 tyX1_ok nmX1 hown hK hP hD hS 0 rfl rfl 11 (by decide) (hB _ mX1_f_takers) (fun _ h9 => h9) rfl hin rfl (by decide +kernel) rfl rfl (Nat.le_of_ble_eq_true rfl) dX1_init_57 (fun H locs hP hD hS => ?_)
  have hP : va_P (dC, dI) vwCl [(h0, .inr (1, [.int 0, .ref q1, .ref q2, .ref q3, .int 0, .int 0, .int (-1), .int 0, .int 0, .ref q4, .ref q5, .ref q6])), (q1, .inl (cA1, 3840, .inl (fun _ => 0))), (q2, .inl (cA2, 1280, .inl (fun _ => 0))), (q3, .inl (cA3, 11520, .inl (fun _ => 0))), (q4, .inl (cA4, 8, .inl (fun _ => 0))), (q5, .inl (cA5, 8, .inl (fun _ => 0))), (q6, .inl (cA6, 8, .inl (fun _ => 0)))] H := hP
  have hD : va_D AA [(h0, .inr (1, [.int 0, .ref q1, .ref q2, .ref q3, .int 0, .int 0, .int (-1), .int 0, .int 0, .ref q4, .ref q5, .ref q6])), (q1, .inl (cA1, 3840, .inl (fun _ => 0))), (q2, .inl (cA2, 1280, .inl (fun _ => 0))), (q3, .inl (cA3, 11520, .inl (fun _ => 0))), (q4, .inl (cA4, 8, .inl (fun _ => 0))), (q5, .inl (cA5, 8, .inl (fun _ => 0))), (q6, .inl (cA6, 8, .inl (fun _ => 0)))] := hD
  have e2 : cA1 = cA2 := hK.one 0 1 rfl rfl ra_bool
  have e3 : cA1 = cA3 := hK.one 0 2 rfl rfl ra_bool
  have e5 : cA4 = cA5 := hK.one 3 4 rfl rfl ra_int
  have e6 : cA4 = cA6 := hK.one 3 5 rfl rfl ra_int
  subst e2
  subst e3
  subst e5
  subst e6
  have hK9 := hK.sub (tys' := [(cA4, .int), (cA1, .boolean)]) [3, 0] rfl
  exact W.vret hx hb hr (fun t ht hW => ⟨⟨(), rfl, trivial, ad7 h0 q1 q2 q3 q4 q5 q6, cA4, cA1, rfl, by rw [ht]; exact hP, va_K.moved hW.alike hK9, hD⟩, hS.F ht⟩) hS.2.2 dX1_init_60
set_option maxHeartbeats 4000000 in
set_option maxRecDepth 100000 in
theorem cm0_isOn (l : Launch) (dC : Nat → ClassId) (dI : Nat → Nat → Nat) (A : Nat → Nat) (cI : ClassId) (σ : OS) (b : Bool) (hon : oOn σ = bI b) : Met l yX0_isOn wsX0_isOn (rk 0) (va_Pc [.ref (A 0)] (fun U => va_P (dC, dI) vwCl (wO A cI σ) U.heap ∧ va_K (dC, dI) vwCl [(cI, .int)] U)) (QcRead (oOn σ)) 0 0 (fun _ => False) := by
  refine Met.ofW (cc := cX0_isOn) (maxL := 1) (ret := (some .boolean)) (by decide) rfl ?_
  intro p e s m args below meth c s₁ B hml hv
  obtain ⟨rfl, hP, hK⟩ := hv
  have hx := B.exec
  have hb := B.bytes
  have hr := B.returns
  have hB : ∀ w ∈ bX0, w.before _ s = true := fun w h => atoms_spec (ws := wsX0_isOn) B.pre w (List.mem_cons_of_mem _ h)
  have hown : s.vm.findClass RX0 = some m.cls := findClass_of_methodNamed B.named
  have hlocks := B.notSynchronized
  have hl := lv_entry ([.ref (A 0)]) (n := 1) (Nat.le_of_ble_eq_true rfl)
  rw [lg_entry_eq]
  generalize (lg_sl ([.ref (A 0)]) ++ List.replicate (1 - (lg_sl ([.ref (A 0)])).length) Slot.unset).toArray = ls at hl ⊢
  have hl : lv_has ls 1 [(0, .ref (A 0))] := hl
  refine lv_aload_n hx hb dX0_isOn_0 rfl (lv_at hl 0 rfl) ?_
  refine va_get (D := (dC, dI)) (ci := 0) (v := .int (oOn σ)) (C := RX0) (T := TX0) (N := 12) hx hb hB inX0 hown hK hP 0 rfl rfl 5 (by decide) (hB _ mX0_f_powered) (fun _ h9 => h9) rfl dX0_isOn_1 ?_
  exact W.zret (v := (oOn σ)) hx hb hr (by rw [hon]; exact bI_nar _) (fun t ht _ => ⟨congrArg (fun z => Outcome.returned (some (Value.int z))) (rfl), ht⟩) (fun q h => by cases h) dX0_isOn_4
