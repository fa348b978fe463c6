theorem left_lt {x : Int32} (h : x.toInt < 0 ∨ 3 < x.toInt) (h1 : ¬ x < 0) (h2 : x ≤ 3) : False := by
  have a : ¬ x.toInt < 0 := fun z => h1 (Int32.lt_iff_toInt_lt.mpr z)
  have b : x.toInt ≤ 3 := Int32.le_iff_toInt_le.mp h2
  omega
def hk_cell (a b d : Int32) : Int32 := nI (k_cell a b d)
def hr_cell (μ : NS) (a b d : Int32) : Int32 := if ¬ k_cell a b d = 0 then 0 else if a = 0 then (if nWc μ (24 * b.toNatClampNeg + d.toNatClampNeg) = 0 then 0 else 1) else if a = 1 then (if nTc μ (8 * b.toNatClampNeg + d.toNatClampNeg) = 0 then 0 else 1) else (if nLc μ (32 * b.toNatClampNeg + d.toNatClampNeg) = 0 then 0 else 1)
theorem cell_out {a : Int32} (h0 : ¬ a = 0) (h1 : ¬ a = 1) (h2 : ¬ a = 2) (h3 : ¬ a < 0) (h4 : ¬ (2 : Int32) < a) : False := by
  have a0 : ¬ a.toInt < 0 := fun z => h3 (Int32.lt_iff_toInt_lt.mpr z)
  have a2 : ¬ 2 < a.toInt := fun z => h4 (Int32.lt_iff_toInt_lt.mpr z)
  have e : a.toInt = 0 ∨ a.toInt = 1 ∨ a.toInt = 2 := by omega
  rcases e with e | e | e
  · exact h0 (Int32.toInt_inj.mp (e.trans (by decide)))
  · exact h1 (Int32.toInt_inj.mp (e.trans (by decide)))
  · exact h2 (Int32.toInt_inj.mp (e.trans (by decide)))
set_option maxHeartbeats 4000000 in
set_option maxRecDepth 100000 in
theorem cm1_left (l : Launch) (dC : Nat → ClassId) (dI : Nat → Nat → Nat) (B : Nat → Nat) (cI : ClassId) (cZ : ClassId) (μ : NS) (sz : Nat) (x : Int32) : Met l yX1_left wsX1_left (rk 6) (va_Pc [.ref (B 0), .int x] (nPre (dC, dI) B cI cZ μ sz)) (va_Qi (fun r u => r = hr_left μ x ∧ u = h_th μ (hk_left x)) (nB (dC, dI) B cI cZ (nX B cI cZ μ sz)) (nX B cI cZ μ sz)) 0 0 (nX B cI cZ μ sz) := by
  refine Met.ofW (cc := cX1_left) (maxL := 4) (ret := (some .int)) (by decide) rfl ?_
  intro p e s m args below meth c s₁ Bd hml hv
  obtain ⟨rfl, hsz, hP, hK, hD0⟩ := hv
  have hx := Bd.exec
  have hb := Bd.bytes
  have hr := Bd.returns
  have hB : ∀ w ∈ bX1, w.before _ s = true := fun w h => atoms_spec (ws := wsX1_left) Bd.pre w (List.mem_cons_of_mem _ h)
  have hown : s.vm.findClass RX1 = some m.cls := findClass_of_methodNamed Bd.named
  have hlocks := Bd.notSynchronized
  subst hsz
  have hD : va_D (nX B cI cZ μ s.heap.size) (wN B cI cZ μ) := hD0.self (sz := s.heap.size)
  have hA : ∀ q : Nat, s.heap.size ≤ q → nX B cI cZ μ s.heap.size q := fun q h => Or.inr h
  generalize nX B cI cZ μ s.heap.size = AA at hD hA ⊢
  have hS : va_S AA s.heap s.heap [] := va_S.rf
  have hl := lv_entry ([.ref (B 0), .int x]) (n := 4) (Nat.le_of_ble_eq_true rfl)
  rw [lg_entry_eq]
  generalize (lg_sl ([.ref (B 0), .int x]) ++ List.replicate (4 - (lg_sl ([.ref (B 0), .int x])).length) Slot.unset).toArray = ls at hl ⊢
  have hl : lv_has ls 4 [(0, .ref (B 0)), (1, .int x)] := hl
  rcases left_cases x with h | rfl | rfl | rfl | rfl
  · skip
    have hk : hk_left x = 1 := if_pos h
    have hx0 : ¬ x = 0 := fun e => by rw [e] at h; exact absurd h (by decide)
    have hx1 : ¬ x = 1 := fun e => by rw [e] at h; exact absurd h (by decide)
    have hx2 : ¬ x = 2 := fun e => by rw [e] at h; exact absurd h (by decide)
    have hx3 : ¬ x = 3 := fun e => by rw [e] at h; exact absurd h (by decide)
    refine lv_aload_n hx hb dX1_left_0 rfl (lv_at hl 0 rfl) ?_
    refine lv_iload_n hx hb dX1_left_1 rfl (lv_at hl 1 rfl) ?_
    refine lv_if_lt (tgt := 10) hx hb dX1_left_2 rfl (fun h1 => ?_) (fun h1 => ?_)
    · skip
      refine lv_iconst (v := 1) hx hb dX1_left_10 (by decide) ?_
      refine lv_goto (tgt := 15) hx hb dX1_left_11 rfl ?_
      refine va_put (D := (dC, dI)) (ci := 1) (v := .int 1) (ty := .int) (C := RX1) (T := TX1) (N := 12) hx hb hB inX1 tyX1 tyX1_ok nmX1 hown hK hP hD hS 0 rfl rfl 0 (by decide) (hB _ mX1_f_thrown) (fun _ h9 => h9) rfl (by decide +kernel) rfl rfl (Nat.le_of_ble_eq_true rfl) dX1_left_15 (fun H locs hP hD hS => ?_)
      have hP : va_P (dC, dI) vwCl (wN B cI cZ (mkN (1) (nWc μ) (nTc μ) (nLc μ) (nWr μ) (nOf μ) (nUn μ) (nOp μ) (nSt μ) (nKs μ) (nVs μ) (nTs μ))) H := hP
      have hD : va_D AA (wN B cI cZ (mkN (1) (nWc μ) (nTc μ) (nLc μ) (nWr μ) (nOf μ) (nUn μ) (nOp μ) (nSt μ) (nKs μ) (nVs μ) (nTs μ))) := hD
      refine lv_aload_n hx hb dX1_left_18 rfl (lv_at hl 0 rfl) ?_
      refine va_get (D := (dC, dI)) (ci := 1) (v := .int (1)) (C := RX1) (T := TX1) (N := 12) hx hb hB inX1 hown hK hP 0 rfl rfl 0 (by decide) (hB _ mX1_f_thrown) (fun _ h9 => h9) rfl dX1_left_19 ?_
      refine lv_if_eq (tgt := 27) hx hb dX1_left_22 rfl (fun h9 => ?_) (fun h9 => ?_)
      · skip
        exact absurd h9 (by decide)
      · skip
        refine lv_iconst (v := 0) hx hb dX1_left_25 (by decide) ?_
        exact W.iret (v := 0) hx hb hr (fun t ht hW => ⟨⟨0, mkN (1) (nWc μ) (nTc μ) (nLc μ) (nWr μ) (nOf μ) (nUn μ) (nOp μ) (nSt μ) (nKs μ) (nVs μ) (nTs μ), rfl, ⟨by rw [hr_left, if_neg hx0, if_neg hx1, if_neg hx2, if_neg hx3], by rw [hk]⟩, by rw [ht]; exact hP, va_K.moved hW.alike hK, hD⟩, hS.F ht⟩) hS.2.2 dX1_left_26
    · skip
      refine lv_iload_n hx hb dX1_left_5 rfl (lv_at hl 1 rfl) ?_
      refine lv_iconst (v := 3) hx hb dX1_left_6 (by decide) ?_
      refine lv_icmp_le (tgt := 14) hx hb dX1_left_7 rfl (fun h2 => ?_) (fun h2 => ?_)
      · skip
        exact (left_lt h h1 h2).elim
      · skip
        refine lv_iconst (v := 1) hx hb dX1_left_10 (by decide) ?_
        refine lv_goto (tgt := 15) hx hb dX1_left_11 rfl ?_
        refine va_put (D := (dC, dI)) (ci := 1) (v := .int 1) (ty := .int) (C := RX1) (T := TX1) (N := 12) hx hb hB inX1 tyX1 tyX1_ok nmX1 hown hK hP hD hS 0 rfl rfl 0 (by decide) (hB _ mX1_f_thrown) (fun _ h9 => h9) rfl (by decide +kernel) rfl rfl (Nat.le_of_ble_eq_true rfl) dX1_left_15 (fun H locs hP hD hS => ?_)
        have hP : va_P (dC, dI) vwCl (wN B cI cZ (mkN (1) (nWc μ) (nTc μ) (nLc μ) (nWr μ) (nOf μ) (nUn μ) (nOp μ) (nSt μ) (nKs μ) (nVs μ) (nTs μ))) H := hP
        have hD : va_D AA (wN B cI cZ (mkN (1) (nWc μ) (nTc μ) (nLc μ) (nWr μ) (nOf μ) (nUn μ) (nOp μ) (nSt μ) (nKs μ) (nVs μ) (nTs μ))) := hD
        refine lv_aload_n hx hb dX1_left_18 rfl (lv_at hl 0 rfl) ?_
        refine va_get (D := (dC, dI)) (ci := 1) (v := .int (1)) (C := RX1) (T := TX1) (N := 12) hx hb hB inX1 hown hK hP 0 rfl rfl 0 (by decide) (hB _ mX1_f_thrown) (fun _ h9 => h9) rfl dX1_left_19 ?_
        refine lv_if_eq (tgt := 27) hx hb dX1_left_22 rfl (fun h9 => ?_) (fun h9 => ?_)
        · skip
          exact absurd h9 (by decide)
        · skip
          refine lv_iconst (v := 0) hx hb dX1_left_25 (by decide) ?_
          exact W.iret (v := 0) hx hb hr (fun t ht hW => ⟨⟨0, mkN (1) (nWc μ) (nTc μ) (nLc μ) (nWr μ) (nOf μ) (nUn μ) (nOp μ) (nSt μ) (nKs μ) (nVs μ) (nTs μ), rfl, ⟨by rw [hr_left, if_neg hx0, if_neg hx1, if_neg hx2, if_neg hx3], by rw [hk]⟩, by rw [ht]; exact hP, va_K.moved hW.alike hK, hD⟩, hS.F ht⟩) hS.2.2 dX1_left_26
  · skip
    refine lv_aload_n hx hb dX1_left_0 rfl (lv_at hl 0 rfl) ?_
    refine lv_iload_n hx hb dX1_left_1 rfl (lv_at hl 1 rfl) ?_
    refine lv_if_lt (tgt := 10) hx hb dX1_left_2 rfl (fun h1 => ?_) (fun h1 => ?_)
    · skip
      exact absurd h1 (by decide)
    · skip
      refine lv_iload_n hx hb dX1_left_5 rfl (lv_at hl 1 rfl) ?_
      refine lv_iconst (v := 3) hx hb dX1_left_6 (by decide) ?_
      refine lv_icmp_le (tgt := 14) hx hb dX1_left_7 rfl (fun h2 => ?_) (fun h2 => ?_)
      · skip
        refine lv_iconst (v := 0) hx hb dX1_left_14 (by decide) ?_
        refine va_put (D := (dC, dI)) (ci := 1) (v := .int 0) (ty := .int) (C := RX1) (T := TX1) (N := 12) hx hb hB inX1 tyX1 tyX1_ok nmX1 hown hK hP hD hS 0 rfl rfl 0 (by decide) (hB _ mX1_f_thrown) (fun _ h9 => h9) rfl (by decide +kernel) rfl rfl (Nat.le_of_ble_eq_true rfl) dX1_left_15 (fun H locs hP hD hS => ?_)
        have hP : va_P (dC, dI) vwCl (wN B cI cZ (mkN (0) (nWc μ) (nTc μ) (nLc μ) (nWr μ) (nOf μ) (nUn μ) (nOp μ) (nSt μ) (nKs μ) (nVs μ) (nTs μ))) H := hP
        have hD : va_D AA (wN B cI cZ (mkN (0) (nWc μ) (nTc μ) (nLc μ) (nWr μ) (nOf μ) (nUn μ) (nOp μ) (nSt μ) (nKs μ) (nVs μ) (nTs μ))) := hD
        refine lv_aload_n hx hb dX1_left_18 rfl (lv_at hl 0 rfl) ?_
        refine va_get (D := (dC, dI)) (ci := 1) (v := .int (0)) (C := RX1) (T := TX1) (N := 12) hx hb hB inX1 hown hK hP 0 rfl rfl 0 (by decide) (hB _ mX1_f_thrown) (fun _ h9 => h9) rfl dX1_left_19 ?_
        refine lv_if_eq (tgt := 27) hx hb dX1_left_22 rfl (fun h9 => ?_) (fun h9 => ?_)
        · skip
          refine lv_iconst (v := 0) hx hb dX1_left_27 (by decide) ?_
          refine lv_istore_n hx hb dX1_left_28 rfl hl (by decide) rfl (fun ls hl => ?_)
          have hl : lv_has ls 4 [(2, .int 0), (0, .ref (B 0)), (1, .int 0)] := hl
          refine lv_iload_n hx hb dX1_left_29 rfl (lv_at hl 2 rfl) ?_
          refine lv_if_ne (tgt := 64) hx hb dX1_left_30 rfl (fun hq0 => ?_) (fun hq0 => ?_)
          · skip
            exact absurd rfl hq0
          · skip
            refine lv_iconst (v := 0) hx hb dX1_left_33 (by decide) ?_
            refine lv_istore_n hx hb dX1_left_34 rfl hl (by decide) rfl (fun ls hl => ?_)
            have hl : lv_has ls 4 [(3, .int 0), (2, .int 0), (0, .ref (B 0)), (1, .int 0)] := hl
            have hl := lv_sub (l' := [(0, .ref (B 0)), (1, .int 0), (2, .int 0), (3, .int 0)]) hl [2, 3, 1, 0] rfl
            have loop : ∀ (n i : Nat) (a : Int32) (ls : Array Slot), i + n = 160 → lv_has ls 4 [(0, .ref (B 0)), (1, .int 0), (2, .int a), (3, .int (nI i))] → g_cntB (g_fr (nWc μ) (nTc μ)) n i a = hr_left μ 0 → W p l e (headSpec wsX1_left (rk 6)).room s m ([.ref (B 0), .int 0]).toArray below meth c H locs 0 0 (MQ below (va_Qi (fun r u => r = hr_left μ 0 ∧ u = h_th μ (hk_left 0)) (nB (dC, dI) B cI cZ AA) AA) ([.ref (B 0), .int 0]).toArray s 0 0 AA) (F0 m 35 ls []) := by
              intro n
              induction n with
              | zero =>
                intro i a ls hi hl hF
                have hi8 : i = 160 := by omega
                subst hi8
                have hC : a = hr_left μ 0 := hF
                refine lv_iload_n hx hb dX1_left_35 rfl (lv_at hl 3 rfl) ?_
                refine lv_sipush (v := 160) hx hb dX1_left_36 (by decide) ?_
                refine lv_icmp_ge (tgt := 64) hx hb dX1_left_39 rfl (fun hc => ?_) (fun hc => ?_)
                · skip
                  refine lv_iload_n hx hb dX1_left_64 rfl (lv_at hl 1 rfl) ?_
                  refine lv_iconst (v := 1) hx hb dX1_left_65 (by decide) ?_
                  refine lv_icmp_ne (tgt := 99) hx hb dX1_left_66 rfl (fun hb66 => ?_) (fun hb66 => ?_)
                  · skip
                    refine lv_iload_n hx hb dX1_left_99 rfl (lv_at hl 1 rfl) ?_
                    refine lv_iconst (v := 2) hx hb dX1_left_100 (by decide) ?_
                    refine lv_icmp_ne (tgt := 137) hx hb dX1_left_101 rfl (fun hb101 => ?_) (fun hb101 => ?_)
                    · skip
                      refine lv_iload_n hx hb dX1_left_137 rfl (lv_at hl 1 rfl) ?_
                      refine lv_iconst (v := 3) hx hb dX1_left_138 (by decide) ?_
                      refine lv_icmp_ne (tgt := 149) hx hb dX1_left_139 rfl (fun hb139 => ?_) (fun hb139 => ?_)
                      · skip
                        refine lv_iload_n hx hb dX1_left_149 rfl (lv_at hl 2 rfl) ?_
                        exact W.iret (v := a) hx hb hr (fun t ht hW => ⟨⟨a, mkN (0) (nWc μ) (nTc μ) (nLc μ) (nWr μ) (nOf μ) (nUn μ) (nOp μ) (nSt μ) (nKs μ) (nVs μ) (nTs μ), rfl, ⟨hC, rfl⟩, by rw [ht]; exact hP, va_K.moved hW.alike hK, hD⟩, hS.F ht⟩) hS.2.2 dX1_left_150
                      · skip
                        exact absurd hb139 (by decide)
                    · skip
                      exact absurd hb101 (by decide)
                  · skip
                    exact absurd hb66 (by decide)
                · skip
                  exact absurd (by decide) hc
              | succ n ih =>
                intro i a ls hi hl hF
                refine lv_iload_n hx hb dX1_left_35 rfl (lv_at hl 3 rfl) ?_
                refine lv_sipush (v := 160) hx hb dX1_left_36 (by decide) ?_
                refine lv_icmp_ge (tgt := 64) hx hb dX1_left_39 rfl (fun hc => ?_) (fun hc => ?_)
                · skip
                  exact absurd hc (nI_ge (b := 160) (by omega) (by decide))
                · skip
                  refine lv_iload_n hx hb dX1_left_42 rfl (lv_at hl 2 rfl) ?_
                  refine lv_aload_n hx hb dX1_left_43 rfl (lv_at hl 0 rfl) ?_
                  refine lv_iload_n hx hb dX1_left_44 rfl (lv_at hl 3 rfl) ?_
                  refine ck1_isFresh hx hb hml hown hB hl.1 hP hK (by omega) dX1_left_45 (Nat.le_of_ble_eq_true rfl) (Nat.le_of_ble_eq_true rfl) ⟨Nat.zero_le _, Nat.zero_le _⟩ (Nat.le_of_ble_eq_true rfl) ?_
                  refine lv_if_eq (tgt := 55) hx hb dX1_left_48 rfl (fun h5 => ?_) (fun h5 => ?_)
                  · skip
                    refine lv_iconst (v := 0) hx hb dX1_left_55 (by decide) ?_
                    refine lv_iadd hx hb dX1_left_56 ?_
                    refine lv_istore_n hx hb dX1_left_57 rfl hl (by decide) rfl (fun ls hl => ?_)
                    have hl : lv_has ls 4 [(2, .int (a + 0)), (0, .ref (B 0)), (1, .int 0), (3, .int (nI i))] := hl
                    refine lv_iinc (k := 3) (v := (nI (i + 1))) hx hb dX1_left_58 hl rfl (nI_1 i) (by decide) rfl (fun ls hl => ?_)
                    have hl : lv_has ls 4 [(3, .int (nI (i + 1))), (2, .int (a + 0)), (0, .ref (B 0)), (1, .int 0)] := hl
                    refine lv_goto (tgt := 35) hx hb dX1_left_61 rfl ?_
                    exact ih (i + 1) _ ls (by omega) (lv_sub hl [2, 3, 1, 0] rfl) (by rw [← hF, g_cntB, bI_0.mp h5]; rfl)
                  · skip
                    refine lv_iconst (v := 1) hx hb dX1_left_51 (by decide) ?_
                    refine lv_goto (tgt := 56) hx hb dX1_left_52 rfl ?_
                    refine lv_iadd hx hb dX1_left_56 ?_
                    refine lv_istore_n hx hb dX1_left_57 rfl hl (by decide) rfl (fun ls hl => ?_)
                    have hl : lv_has ls 4 [(2, .int (a + 1)), (0, .ref (B 0)), (1, .int 0), (3, .int (nI i))] := hl
                    refine lv_iinc (k := 3) (v := (nI (i + 1))) hx hb dX1_left_58 hl rfl (nI_1 i) (by decide) rfl (fun ls hl => ?_)
                    have hl : lv_has ls 4 [(3, .int (nI (i + 1))), (2, .int (a + 1)), (0, .ref (B 0)), (1, .int 0)] := hl
                    refine lv_goto (tgt := 35) hx hb dX1_left_61 rfl ?_
                    exact ih (i + 1) _ ls (by omega) (lv_sub hl [2, 3, 1, 0] rfl) (by rw [← hF, g_cntB, bI_n0.mp h5]; rfl)
            exact loop 160 0 0 ls rfl (lv_sub hl [0, 1, 2, 3] rfl) rfl
        · skip
          exact absurd rfl h9
      · skip
        exact absurd (by decide) h2
  · skip
    refine lv_aload_n hx hb dX1_left_0 rfl (lv_at hl 0 rfl) ?_
    refine lv_iload_n hx hb dX1_left_1 rfl (lv_at hl 1 rfl) ?_
    refine lv_if_lt (tgt := 10) hx hb dX1_left_2 rfl (fun h1 => ?_) (fun h1 => ?_)
    · skip
      exact absurd h1 (by decide)
    · skip
      refine lv_iload_n hx hb dX1_left_5 rfl (lv_at hl 1 rfl) ?_
      refine lv_iconst (v := 3) hx hb dX1_left_6 (by decide) ?_
      refine lv_icmp_le (tgt := 14) hx hb dX1_left_7 rfl (fun h2 => ?_) (fun h2 => ?_)
      · skip
        refine lv_iconst (v := 0) hx hb dX1_left_14 (by decide) ?_
        refine va_put (D := (dC, dI)) (ci := 1) (v := .int 0) (ty := .int) (C := RX1) (T := TX1) (N := 12) hx hb hB inX1 tyX1 tyX1_ok nmX1 hown hK hP hD hS 0 rfl rfl 0 (by decide) (hB _ mX1_f_thrown) (fun _ h9 => h9) rfl (by decide +kernel) rfl rfl (Nat.le_of_ble_eq_true rfl) dX1_left_15 (fun H locs hP hD hS => ?_)
        have hP : va_P (dC, dI) vwCl (wN B cI cZ (mkN (0) (nWc μ) (nTc μ) (nLc μ) (nWr μ) (nOf μ) (nUn μ) (nOp μ) (nSt μ) (nKs μ) (nVs μ) (nTs μ))) H := hP
        have hD : va_D AA (wN B cI cZ (mkN (0) (nWc μ) (nTc μ) (nLc μ) (nWr μ) (nOf μ) (nUn μ) (nOp μ) (nSt μ) (nKs μ) (nVs μ) (nTs μ))) := hD
        refine lv_aload_n hx hb dX1_left_18 rfl (lv_at hl 0 rfl) ?_
        refine va_get (D := (dC, dI)) (ci := 1) (v := .int (0)) (C := RX1) (T := TX1) (N := 12) hx hb hB inX1 hown hK hP 0 rfl rfl 0 (by decide) (hB _ mX1_f_thrown) (fun _ h9 => h9) rfl dX1_left_19 ?_
        refine lv_if_eq (tgt := 27) hx hb dX1_left_22 rfl (fun h9 => ?_) (fun h9 => ?_)
        · skip
          refine lv_iconst (v := 0) hx hb dX1_left_27 (by decide) ?_
          refine lv_istore_n hx hb dX1_left_28 rfl hl (by decide) rfl (fun ls hl => ?_)
          have hl : lv_has ls 4 [(2, .int 0), (0, .ref (B 0)), (1, .int 1)] := hl
          refine lv_iload_n hx hb dX1_left_29 rfl (lv_at hl 2 rfl) ?_
          refine lv_if_ne (tgt := 64) hx hb dX1_left_30 rfl (fun hq0 => ?_) (fun hq0 => ?_)
          · skip
            refine lv_iload_n hx hb dX1_left_64 rfl (lv_at hl 2 rfl) ?_
            refine lv_iconst (v := 1) hx hb dX1_left_65 (by decide) ?_
            refine lv_icmp_ne (tgt := 99) hx hb dX1_left_66 rfl (fun hb66 => ?_) (fun hb66 => ?_)
            · skip
              exact absurd rfl hb66
            · skip
              refine lv_iconst (v := 0) hx hb dX1_left_69 (by decide) ?_
              refine lv_istore_n hx hb dX1_left_70 rfl hl (by decide) rfl (fun ls hl => ?_)
              have hl : lv_has ls 4 [(3, .int 0), (2, .int 0), (0, .ref (B 0)), (1, .int 1)] := hl
              have hl := lv_sub (l' := [(0, .ref (B 0)), (1, .int 1), (2, .int 0), (3, .int 0)]) hl [2, 3, 1, 0] rfl
              have loop : ∀ (n i : Nat) (a : Int32) (ls : Array Slot), i + n = 40 → lv_has ls 4 [(0, .ref (B 0)), (1, .int 1), (2, .int a), (3, .int (nI i))] → g_cntB (g_em (nLc μ)) n i a = hr_left μ 1 → W p l e (headSpec wsX1_left (rk 6)).room s m ([.ref (B 0), .int 1]).toArray below meth c H locs 0 0 (MQ below (va_Qi (fun r u => r = hr_left μ 1 ∧ u = h_th μ (hk_left 1)) (nB (dC, dI) B cI cZ AA) AA) ([.ref (B 0), .int 1]).toArray s 0 0 AA) (F0 m 71 ls []) := by
                intro n
                induction n with
                | zero =>
                  intro i a ls hi hl hF
                  have hi8 : i = 40 := by omega
                  subst hi8
                  have hC : a = hr_left μ 1 := hF
                  refine lv_iload_n hx hb dX1_left_71 rfl (lv_at hl 3 rfl) ?_
                  refine lv_bipush (v := 40) hx hb dX1_left_72 (by decide) ?_
                  refine lv_icmp_ge (tgt := 99) hx hb dX1_left_74 rfl (fun hc => ?_) (fun hc => ?_)
                  · skip
                    refine lv_iload_n hx hb dX1_left_99 rfl (lv_at hl 1 rfl) ?_
                    refine lv_iconst (v := 2) hx hb dX1_left_100 (by decide) ?_
                    refine lv_icmp_ne (tgt := 137) hx hb dX1_left_101 rfl (fun hb101 => ?_) (fun hb101 => ?_)
                    · skip
                      refine lv_iload_n hx hb dX1_left_137 rfl (lv_at hl 1 rfl) ?_
                      refine lv_iconst (v := 3) hx hb dX1_left_138 (by decide) ?_
                      refine lv_icmp_ne (tgt := 149) hx hb dX1_left_139 rfl (fun hb139 => ?_) (fun hb139 => ?_)
                      · skip
                        refine lv_iload_n hx hb dX1_left_149 rfl (lv_at hl 2 rfl) ?_
                        exact W.iret (v := a) hx hb hr (fun t ht hW => ⟨⟨a, mkN (0) (nWc μ) (nTc μ) (nLc μ) (nWr μ) (nOf μ) (nUn μ) (nOp μ) (nSt μ) (nKs μ) (nVs μ) (nTs μ), rfl, ⟨hC, rfl⟩, by rw [ht]; exact hP, va_K.moved hW.alike hK, hD⟩, hS.F ht⟩) hS.2.2 dX1_left_150
                      · skip
                        exact absurd hb139 (by decide)
                    · skip
                      exact absurd hb101 (by decide)
                  · skip
                    exact absurd (by decide) hc
                | succ n ih =>
                  intro i a ls hi hl hF
                  refine lv_iload_n hx hb dX1_left_71 rfl (lv_at hl 3 rfl) ?_
                  refine lv_bipush (v := 40) hx hb dX1_left_72 (by decide) ?_
                  refine lv_icmp_ge (tgt := 99) hx hb dX1_left_74 rfl (fun hc => ?_) (fun hc => ?_)
                  · skip
                    exact absurd hc (nI_ge (b := 40) (by omega) (by decide))
                  · skip
                    refine lv_iload_n hx hb dX1_left_77 rfl (lv_at hl 2 rfl) ?_
                    refine lv_aload_n hx hb dX1_left_78 rfl (lv_at hl 0 rfl) ?_
                    refine lv_iload_n hx hb dX1_left_79 rfl (lv_at hl 3 rfl) ?_
                    refine ck1_isEmptyNote hx hb hml hown hB hl.1 hP hK (by omega) dX1_left_80 (Nat.le_of_ble_eq_true rfl) (Nat.le_of_ble_eq_true rfl) ⟨Nat.zero_le _, Nat.zero_le _⟩ (Nat.le_of_ble_eq_true rfl) ?_
                    refine lv_if_eq (tgt := 90) hx hb dX1_left_83 rfl (fun h5 => ?_) (fun h5 => ?_)
                    · skip
                      refine lv_iconst (v := 0) hx hb dX1_left_90 (by decide) ?_
                      refine lv_iadd hx hb dX1_left_91 ?_
                      refine lv_istore_n hx hb dX1_left_92 rfl hl (by decide) rfl (fun ls hl => ?_)
                      have hl : lv_has ls 4 [(2, .int (a + 0)), (0, .ref (B 0)), (1, .int 1), (3, .int (nI i))] := hl
                      refine lv_iinc (k := 3) (v := (nI (i + 1))) hx hb dX1_left_93 hl rfl (nI_1 i) (by decide) rfl (fun ls hl => ?_)
                      have hl : lv_has ls 4 [(3, .int (nI (i + 1))), (2, .int (a + 0)), (0, .ref (B 0)), (1, .int 1)] := hl
                      refine lv_goto (tgt := 71) hx hb dX1_left_96 rfl ?_
                      exact ih (i + 1) _ ls (by omega) (lv_sub hl [2, 3, 1, 0] rfl) (by rw [← hF, g_cntB, bI_0.mp h5]; rfl)
                    · skip
                      refine lv_iconst (v := 1) hx hb dX1_left_86 (by decide) ?_
                      refine lv_goto (tgt := 91) hx hb dX1_left_87 rfl ?_
                      refine lv_iadd hx hb dX1_left_91 ?_
                      refine lv_istore_n hx hb dX1_left_92 rfl hl (by decide) rfl (fun ls hl => ?_)
                      have hl : lv_has ls 4 [(2, .int (a + 1)), (0, .ref (B 0)), (1, .int 1), (3, .int (nI i))] := hl
                      refine lv_iinc (k := 3) (v := (nI (i + 1))) hx hb dX1_left_93 hl rfl (nI_1 i) (by decide) rfl (fun ls hl => ?_)
                      have hl : lv_has ls 4 [(3, .int (nI (i + 1))), (2, .int (a + 1)), (0, .ref (B 0)), (1, .int 1)] := hl
                      refine lv_goto (tgt := 71) hx hb dX1_left_96 rfl ?_
                      exact ih (i + 1) _ ls (by omega) (lv_sub hl [2, 3, 1, 0] rfl) (by rw [← hF, g_cntB, bI_n0.mp h5]; rfl)
              exact loop 40 0 0 ls rfl (lv_sub hl [0, 1, 2, 3] rfl) rfl
          · skip
            exact absurd hq0 (by decide)
        · skip
          exact absurd rfl h9
      · skip
        exact absurd (by decide) h2
  · skip
    refine lv_aload_n hx hb dX1_left_0 rfl (lv_at hl 0 rfl) ?_
    refine lv_iload_n hx hb dX1_left_1 rfl (lv_at hl 1 rfl) ?_
    refine lv_if_lt (tgt := 10) hx hb dX1_left_2 rfl (fun h1 => ?_) (fun h1 => ?_)
    · skip
      exact absurd h1 (by decide)
    · skip
      refine lv_iload_n hx hb dX1_left_5 rfl (lv_at hl 1 rfl) ?_
      refine lv_iconst (v := 3) hx hb dX1_left_6 (by decide) ?_
      refine lv_icmp_le (tgt := 14) hx hb dX1_left_7 rfl (fun h2 => ?_) (fun h2 => ?_)
      · skip
        refine lv_iconst (v := 0) hx hb dX1_left_14 (by decide) ?_
        refine va_put (D := (dC, dI)) (ci := 1) (v := .int 0) (ty := .int) (C := RX1) (T := TX1) (N := 12) hx hb hB inX1 tyX1 tyX1_ok nmX1 hown hK hP hD hS 0 rfl rfl 0 (by decide) (hB _ mX1_f_thrown) (fun _ h9 => h9) rfl (by decide +kernel) rfl rfl (Nat.le_of_ble_eq_true rfl) dX1_left_15 (fun H locs hP hD hS => ?_)
        have hP : va_P (dC, dI) vwCl (wN B cI cZ (mkN (0) (nWc μ) (nTc μ) (nLc μ) (nWr μ) (nOf μ) (nUn μ) (nOp μ) (nSt μ) (nKs μ) (nVs μ) (nTs μ))) H := hP
        have hD : va_D AA (wN B cI cZ (mkN (0) (nWc μ) (nTc μ) (nLc μ) (nWr μ) (nOf μ) (nUn μ) (nOp μ) (nSt μ) (nKs μ) (nVs μ) (nTs μ))) := hD
        refine lv_aload_n hx hb dX1_left_18 rfl (lv_at hl 0 rfl) ?_
        refine va_get (D := (dC, dI)) (ci := 1) (v := .int (0)) (C := RX1) (T := TX1) (N := 12) hx hb hB inX1 hown hK hP 0 rfl rfl 0 (by decide) (hB _ mX1_f_thrown) (fun _ h9 => h9) rfl dX1_left_19 ?_
        refine lv_if_eq (tgt := 27) hx hb dX1_left_22 rfl (fun h9 => ?_) (fun h9 => ?_)
        · skip
          refine lv_iconst (v := 0) hx hb dX1_left_27 (by decide) ?_
          refine lv_istore_n hx hb dX1_left_28 rfl hl (by decide) rfl (fun ls hl => ?_)
          have hl : lv_has ls 4 [(2, .int 0), (0, .ref (B 0)), (1, .int 2)] := hl
          refine lv_iload_n hx hb dX1_left_29 rfl (lv_at hl 2 rfl) ?_
          refine lv_if_ne (tgt := 64) hx hb dX1_left_30 rfl (fun hq0 => ?_) (fun hq0 => ?_)
          · skip
            refine lv_iload_n hx hb dX1_left_64 rfl (lv_at hl 2 rfl) ?_
            refine lv_iconst (v := 1) hx hb dX1_left_65 (by decide) ?_
            refine lv_icmp_ne (tgt := 99) hx hb dX1_left_66 rfl (fun hb66 => ?_) (fun hb66 => ?_)
            · skip
              refine lv_iload_n hx hb dX1_left_99 rfl (lv_at hl 2 rfl) ?_
              refine lv_iconst (v := 2) hx hb dX1_left_100 (by decide) ?_
              refine lv_icmp_ne (tgt := 137) hx hb dX1_left_101 rfl (fun hb101 => ?_) (fun hb101 => ?_)
              · skip
                exact absurd rfl hb101
              · skip
                refine lv_aload_n hx hb dX1_left_104 rfl (lv_at hl 1 rfl) ?_
                refine va_get (D := (dC, dI)) (ci := 1) (v := .ref (B 1)) (C := RX1) (T := TX1) (N := 12) hx hb hB inX1 hown hK hP 0 rfl rfl 1 (by decide) (hB _ mX1_f_wordCells) (fun _ h9 => h9) rfl dX1_left_105 ?_
                refine lv_sipush (v := 3840) hx hb dX1_left_108 (by decide) ?_
                refine ck1_countOf1 hx hb hml hown hB hl.1 hP hK dX1_left_111 (Nat.le_of_ble_eq_true rfl) (Nat.le_of_ble_eq_true rfl) ⟨Nat.zero_le _, Nat.zero_le _⟩ (Nat.le_of_ble_eq_true rfl) ?_
                refine lv_aload_n hx hb dX1_left_114 rfl (lv_at hl 1 rfl) ?_
                refine va_get (D := (dC, dI)) (ci := 1) (v := .ref (B 2)) (C := RX1) (T := TX1) (N := 12) hx hb hB inX1 hown hK hP 0 rfl rfl 2 (by decide) (hB _ mX1_f_tagCells) (fun _ h9 => h9) rfl dX1_left_115 ?_
                refine lv_sipush (v := 1280) hx hb dX1_left_118 (by decide) ?_
                refine ck1_countOf2 hx hb hml hown hB hl.1 hP hK dX1_left_121 (Nat.le_of_ble_eq_true rfl) (Nat.le_of_ble_eq_true rfl) ⟨Nat.zero_le _, Nat.zero_le _⟩ (Nat.le_of_ble_eq_true rfl) ?_
                refine lv_iadd hx hb dX1_left_124 ?_
                refine lv_aload_n hx hb dX1_left_125 rfl (lv_at hl 1 rfl) ?_
                refine va_get (D := (dC, dI)) (ci := 1) (v := .ref (B 3)) (C := RX1) (T := TX1) (N := 12) hx hb hB inX1 hown hK hP 0 rfl rfl 3 (by decide) (hB _ mX1_f_lineCells) (fun _ h9 => h9) rfl dX1_left_126 ?_
                refine lv_sipush (v := 11520) hx hb dX1_left_129 (by decide) ?_
                refine ck1_countOf3 hx hb hml hown hB hl.1 hP hK dX1_left_132 (Nat.le_of_ble_eq_true rfl) (Nat.le_of_ble_eq_true rfl) ⟨Nat.zero_le _, Nat.zero_le _⟩ (Nat.le_of_ble_eq_true rfl) ?_
                refine lv_iadd hx hb dX1_left_135 ?_
                refine lv_istore_n hx hb dX1_left_136 rfl hl (by decide) rfl (fun ls hl => ?_)
                have hl : lv_has ls 4 [(2, .int (((g_cnt (nWc μ) 3840 0 0) + (g_cnt (nTc μ) 1280 0 0)) + (g_cnt (nLc μ) 11520 0 0))), (0, .ref (B 0)), (1, .int 2)] := hl
                refine lv_iload_n hx hb dX1_left_137 rfl (lv_at hl 2 rfl) ?_
                refine lv_iconst (v := 3) hx hb dX1_left_138 (by decide) ?_
                refine lv_icmp_ne (tgt := 149) hx hb dX1_left_139 rfl (fun hb139 => ?_) (fun hb139 => ?_)
                · skip
                  refine lv_iload_n hx hb dX1_left_149 rfl (lv_at hl 0 rfl) ?_
                  exact W.iret (v := (((g_cnt (nWc μ) 3840 0 0) + (g_cnt (nTc μ) 1280 0 0)) + (g_cnt (nLc μ) 11520 0 0))) hx hb hr (fun t ht hW => ⟨⟨(((g_cnt (nWc μ) 3840 0 0) + (g_cnt (nTc μ) 1280 0 0)) + (g_cnt (nLc μ) 11520 0 0)), mkN (0) (nWc μ) (nTc μ) (nLc μ) (nWr μ) (nOf μ) (nUn μ) (nOp μ) (nSt μ) (nKs μ) (nVs μ) (nTs μ), rfl, ⟨rfl, rfl⟩, by rw [ht]; exact hP, va_K.moved hW.alike hK, hD⟩, hS.F ht⟩) hS.2.2 dX1_left_150
                · skip
                  exact absurd hb139 (by decide)
            · skip
              exact absurd hb66 (by decide)
          · skip
            exact absurd hq0 (by decide)
        · skip
          exact absurd rfl h9
      · skip
        exact absurd (by decide) h2
  · skip
    refine lv_aload_n hx hb dX1_left_0 rfl (lv_at hl 0 rfl) ?_
    refine lv_iload_n hx hb dX1_left_1 rfl (lv_at hl 1 rfl) ?_
    refine lv_if_lt (tgt := 10) hx hb dX1_left_2 rfl (fun h1 => ?_) (fun h1 => ?_)
    · skip
      exact absurd h1 (by decide)
    · skip
      refine lv_iload_n hx hb dX1_left_5 rfl (lv_at hl 1 rfl) ?_
      refine lv_iconst (v := 3) hx hb dX1_left_6 (by decide) ?_
      refine lv_icmp_le (tgt := 14) hx hb dX1_left_7 rfl (fun h2 => ?_) (fun h2 => ?_)
      · skip
        refine lv_iconst (v := 0) hx hb dX1_left_14 (by decide) ?_
        refine va_put (D := (dC, dI)) (ci := 1) (v := .int 0) (ty := .int) (C := RX1) (T := TX1) (N := 12) hx hb hB inX1 tyX1 tyX1_ok nmX1 hown hK hP hD hS 0 rfl rfl 0 (by decide) (hB _ mX1_f_thrown) (fun _ h9 => h9) rfl (by decide +kernel) rfl rfl (Nat.le_of_ble_eq_true rfl) dX1_left_15 (fun H locs hP hD hS => ?_)
        have hP : va_P (dC, dI) vwCl (wN B cI cZ (mkN (0) (nWc μ) (nTc μ) (nLc μ) (nWr μ) (nOf μ) (nUn μ) (nOp μ) (nSt μ) (nKs μ) (nVs μ) (nTs μ))) H := hP
        have hD : va_D AA (wN B cI cZ (mkN (0) (nWc μ) (nTc μ) (nLc μ) (nWr μ) (nOf μ) (nUn μ) (nOp μ) (nSt μ) (nKs μ) (nVs μ) (nTs μ))) := hD
        refine lv_aload_n hx hb dX1_left_18 rfl (lv_at hl 0 rfl) ?_
        refine va_get (D := (dC, dI)) (ci := 1) (v := .int (0)) (C := RX1) (T := TX1) (N := 12) hx hb hB inX1 hown hK hP 0 rfl rfl 0 (by decide) (hB _ mX1_f_thrown) (fun _ h9 => h9) rfl dX1_left_19 ?_
        refine lv_if_eq (tgt := 27) hx hb dX1_left_22 rfl (fun h9 => ?_) (fun h9 => ?_)
        · skip
          refine lv_iconst (v := 0) hx hb dX1_left_27 (by decide) ?_
          refine lv_istore_n hx hb dX1_left_28 rfl hl (by decide) rfl (fun ls hl => ?_)
          have hl : lv_has ls 4 [(2, .int 0), (0, .ref (B 0)), (1, .int 3)] := hl
          refine lv_iload_n hx hb dX1_left_29 rfl (lv_at hl 2 rfl) ?_
          refine lv_if_ne (tgt := 64) hx hb dX1_left_30 rfl (fun hq0 => ?_) (fun hq0 => ?_)
          · skip
            refine lv_iload_n hx hb dX1_left_64 rfl (lv_at hl 2 rfl) ?_
            refine lv_iconst (v := 1) hx hb dX1_left_65 (by decide) ?_
            refine lv_icmp_ne (tgt := 99) hx hb dX1_left_66 rfl (fun hb66 => ?_) (fun hb66 => ?_)
            · skip
              refine lv_iload_n hx hb dX1_left_99 rfl (lv_at hl 2 rfl) ?_
              refine lv_iconst (v := 2) hx hb dX1_left_100 (by decide) ?_
              refine lv_icmp_ne (tgt := 137) hx hb dX1_left_101 rfl (fun hb101 => ?_) (fun hb101 => ?_)
              · skip
                refine lv_iload_n hx hb dX1_left_137 rfl (lv_at hl 2 rfl) ?_
                refine lv_iconst (v := 3) hx hb dX1_left_138 (by decide) ?_
                refine lv_icmp_ne (tgt := 149) hx hb dX1_left_139 rfl (fun hb139 => ?_) (fun hb139 => ?_)
                · skip
                  exact absurd rfl hb139
                · skip
                  refine lv_aload_n hx hb dX1_left_142 rfl (lv_at hl 1 rfl) ?_
                  refine va_get (D := (dC, dI)) (ci := 1) (v := .int (nWr μ)) (C := RX1) (T := TX1) (N := 12) hx hb hB inX1 hown hK hP 0 rfl rfl 4 (by decide) (hB _ mX1_f_writes) (fun _ h9 => h9) rfl dX1_left_143 ?_
                  refine lv_goto (tgt := 150) hx hb dX1_left_146 rfl ?_
                  exact W.iret (v := (nWr μ)) hx hb hr (fun t ht hW => ⟨⟨(nWr μ), mkN (0) (nWc μ) (nTc μ) (nLc μ) (nWr μ) (nOf μ) (nUn μ) (nOp μ) (nSt μ) (nKs μ) (nVs μ) (nTs μ), rfl, ⟨rfl, rfl⟩, by rw [ht]; exact hP, va_K.moved hW.alike hK, hD⟩, hS.F ht⟩) hS.2.2 dX1_left_150
              · skip
                exact absurd hb101 (by decide)
            · skip
              exact absurd hb66 (by decide)
          · skip
            exact absurd hq0 (by decide)
        · skip
          exact absurd rfl h9
      · skip
        exact absurd (by decide) h2
set_option maxHeartbeats 4000000 in
set_option maxRecDepth 100000 in
theorem cm1_words (l : Launch) (dC : Nat → ClassId) (dI : Nat → Nat → Nat) (B : Nat → Nat) (cI : ClassId) (cZ : ClassId) (μ : NS) (sz : Nat) (key : Int32) : Met l yX1_words wsX1_words (rk 6) (va_Pc [.ref (B 0), .int key] (nPre (dC, dI) B cI cZ μ sz)) (va_Qi (fun r u => r = hr_words μ key ∧ u = h_th μ (hk_words key)) (nB (dC, dI) B cI cZ (nX B cI cZ μ sz)) (nX B cI cZ μ sz)) 0 0 (nX B cI cZ μ sz) := by
  refine Met.ofW (cc := cX1_words) (maxL := 4) (ret := (some .int)) (by decide) rfl ?_
  intro p e s m args below meth c s₁ Bd hml hv
  obtain ⟨rfl, hsz, hP, hK, hD0⟩ := hv
  have hx := Bd.exec
  have hb := Bd.bytes
  have hr := Bd.returns
  have hB : ∀ w ∈ bX1, w.before _ s = true := fun w h => atoms_spec (ws := wsX1_words) Bd.pre w (List.mem_cons_of_mem _ h)
  have hown : s.vm.findClass RX1 = some m.cls := findClass_of_methodNamed Bd.named
  have hlocks := Bd.notSynchronized
  subst hsz
  have hD : va_D (nX B cI cZ μ s.heap.size) (wN B cI cZ μ) := hD0.self (sz := s.heap.size)
  have hA : ∀ q : Nat, s.heap.size ≤ q → nX B cI cZ μ s.heap.size q := fun q h => Or.inr h
  generalize nX B cI cZ μ s.heap.size = AA at hD hA ⊢
  have hS : va_S AA s.heap s.heap [] := va_S.rf
  have hl := lv_entry ([.ref (B 0), .int key]) (n := 4) (Nat.le_of_ble_eq_true rfl)
  rw [lg_entry_eq]
  generalize (lg_sl ([.ref (B 0), .int key]) ++ List.replicate (4 - (lg_sl ([.ref (B 0), .int key])).length) Slot.unset).toArray = ls at hl ⊢
  have hl : lv_has ls 4 [(0, .ref (B 0)), (1, .int key)] := hl
  refine lv_aload_n hx hb dX1_words_0 rfl (lv_at hl 0 rfl) ?_
  refine lv_iload_n hx hb dX1_words_1 rfl (lv_at hl 1 rfl) ?_
  refine ck1_isKey hx hb hml hown hB hl.1  dX1_words_2 (Nat.le_of_ble_eq_true rfl) (Nat.le_of_ble_eq_true rfl) ⟨Nat.zero_le _, Nat.zero_le _⟩ (Nat.le_of_ble_eq_true rfl) ?_
  refine lv_if_eq (tgt := 12) hx hb dX1_words_5 rfl (fun h1 => ?_) (fun h1 => ?_)
  · skip
    have hk : hk_words key = 1 := if_neg (by rw [bI_0.mp h1]; decide)
    refine lv_iconst (v := 1) hx hb dX1_words_12 (by decide) ?_
    refine va_put (D := (dC, dI)) (ci := 1) (v := .int 1) (ty := .int) (C := RX1) (T := TX1) (N := 12) hx hb hB inX1 tyX1 tyX1_ok nmX1 hown hK hP hD hS 0 rfl rfl 0 (by decide) (hB _ mX1_f_thrown) (fun _ h9 => h9) rfl (by decide +kernel) rfl rfl (Nat.le_of_ble_eq_true rfl) dX1_words_13 (fun H locs hP hD hS => ?_)
    have hP : va_P (dC, dI) vwCl (wN B cI cZ (mkN (1) (nWc μ) (nTc μ) (nLc μ) (nWr μ) (nOf μ) (nUn μ) (nOp μ) (nSt μ) (nKs μ) (nVs μ) (nTs μ))) H := hP
    have hD : va_D AA (wN B cI cZ (mkN (1) (nWc μ) (nTc μ) (nLc μ) (nWr μ) (nOf μ) (nUn μ) (nOp μ) (nSt μ) (nKs μ) (nVs μ) (nTs μ))) := hD
    refine lv_aload_n hx hb dX1_words_16 rfl (lv_at hl 0 rfl) ?_
    refine va_get (D := (dC, dI)) (ci := 1) (v := .int (1)) (C := RX1) (T := TX1) (N := 12) hx hb hB inX1 hown hK hP 0 rfl rfl 0 (by decide) (hB _ mX1_f_thrown) (fun _ h9 => h9) rfl dX1_words_17 ?_
    refine lv_if_eq (tgt := 25) hx hb dX1_words_20 rfl (fun h9 => ?_) (fun h9 => ?_)
    · skip
      exact absurd h9 (by decide)
    · skip
      refine lv_iconst (v := 0) hx hb dX1_words_23 (by decide) ?_
      exact W.iret (v := 0) hx hb hr (fun t ht hW => ⟨⟨0, mkN (1) (nWc μ) (nTc μ) (nLc μ) (nWr μ) (nOf μ) (nUn μ) (nOp μ) (nSt μ) (nKs μ) (nVs μ) (nTs μ), rfl, ⟨by rw [hr_words, if_neg (by rw [hk]; decide)], by rw [hk]⟩, by rw [ht]; exact hP, va_K.moved hW.alike hK, hD⟩, hS.F ht⟩) hS.2.2 dX1_words_24
  · skip
    have hk : hk_words key = 0 := if_pos (bI_n0.mp h1)
    refine lv_iconst (v := 0) hx hb dX1_words_8 (by decide) ?_
    refine lv_goto (tgt := 13) hx hb dX1_words_9 rfl ?_
    refine va_put (D := (dC, dI)) (ci := 1) (v := .int 0) (ty := .int) (C := RX1) (T := TX1) (N := 12) hx hb hB inX1 tyX1 tyX1_ok nmX1 hown hK hP hD hS 0 rfl rfl 0 (by decide) (hB _ mX1_f_thrown) (fun _ h9 => h9) rfl (by decide +kernel) rfl rfl (Nat.le_of_ble_eq_true rfl) dX1_words_13 (fun H locs hP hD hS => ?_)
    have hP : va_P (dC, dI) vwCl (wN B cI cZ (mkN (0) (nWc μ) (nTc μ) (nLc μ) (nWr μ) (nOf μ) (nUn μ) (nOp μ) (nSt μ) (nKs μ) (nVs μ) (nTs μ))) H := hP
    have hD : va_D AA (wN B cI cZ (mkN (0) (nWc μ) (nTc μ) (nLc μ) (nWr μ) (nOf μ) (nUn μ) (nOp μ) (nSt μ) (nKs μ) (nVs μ) (nTs μ))) := hD
    refine lv_aload_n hx hb dX1_words_16 rfl (lv_at hl 0 rfl) ?_
    refine va_get (D := (dC, dI)) (ci := 1) (v := .int (0)) (C := RX1) (T := TX1) (N := 12) hx hb hB inX1 hown hK hP 0 rfl rfl 0 (by decide) (hB _ mX1_f_thrown) (fun _ h9 => h9) rfl dX1_words_17 ?_
    refine lv_if_eq (tgt := 25) hx hb dX1_words_20 rfl (fun h9 => ?_) (fun h9 => ?_)
    · skip
      refine lv_iconst (v := 0) hx hb dX1_words_25 (by decide) ?_
      refine lv_istore_n hx hb dX1_words_26 rfl hl (by decide) rfl (fun ls hl => ?_)
      have hl : lv_has ls 4 [(2, .int 0), (0, .ref (B 0)), (1, .int key)] := hl
      refine lv_iconst (v := 0) hx hb dX1_words_27 (by decide) ?_
      refine lv_istore_n hx hb dX1_words_28 rfl hl (by decide) rfl (fun ls hl => ?_)
      have hl : lv_has ls 4 [(3, .int 0), (2, .int 0), (0, .ref (B 0)), (1, .int key)] := hl
      have hl := lv_sub (l' := [(0, .ref (B 0)), (1, .int key), (2, .int 0), (3, .int 0)]) hl [2, 3, 1, 0] rfl
      have loop : ∀ (n i : Nat) (a : Int32) (ls : Array Slot), i + n = 160 → lv_has ls 4 [(0, .ref (B 0)), (1, .int key), (2, .int a), (3, .int (nI i))] → g_cntB (fun w => decide (g_tag (nTc μ) w = key + 128)) n i a = hr_words μ key → W p l e (headSpec wsX1_words (rk 6)).room s m ([.ref (B 0), .int key]).toArray below meth c H locs 0 0 (MQ below (va_Qi (fun r u => r = hr_words μ key ∧ u = h_th μ (hk_words key)) (nB (dC, dI) B cI cZ AA) AA) ([.ref (B 0), .int key]).toArray s 0 0 AA) (F0 m 29 ls []) := by
        intro n
        induction n with
        | zero =>
          intro i a ls hi hl hF
          have hi8 : i = 160 := by omega
          subst hi8
          refine lv_iload_n hx hb dX1_words_29 rfl (lv_at hl 3 rfl) ?_
          refine lv_sipush (v := 160) hx hb dX1_words_30 (by decide) ?_
          refine lv_icmp_ge (tgt := 63) hx hb dX1_words_33 rfl (fun hc => ?_) (fun hc => ?_)
          · skip
            refine lv_iload_n hx hb dX1_words_63 rfl (lv_at hl 2 rfl) ?_
            exact W.iret (v := a) hx hb hr (fun t ht hW => ⟨⟨a, mkN (0) (nWc μ) (nTc μ) (nLc μ) (nWr μ) (nOf μ) (nUn μ) (nOp μ) (nSt μ) (nKs μ) (nVs μ) (nTs μ), rfl, ⟨hF, by rw [hk]⟩, by rw [ht]; exact hP, va_K.moved hW.alike hK, hD⟩, hS.F ht⟩) hS.2.2 dX1_words_64
          · skip
            exact absurd (by decide) hc
        | succ n ih =>
          intro i a ls hi hl hF
          refine lv_iload_n hx hb dX1_words_29 rfl (lv_at hl 3 rfl) ?_
          refine lv_sipush (v := 160) hx hb dX1_words_30 (by decide) ?_
          refine lv_icmp_ge (tgt := 63) hx hb dX1_words_33 rfl (fun hc => ?_) (fun hc => ?_)
          · skip
            exact absurd hc (nI_ge (b := 160) (by omega) (by decide))
          · skip
            refine lv_iload_n hx hb dX1_words_36 rfl (lv_at hl 2 rfl) ?_
            refine lv_aload_n hx hb dX1_words_37 rfl (lv_at hl 0 rfl) ?_
            refine lv_iload_n hx hb dX1_words_38 rfl (lv_at hl 3 rfl) ?_
            refine ck1_tag hx hb hml hown hB hl.1 hP hK (by omega) dX1_words_39 (Nat.le_of_ble_eq_true rfl) (Nat.le_of_ble_eq_true rfl) ⟨Nat.zero_le _, Nat.zero_le _⟩ (Nat.le_of_ble_eq_true rfl) ?_
            refine lv_iload_n hx hb dX1_words_42 rfl (lv_at hl 1 rfl) ?_
            refine lv_sipush (v := 128) hx hb dX1_words_43 (by decide) ?_
            refine lv_iadd hx hb dX1_words_46 ?_
            refine lv_icmp_ne (tgt := 54) hx hb dX1_words_47 rfl (fun h5 => ?_) (fun h5 => ?_)
            · skip
              refine lv_iconst (v := 0) hx hb dX1_words_54 (by decide) ?_
              refine lv_iadd hx hb dX1_words_55 ?_
              refine lv_istore_n hx hb dX1_words_56 rfl hl (by decide) rfl (fun ls hl => ?_)
              have hl : lv_has ls 4 [(2, .int (a + 0)), (0, .ref (B 0)), (1, .int key), (3, .int (nI i))] := hl
              refine lv_iinc (k := 3) (v := (nI (i + 1))) hx hb dX1_words_57 hl rfl (nI_1 i) (by decide) rfl (fun ls hl => ?_)
              have hl : lv_has ls 4 [(3, .int (nI (i + 1))), (2, .int (a + 0)), (0, .ref (B 0)), (1, .int key)] := hl
              refine lv_goto (tgt := 29) hx hb dX1_words_60 rfl ?_
              exact ih (i + 1) _ ls (by omega) (lv_sub hl [2, 3, 1, 0] rfl) (by rw [← hF, g_cntB]; simp [bI, h5])
            · skip
              refine lv_iconst (v := 1) hx hb dX1_words_50 (by decide) ?_
              refine lv_goto (tgt := 55) hx hb dX1_words_51 rfl ?_
              refine lv_iadd hx hb dX1_words_55 ?_
              refine lv_istore_n hx hb dX1_words_56 rfl hl (by decide) rfl (fun ls hl => ?_)
              have hl : lv_has ls 4 [(2, .int (a + 1)), (0, .ref (B 0)), (1, .int key), (3, .int (nI i))] := hl
              refine lv_iinc (k := 3) (v := (nI (i + 1))) hx hb dX1_words_57 hl rfl (nI_1 i) (by decide) rfl (fun ls hl => ?_)
              have hl : lv_has ls 4 [(3, .int (nI (i + 1))), (2, .int (a + 1)), (0, .ref (B 0)), (1, .int key)] := hl
              refine lv_goto (tgt := 29) hx hb dX1_words_60 rfl ?_
              exact ih (i + 1) _ ls (by omega) (lv_sub hl [2, 3, 1, 0] rfl) (by rw [← hF, g_cntB]; simp [bI, h5])
      exact loop 160 0 0 ls rfl hl (by rw [hr_words, if_pos hk])
    · skip
      exact absurd rfl h9
set_option maxHeartbeats 4000000 in
set_option maxRecDepth 100000 in
theorem cm1_history (l : Launch) (dC : Nat → ClassId) (dI : Nat → Nat → Nat) (B : Nat → Nat) (cI : ClassId) (cZ : ClassId) (μ : NS) (sz : Nat) (key : Int32) (j : Int32) : Met l yX1_history wsX1_history (rk 6) (va_Pc [.ref (B 0), .int key, .int j] (nPre (dC, dI) B cI cZ μ sz)) (va_Qi (fun r u => r = (g_his μ key j).1 ∧ u = h_th μ (g_his μ key j).2) (nB (dC, dI) B cI cZ (nX B cI cZ μ sz)) (nX B cI cZ μ sz)) 0 0 (nX B cI cZ μ sz) := by
  refine Met.ofW (cc := cX1_history) (maxL := 5) (ret := (some .int)) (by decide) rfl ?_
  intro p e s m args below meth c s₁ Bd hml hv
  obtain ⟨rfl, hsz, hP, hK, hD0⟩ := hv
  have hx := Bd.exec
  have hb := Bd.bytes
  have hr := Bd.returns
  have hB : ∀ w ∈ bX1, w.before _ s = true := fun w h => atoms_spec (ws := wsX1_history) Bd.pre w (List.mem_cons_of_mem _ h)
  have hown : s.vm.findClass RX1 = some m.cls := findClass_of_methodNamed Bd.named
  have hlocks := Bd.notSynchronized
  subst hsz
  have hD : va_D (nX B cI cZ μ s.heap.size) (wN B cI cZ μ) := hD0.self (sz := s.heap.size)
  have hA : ∀ q : Nat, s.heap.size ≤ q → nX B cI cZ μ s.heap.size q := fun q h => Or.inr h
  generalize nX B cI cZ μ s.heap.size = AA at hD hA ⊢
  have hS : va_S AA s.heap s.heap [] := va_S.rf
  have hl := lv_entry ([.ref (B 0), .int key, .int j]) (n := 5) (Nat.le_of_ble_eq_true rfl)
  rw [lg_entry_eq]
  generalize (lg_sl ([.ref (B 0), .int key, .int j]) ++ List.replicate (5 - (lg_sl ([.ref (B 0), .int key, .int j])).length) Slot.unset).toArray = ls at hl ⊢
  have hl : lv_has ls 5 [(0, .ref (B 0)), (1, .int key), (2, .int j)] := hl
  refine lv_aload_n hx hb dX1_history_0 rfl (lv_at hl 0 rfl) ?_
  refine lv_iload_n hx hb dX1_history_1 rfl (lv_at hl 1 rfl) ?_
  refine ck1_isKey hx hb hml hown hB hl.1  dX1_history_2 (Nat.le_of_ble_eq_true rfl) (Nat.le_of_ble_eq_true rfl) ⟨Nat.zero_le _, Nat.zero_le _⟩ (Nat.le_of_ble_eq_true rfl) ?_
  refine lv_if_eq (tgt := 12) hx hb dX1_history_5 rfl (fun h1 => ?_) (fun h1 => ?_)
  · skip
    have hk : g_his μ key j = (0, 1) := if_neg (by rw [bI_0.mp h1]; decide)
    refine lv_iconst (v := 1) hx hb dX1_history_12 (by decide) ?_
    refine va_put (D := (dC, dI)) (ci := 1) (v := .int 1) (ty := .int) (C := RX1) (T := TX1) (N := 12) hx hb hB inX1 tyX1 tyX1_ok nmX1 hown hK hP hD hS 0 rfl rfl 0 (by decide) (hB _ mX1_f_thrown) (fun _ h9 => h9) rfl (by decide +kernel) rfl rfl (Nat.le_of_ble_eq_true rfl) dX1_history_13 (fun H locs hP hD hS => ?_)
    have hP : va_P (dC, dI) vwCl (wN B cI cZ (mkN (1) (nWc μ) (nTc μ) (nLc μ) (nWr μ) (nOf μ) (nUn μ) (nOp μ) (nSt μ) (nKs μ) (nVs μ) (nTs μ))) H := hP
    have hD : va_D AA (wN B cI cZ (mkN (1) (nWc μ) (nTc μ) (nLc μ) (nWr μ) (nOf μ) (nUn μ) (nOp μ) (nSt μ) (nKs μ) (nVs μ) (nTs μ))) := hD
    refine lv_aload_n hx hb dX1_history_16 rfl (lv_at hl 0 rfl) ?_
    refine va_get (D := (dC, dI)) (ci := 1) (v := .int (1)) (C := RX1) (T := TX1) (N := 12) hx hb hB inX1 hown hK hP 0 rfl rfl 0 (by decide) (hB _ mX1_f_thrown) (fun _ h9 => h9) rfl dX1_history_17 ?_
    refine lv_if_eq (tgt := 25) hx hb dX1_history_20 rfl (fun h9 => ?_) (fun h9 => ?_)
    · skip
      exact absurd h9 (by decide)
    · skip
      refine lv_iconst (v := 0) hx hb dX1_history_23 (by decide) ?_
      exact W.iret (v := 0) hx hb hr (fun t ht hW => ⟨⟨0, mkN (1) (nWc μ) (nTc μ) (nLc μ) (nWr μ) (nOf μ) (nUn μ) (nOp μ) (nSt μ) (nKs μ) (nVs μ) (nTs μ), rfl, ⟨by rw [hk], by rw [hk]⟩, by rw [ht]; exact hP, va_K.moved hW.alike hK, hD⟩, hS.F ht⟩) hS.2.2 dX1_history_24
  · skip
    refine lv_iconst (v := 0) hx hb dX1_history_8 (by decide) ?_
    refine lv_goto (tgt := 13) hx hb dX1_history_9 rfl ?_
    refine va_put (D := (dC, dI)) (ci := 1) (v := .int 0) (ty := .int) (C := RX1) (T := TX1) (N := 12) hx hb hB inX1 tyX1 tyX1_ok nmX1 hown hK hP hD hS 0 rfl rfl 0 (by decide) (hB _ mX1_f_thrown) (fun _ h9 => h9) rfl (by decide +kernel) rfl rfl (Nat.le_of_ble_eq_true rfl) dX1_history_13 (fun H locs hP hD hS => ?_)
    have hP : va_P (dC, dI) vwCl (wN B cI cZ (mkN (0) (nWc μ) (nTc μ) (nLc μ) (nWr μ) (nOf μ) (nUn μ) (nOp μ) (nSt μ) (nKs μ) (nVs μ) (nTs μ))) H := hP
    have hD : va_D AA (wN B cI cZ (mkN (0) (nWc μ) (nTc μ) (nLc μ) (nWr μ) (nOf μ) (nUn μ) (nOp μ) (nSt μ) (nKs μ) (nVs μ) (nTs μ))) := hD
    refine lv_aload_n hx hb dX1_history_16 rfl (lv_at hl 0 rfl) ?_
    refine va_get (D := (dC, dI)) (ci := 1) (v := .int (0)) (C := RX1) (T := TX1) (N := 12) hx hb hB inX1 hown hK hP 0 rfl rfl 0 (by decide) (hB _ mX1_f_thrown) (fun _ h9 => h9) rfl dX1_history_17 ?_
    refine lv_if_eq (tgt := 25) hx hb dX1_history_20 rfl (fun h9 => ?_) (fun h9 => ?_)
    · skip
      refine lv_iload_n hx hb dX1_history_25 rfl (lv_at hl 2 rfl) ?_
      refine lv_istore_n hx hb dX1_history_26 rfl hl (by decide) rfl (fun ls hl => ?_)
      have hl : lv_has ls 5 [(3, .int j), (0, .ref (B 0)), (1, .int key), (2, .int j)] := hl
      refine lv_iconst (v := 0) hx hb dX1_history_27 (by decide) ?_
      refine lv_istore hx hb dX1_history_28 hl (by decide) rfl (fun ls hl => ?_)
      have hl : lv_has ls 5 [(4, .int 0), (3, .int j), (0, .ref (B 0)), (1, .int key), (2, .int j)] := hl
      have hl := lv_sub (l' := [(0, .ref (B 0)), (1, .int key), (2, .int j), (3, .int j), (4, .int 0)]) hl [2, 3, 4, 1, 0] rfl
      by_cases hj : j < 0
      · skip
        have hk : g_his μ key j = (0, 2) := (if_pos (bI_n0.mp h1)).trans (if_pos hj)
        refine lv_iload hx hb dX1_history_30 (lv_at hl 4 rfl) ?_
        refine lv_sipush (v := 160) hx hb dX1_history_32 (by decide) ?_
        refine lv_icmp_ge (tgt := 79) hx hb dX1_history_35 rfl (fun hc => ?_) (fun hc => ?_)
        · skip
          exact absurd hc (by decide)
        · skip
          refine lv_iload_n hx hb dX1_history_38 rfl (lv_at hl 2 rfl) ?_
          refine lv_if_lt (tgt := 79) hx hb dX1_history_39 rfl (fun hd => ?_) (fun hd => ?_)
          · skip
            refine lv_aload_n hx hb dX1_history_79 rfl (lv_at hl 0 rfl) ?_
            refine lv_iconst (v := 2) hx hb dX1_history_80 (by decide) ?_
            refine va_put (D := (dC, dI)) (ci := 1) (v := .int 2) (ty := .int) (C := RX1) (T := TX1) (N := 12) hx hb hB inX1 tyX1 tyX1_ok nmX1 hown hK hP hD hS 0 rfl rfl 0 (by decide) (hB _ mX1_f_thrown) (fun _ h9 => h9) rfl (by decide +kernel) rfl rfl (Nat.le_of_ble_eq_true rfl) dX1_history_81 (fun H locs hP hD hS => ?_)
            have hP : va_P (dC, dI) vwCl (wN B cI cZ (mkN (2) (nWc μ) (nTc μ) (nLc μ) (nWr μ) (nOf μ) (nUn μ) (nOp μ) (nSt μ) (nKs μ) (nVs μ) (nTs μ))) H := hP
            have hD : va_D AA (wN B cI cZ (mkN (2) (nWc μ) (nTc μ) (nLc μ) (nWr μ) (nOf μ) (nUn μ) (nOp μ) (nSt μ) (nKs μ) (nVs μ) (nTs μ))) := hD
            refine lv_iconst (v := 0) hx hb dX1_history_84 (by decide) ?_
            exact W.iret (v := 0) hx hb hr (fun t ht hW => ⟨⟨0, mkN (2) (nWc μ) (nTc μ) (nLc μ) (nWr μ) (nOf μ) (nUn μ) (nOp μ) (nSt μ) (nKs μ) (nVs μ) (nTs μ), rfl, ⟨by rw [hk], by rw [hk]⟩, by rw [ht]; exact hP, va_K.moved hW.alike hK, hD⟩, hS.F ht⟩) hS.2.2 dX1_history_85
          · skip
            exact absurd hj hd
      · skip
        have hk : g_his μ key j = g_hisL μ key 160 0 j := (if_pos (bI_n0.mp h1)).trans (if_neg hj)
        have loop : ∀ (n i : Nat) (l1 : Int32) (ls : Array Slot) (H : Heap) (locs : List Loc), i + n = 160 → lv_has ls 5 [(0, .ref (B 0)), (1, .int key), (2, .int j), (3, .int l1), (4, .int (nI i))] → va_P (dC, dI) vwCl (wN B cI cZ (h_th μ 0)) H → va_D AA (wN B cI cZ (h_th μ 0)) → va_S AA s.heap H locs → g_hisL μ key n i l1 = g_his μ key j → W p l e (headSpec wsX1_history (rk 6)).room s m ([.ref (B 0), .int key, .int j]).toArray below meth c H locs 0 0 (MQ below (va_Qi (fun r u => r = (g_his μ key j).1 ∧ u = h_th μ (g_his μ key j).2) (nB (dC, dI) B cI cZ AA) AA) ([.ref (B 0), .int key, .int j]).toArray s 0 0 AA) (F0 m 30 ls []) := by
          intro n
          induction n with
          | zero =>
            intro i l1 ls H locs hi hl hP hD hS hF
            have hi8 : i = 160 := by omega
            subst hi8
            refine lv_iload hx hb dX1_history_30 (lv_at hl 4 rfl) ?_
            refine lv_sipush (v := 160) hx hb dX1_history_32 (by decide) ?_
            refine lv_icmp_ge (tgt := 79) hx hb dX1_history_35 rfl (fun hc => ?_) (fun hc => ?_)
            · skip
              refine lv_aload_n hx hb dX1_history_79 rfl (lv_at hl 0 rfl) ?_
              refine lv_iconst (v := 2) hx hb dX1_history_80 (by decide) ?_
              refine va_put (D := (dC, dI)) (ci := 1) (v := .int 2) (ty := .int) (C := RX1) (T := TX1) (N := 12) hx hb hB inX1 tyX1 tyX1_ok nmX1 hown hK hP hD hS 0 rfl rfl 0 (by decide) (hB _ mX1_f_thrown) (fun _ h9 => h9) rfl (by decide +kernel) rfl rfl (Nat.le_of_ble_eq_true rfl) dX1_history_81 (fun H locs hP hD hS => ?_)
              have hP : va_P (dC, dI) vwCl (wN B cI cZ (mkN (2) (nWc μ) (nTc μ) (nLc μ) (nWr μ) (nOf μ) (nUn μ) (nOp μ) (nSt μ) (nKs μ) (nVs μ) (nTs μ))) H := hP
              have hD : va_D AA (wN B cI cZ (mkN (2) (nWc μ) (nTc μ) (nLc μ) (nWr μ) (nOf μ) (nUn μ) (nOp μ) (nSt μ) (nKs μ) (nVs μ) (nTs μ))) := hD
              refine lv_iconst (v := 0) hx hb dX1_history_84 (by decide) ?_
              exact W.iret (v := 0) hx hb hr (fun t ht hW => ⟨⟨0, mkN (2) (nWc μ) (nTc μ) (nLc μ) (nWr μ) (nOf μ) (nUn μ) (nOp μ) (nSt μ) (nKs μ) (nVs μ) (nTs μ), rfl, ⟨by rw [← hF]; rfl, by rw [← hF]; rfl⟩, by rw [ht]; exact hP, va_K.moved hW.alike hK, hD⟩, hS.F ht⟩) hS.2.2 dX1_history_85
            · skip
              exact absurd (by decide) hc
          | succ n ih =>
            intro i l1 ls H locs hi hl hP hD hS hF
            refine lv_iload hx hb dX1_history_30 (lv_at hl 4 rfl) ?_
            refine lv_sipush (v := 160) hx hb dX1_history_32 (by decide) ?_
            refine lv_icmp_ge (tgt := 79) hx hb dX1_history_35 rfl (fun hc => ?_) (fun hc => ?_)
            · skip
              exact absurd hc (nI_ge (b := 160) (by omega) (by decide))
            · skip
              refine lv_iload_n hx hb dX1_history_38 rfl (lv_at hl 2 rfl) ?_
              refine lv_if_lt (tgt := 79) hx hb dX1_history_39 rfl (fun hd => ?_) (fun hd => ?_)
              · skip
                exact absurd hd hj
              · skip
                refine lv_aload_n hx hb dX1_history_42 rfl (lv_at hl 0 rfl) ?_
                refine lv_iload hx hb dX1_history_43 (lv_at hl 4 rfl) ?_
                refine ck1_tag hx hb hml hown hB hl.1 hP hK (by omega) dX1_history_45 (Nat.le_of_ble_eq_true rfl) (Nat.le_of_ble_eq_true rfl) ⟨Nat.zero_le _, Nat.zero_le _⟩ (Nat.le_of_ble_eq_true rfl) ?_
                refine lv_iload_n hx hb dX1_history_48 rfl (lv_at hl 1 rfl) ?_
                refine lv_sipush (v := 128) hx hb dX1_history_49 (by decide) ?_
                refine lv_iadd hx hb dX1_history_52 ?_
                refine lv_icmp_eq (tgt := 59) hx hb dX1_history_53 rfl (fun h5 => ?_) (fun h5 => ?_)
                · skip
                  refine lv_iload_n hx hb dX1_history_59 rfl (lv_at hl 3 rfl) ?_
                  refine lv_if_ne (tgt := 70) hx hb dX1_history_60 rfl (fun h6 => ?_) (fun h6 => ?_)
                  · skip
                    refine lv_iinc (k := 3) (v := (l1 + (-1))) hx hb dX1_history_70 hl rfl (rfl) (by decide) rfl (fun ls hl => ?_)
                    have hl : lv_has ls 5 [(3, .int (l1 + (-1))), (0, .ref (B 0)), (1, .int key), (2, .int j), (4, .int (nI i))] := hl
                    refine lv_iinc (k := 4) (v := (nI (i + 1))) hx hb dX1_history_73 hl rfl (nI_1 i) (by decide) rfl (fun ls hl => ?_)
                    have hl : lv_has ls 5 [(4, .int (nI (i + 1))), (3, .int (l1 + (-1))), (0, .ref (B 0)), (1, .int key), (2, .int j)] := hl
                    refine lv_goto (tgt := 30) hx hb dX1_history_76 rfl ?_
                    exact ih (i + 1) _ ls H locs (by omega) (lv_sub hl [2, 3, 4, 1, 0] rfl) hP hD hS (by rw [← hF, g_hisL, if_pos h5, if_neg h6])
                  · skip
                    refine lv_aload_n hx hb dX1_history_63 rfl (lv_at hl 0 rfl) ?_
                    refine lv_iload hx hb dX1_history_64 (lv_at hl 4 rfl) ?_
                    refine ck1_valueOf hx hb hml hown hB hl.1 hP hK (by omega) dX1_history_66 (Nat.le_of_ble_eq_true rfl) (Nat.le_of_ble_eq_true rfl) ⟨Nat.zero_le _, Nat.zero_le _⟩ (Nat.le_of_ble_eq_true rfl) ?_
                    exact W.iret (v := (g_val (nWc μ) i)) hx hb hr (fun t ht hW => ⟨⟨(g_val (nWc μ) i), mkN (0) (nWc μ) (nTc μ) (nLc μ) (nWr μ) (nOf μ) (nUn μ) (nOp μ) (nSt μ) (nKs μ) (nVs μ) (nTs μ), rfl, ⟨by rw [← hF, g_hisL, if_pos h5, if_pos h6], by rw [← hF, g_hisL, if_pos h5, if_pos h6]⟩, by rw [ht]; exact hP, va_K.moved hW.alike hK, hD⟩, hS.F ht⟩) hS.2.2 dX1_history_69
                · skip
                  refine lv_goto (tgt := 73) hx hb dX1_history_56 rfl ?_
                  refine lv_iinc (k := 4) (v := (nI (i + 1))) hx hb dX1_history_73 hl rfl (nI_1 i) (by decide) rfl (fun ls hl => ?_)
                  have hl : lv_has ls 5 [(4, .int (nI (i + 1))), (0, .ref (B 0)), (1, .int key), (2, .int j), (3, .int l1)] := hl
                  refine lv_goto (tgt := 30) hx hb dX1_history_76 rfl ?_
                  exact ih (i + 1) _ ls H locs (by omega) (lv_sub hl [1, 2, 3, 4, 0] rfl) hP hD hS (by rw [← hF, g_hisL, if_neg h5])
        exact loop 160 0 j ls H locs rfl hl hP hD hS hk.symm
    · skip
      exact absurd rfl h9
set_option maxHeartbeats 4000000 in
set_option maxRecDepth 100000 in
theorem cm1_cell (l : Launch) (dC : Nat → ClassId) (dI : Nat → Nat → Nat) (B : Nat → Nat) (cI : ClassId) (cZ : ClassId) (μ : NS) (sz : Nat) (a : Int32) (b : Int32) (d : Int32) : Met l yX1_cell wsX1_cell (rk 6) (va_Pc [.ref (B 0), .int a, .int b, .int d] (nPre (dC, dI) B cI cZ μ sz)) (va_Qi (fun r u => r = hr_cell μ a b d ∧ u = h_th μ (hk_cell a b d)) (nB (dC, dI) B cI cZ (nX B cI cZ μ sz)) (nX B cI cZ μ sz)) 0 0 (nX B cI cZ μ sz) := by
  refine Met.ofW (cc := cX1_cell) (maxL := 7) (ret := (some .int)) (by decide) rfl ?_
  intro p e s m args below meth c s₁ Bd hml hv
  obtain ⟨rfl, hsz, hP, hK, hD0⟩ := hv
  have hx := Bd.exec
  have hb := Bd.bytes
  have hr := Bd.returns
  have hB : ∀ w ∈ bX1, w.before _ s = true := fun w h => atoms_spec (ws := wsX1_cell) Bd.pre w (List.mem_cons_of_mem _ h)
  have hown : s.vm.findClass RX1 = some m.cls := findClass_of_methodNamed Bd.named
  have hlocks := Bd.notSynchronized
  subst hsz
  have hD : va_D (nX B cI cZ μ s.heap.size) (wN B cI cZ μ) := hD0.self (sz := s.heap.size)
  have hA : ∀ q : Nat, s.heap.size ≤ q → nX B cI cZ μ s.heap.size q := fun q h => Or.inr h
  generalize nX B cI cZ μ s.heap.size = AA at hD hA ⊢
  have hS : va_S AA s.heap s.heap [] := va_S.rf
  have hl := lv_entry ([.ref (B 0), .int a, .int b, .int d]) (n := 7) (Nat.le_of_ble_eq_true rfl)
  rw [lg_entry_eq]
  generalize (lg_sl ([.ref (B 0), .int a, .int b, .int d]) ++ List.replicate (7 - (lg_sl ([.ref (B 0), .int a, .int b, .int d])).length) Slot.unset).toArray = ls at hl ⊢
  have hl : lv_has ls 7 [(0, .ref (B 0)), (1, .int a), (2, .int b), (3, .int d)] := hl
  by_cases ha0 : a = 0
  · skip
    subst ha0
    refine lv_iload_n hx hb dX1_cell_0 rfl (lv_at hl 1 rfl) ?_
    refine lv_iconst (v := 2) hx hb dX1_cell_1 (by decide) ?_
    refine lv_icmp_ne (tgt := 11) hx hb dX1_cell_2 rfl (fun m1 => ?_) (fun m1 => ?_)
    · skip
      refine lv_sipush (v := 160) hx hb dX1_cell_11 (by decide) ?_
      refine lv_istore hx hb dX1_cell_14 hl (by decide) rfl (fun ls hl => ?_)
      have hl : lv_has ls 7 [(4, .int 160), (0, .ref (B 0)), (1, .int 0), (2, .int b), (3, .int d)] := hl
      refine lv_iload_n hx hb dX1_cell_16 rfl (lv_at hl 2 rfl) ?_
      refine lv_if_ne (tgt := 25) hx hb dX1_cell_17 rfl (fun m2 => ?_) (fun m2 => ?_)
      · skip
        exact absurd rfl m2
      · skip
        refine lv_bipush (v := 24) hx hb dX1_cell_20 (by decide) ?_
        refine lv_goto (tgt := 37) hx hb dX1_cell_22 rfl ?_
        refine lv_istore hx hb dX1_cell_37 hl (by decide) rfl (fun ls hl => ?_)
        have hl : lv_has ls 7 [(5, .int 24), (4, .int 160), (0, .ref (B 0)), (1, .int 0), (2, .int b), (3, .int d)] := hl
        refine lv_aload_n hx hb dX1_cell_39 rfl (lv_at hl 2 rfl) ?_
        refine lv_iload_n hx hb dX1_cell_40 rfl (lv_at hl 3 rfl) ?_
        refine lv_if_lt (tgt := 69) hx hb dX1_cell_41 rfl (fun m4 => ?_) (fun m4 => ?_)
        · skip
          exact absurd m4 (by decide)
        · skip
          refine lv_iload_n hx hb dX1_cell_44 rfl (lv_at hl 3 rfl) ?_
          refine lv_iconst (v := 2) hx hb dX1_cell_45 (by decide) ?_
          refine lv_icmp_gt (tgt := 69) hx hb dX1_cell_46 rfl (fun m5 => ?_) (fun m5 => ?_)
          · skip
            exact absurd m5 (by decide)
          · skip
            refine lv_iload_n hx hb dX1_cell_49 rfl (lv_at hl 4 rfl) ?_
            refine lv_if_lt (tgt := 69) hx hb dX1_cell_50 rfl (fun h1 => ?_) (fun h1 => ?_)
            · skip
              refine lv_iconst (v := 1) hx hb dX1_cell_69 (by decide) ?_
              refine lv_goto (tgt := 74) hx hb dX1_cell_70 rfl ?_
              have hk : k_cell 0 b d = 1 := by simp [k_cell, f_below, h1]
              refine va_put (D := (dC, dI)) (ci := 1) (v := .int 1) (ty := .int) (C := RX1) (T := TX1) (N := 12) hx hb hB inX1 tyX1 tyX1_ok nmX1 hown hK hP hD hS 0 rfl rfl 0 (by decide) (hB _ mX1_f_thrown) (fun _ h9 => h9) rfl (by decide +kernel) rfl rfl (Nat.le_of_ble_eq_true rfl) dX1_cell_74 (fun H locs hP hD hS => ?_)
              have hP : va_P (dC, dI) vwCl (wN B cI cZ (mkN (1) (nWc μ) (nTc μ) (nLc μ) (nWr μ) (nOf μ) (nUn μ) (nOp μ) (nSt μ) (nKs μ) (nVs μ) (nTs μ))) H := hP
              have hD : va_D AA (wN B cI cZ (mkN (1) (nWc μ) (nTc μ) (nLc μ) (nWr μ) (nOf μ) (nUn μ) (nOp μ) (nSt μ) (nKs μ) (nVs μ) (nTs μ))) := hD
              refine lv_aload_n hx hb dX1_cell_77 rfl (lv_at hl 2 rfl) ?_
              refine va_get (D := (dC, dI)) (ci := 1) (v := .int (1)) (C := RX1) (T := TX1) (N := 12) hx hb hB inX1 hown hK hP 0 rfl rfl 0 (by decide) (hB _ mX1_f_thrown) (fun _ h9 => h9) rfl dX1_cell_78 ?_
              refine lv_if_eq (tgt := 86) hx hb dX1_cell_81 rfl (fun h9 => ?_) (fun h9 => ?_)
              · skip
                exact absurd h9 (by decide)
              · skip
                refine lv_iconst (v := 0) hx hb dX1_cell_84 (by decide) ?_
                exact W.iret (v := 0) hx hb hr (fun t ht hW => ⟨⟨0, mkN (1) (nWc μ) (nTc μ) (nLc μ) (nWr μ) (nOf μ) (nUn μ) (nOp μ) (nSt μ) (nKs μ) (nVs μ) (nTs μ), rfl, ⟨by rw [hr_cell, if_pos (by rw [hk]; decide)], by rw [hk_cell, hk]; rfl⟩, by rw [ht]; exact hP, va_K.moved hW.alike hK, hD⟩, hS.F ht⟩) hS.2.2 dX1_cell_85
            · skip
              refine lv_iload_n hx hb dX1_cell_53 rfl (lv_at hl 4 rfl) ?_
              refine lv_iload hx hb dX1_cell_54 (lv_at hl 1 rfl) ?_
              refine lv_icmp_ge (tgt := 69) hx hb dX1_cell_56 rfl (fun h2 => ?_) (fun h2 => ?_)
              · skip
                refine lv_iconst (v := 1) hx hb dX1_cell_69 (by decide) ?_
                refine lv_goto (tgt := 74) hx hb dX1_cell_70 rfl ?_
                have hk : k_cell 0 b d = 1 := by simp [k_cell, f_below, h2]
                refine va_put (D := (dC, dI)) (ci := 1) (v := .int 1) (ty := .int) (C := RX1) (T := TX1) (N := 12) hx hb hB inX1 tyX1 tyX1_ok nmX1 hown hK hP hD hS 0 rfl rfl 0 (by decide) (hB _ mX1_f_thrown) (fun _ h9 => h9) rfl (by decide +kernel) rfl rfl (Nat.le_of_ble_eq_true rfl) dX1_cell_74 (fun H locs hP hD hS => ?_)
                have hP : va_P (dC, dI) vwCl (wN B cI cZ (mkN (1) (nWc μ) (nTc μ) (nLc μ) (nWr μ) (nOf μ) (nUn μ) (nOp μ) (nSt μ) (nKs μ) (nVs μ) (nTs μ))) H := hP
                have hD : va_D AA (wN B cI cZ (mkN (1) (nWc μ) (nTc μ) (nLc μ) (nWr μ) (nOf μ) (nUn μ) (nOp μ) (nSt μ) (nKs μ) (nVs μ) (nTs μ))) := hD
                refine lv_aload_n hx hb dX1_cell_77 rfl (lv_at hl 2 rfl) ?_
                refine va_get (D := (dC, dI)) (ci := 1) (v := .int (1)) (C := RX1) (T := TX1) (N := 12) hx hb hB inX1 hown hK hP 0 rfl rfl 0 (by decide) (hB _ mX1_f_thrown) (fun _ h9 => h9) rfl dX1_cell_78 ?_
                refine lv_if_eq (tgt := 86) hx hb dX1_cell_81 rfl (fun h9 => ?_) (fun h9 => ?_)
                · skip
                  exact absurd h9 (by decide)
                · skip
                  refine lv_iconst (v := 0) hx hb dX1_cell_84 (by decide) ?_
                  exact W.iret (v := 0) hx hb hr (fun t ht hW => ⟨⟨0, mkN (1) (nWc μ) (nTc μ) (nLc μ) (nWr μ) (nOf μ) (nUn μ) (nOp μ) (nSt μ) (nKs μ) (nVs μ) (nTs μ), rfl, ⟨by rw [hr_cell, if_pos (by rw [hk]; decide)], by rw [hk_cell, hk]; rfl⟩, by rw [ht]; exact hP, va_K.moved hW.alike hK, hD⟩, hS.F ht⟩) hS.2.2 dX1_cell_85
              · skip
                refine lv_iload_n hx hb dX1_cell_59 rfl (lv_at hl 5 rfl) ?_
                refine lv_if_lt (tgt := 69) hx hb dX1_cell_60 rfl (fun h3 => ?_) (fun h3 => ?_)
                · skip
                  refine lv_iconst (v := 1) hx hb dX1_cell_69 (by decide) ?_
                  refine lv_goto (tgt := 74) hx hb dX1_cell_70 rfl ?_
                  have hk : k_cell 0 b d = 1 := by simp [k_cell, f_below, h3]
                  refine va_put (D := (dC, dI)) (ci := 1) (v := .int 1) (ty := .int) (C := RX1) (T := TX1) (N := 12) hx hb hB inX1 tyX1 tyX1_ok nmX1 hown hK hP hD hS 0 rfl rfl 0 (by decide) (hB _ mX1_f_thrown) (fun _ h9 => h9) rfl (by decide +kernel) rfl rfl (Nat.le_of_ble_eq_true rfl) dX1_cell_74 (fun H locs hP hD hS => ?_)
                  have hP : va_P (dC, dI) vwCl (wN B cI cZ (mkN (1) (nWc μ) (nTc μ) (nLc μ) (nWr μ) (nOf μ) (nUn μ) (nOp μ) (nSt μ) (nKs μ) (nVs μ) (nTs μ))) H := hP
                  have hD : va_D AA (wN B cI cZ (mkN (1) (nWc μ) (nTc μ) (nLc μ) (nWr μ) (nOf μ) (nUn μ) (nOp μ) (nSt μ) (nKs μ) (nVs μ) (nTs μ))) := hD
                  refine lv_aload_n hx hb dX1_cell_77 rfl (lv_at hl 2 rfl) ?_
                  refine va_get (D := (dC, dI)) (ci := 1) (v := .int (1)) (C := RX1) (T := TX1) (N := 12) hx hb hB inX1 hown hK hP 0 rfl rfl 0 (by decide) (hB _ mX1_f_thrown) (fun _ h9 => h9) rfl dX1_cell_78 ?_
                  refine lv_if_eq (tgt := 86) hx hb dX1_cell_81 rfl (fun h9 => ?_) (fun h9 => ?_)
                  · skip
                    exact absurd h9 (by decide)
                  · skip
                    refine lv_iconst (v := 0) hx hb dX1_cell_84 (by decide) ?_
                    exact W.iret (v := 0) hx hb hr (fun t ht hW => ⟨⟨0, mkN (1) (nWc μ) (nTc μ) (nLc μ) (nWr μ) (nOf μ) (nUn μ) (nOp μ) (nSt μ) (nKs μ) (nVs μ) (nTs μ), rfl, ⟨by rw [hr_cell, if_pos (by rw [hk]; decide)], by rw [hk_cell, hk]; rfl⟩, by rw [ht]; exact hP, va_K.moved hW.alike hK, hD⟩, hS.F ht⟩) hS.2.2 dX1_cell_85
                · skip
                  refine lv_iload_n hx hb dX1_cell_63 rfl (lv_at hl 5 rfl) ?_
                  refine lv_iload hx hb dX1_cell_64 (lv_at hl 0 rfl) ?_
                  refine lv_icmp_lt (tgt := 73) hx hb dX1_cell_66 rfl (fun h4 => ?_) (fun h4 => ?_)
                  · skip
                    have h4n : ¬ (24 : Int32) ≤ d := Int32.not_le.mpr h4
                    have hk : k_cell 0 b d = 0 := by simp [k_cell, f_below, h1, h2, h3, h4n]
                    obtain ⟨bn, hbn, eb, -⟩ := pk_mu (L := 160) h1 h2 (by decide)
                    obtain ⟨dn, hdn, ed, -⟩ := pk_mu (L := 24) h3 h4n (by decide)
                    have ebc : b.toNatClampNeg = bn := by rw [eb]; exact nI_clamp (by omega)
                    have edc : d.toNatClampNeg = dn := by rw [ed]; exact nI_clamp (by omega)
                    refine lv_iconst (v := 0) hx hb dX1_cell_73 (by decide) ?_
                    refine va_put (D := (dC, dI)) (ci := 1) (v := .int 0) (ty := .int) (C := RX1) (T := TX1) (N := 12) hx hb hB inX1 tyX1 tyX1_ok nmX1 hown hK hP hD hS 0 rfl rfl 0 (by decide) (hB _ mX1_f_thrown) (fun _ h9 => h9) rfl (by decide +kernel) rfl rfl (Nat.le_of_ble_eq_true rfl) dX1_cell_74 (fun H locs hP hD hS => ?_)
                    have hP : va_P (dC, dI) vwCl (wN B cI cZ (mkN (0) (nWc μ) (nTc μ) (nLc μ) (nWr μ) (nOf μ) (nUn μ) (nOp μ) (nSt μ) (nKs μ) (nVs μ) (nTs μ))) H := hP
                    have hD : va_D AA (wN B cI cZ (mkN (0) (nWc μ) (nTc μ) (nLc μ) (nWr μ) (nOf μ) (nUn μ) (nOp μ) (nSt μ) (nKs μ) (nVs μ) (nTs μ))) := hD
                    refine lv_aload_n hx hb dX1_cell_77 rfl (lv_at hl 2 rfl) ?_
                    refine va_get (D := (dC, dI)) (ci := 1) (v := .int (0)) (C := RX1) (T := TX1) (N := 12) hx hb hB inX1 hown hK hP 0 rfl rfl 0 (by decide) (hB _ mX1_f_thrown) (fun _ h9 => h9) rfl dX1_cell_78 ?_
                    refine lv_if_eq (tgt := 86) hx hb dX1_cell_81 rfl (fun h9 => ?_) (fun h9 => ?_)
                    · skip
                      refine lv_iload hx hb dX1_cell_86 (lv_at hl 0 rfl) ?_
                      refine lv_iload_n hx hb dX1_cell_88 rfl (lv_at hl 4 rfl) ?_
                      refine lv_imul hx hb dX1_cell_89 ?_
                      refine lv_iload_n hx hb dX1_cell_90 rfl (lv_at hl 5 rfl) ?_
                      refine lv_iadd hx hb dX1_cell_91 ?_
                      have hidx : (24 : Int32) * b + d = nI (24 * bn + dn) := by rw [eb, ed, ← nI_add, ← pk_mul]; rfl
                      rw [hidx]
                      refine lv_istore hx hb dX1_cell_92 hl (by decide) rfl (fun ls hl => ?_)
                      have hl : lv_has ls 7 [(6, .int (nI (24 * bn + dn))), (5, .int 24), (4, .int 160), (0, .ref (B 0)), (1, .int 0), (2, .int b), (3, .int d)] := hl
                      refine lv_iload_n hx hb dX1_cell_94 rfl (lv_at hl 4 rfl) ?_
                      refine lv_if_ne (tgt := 111) hx hb dX1_cell_95 rfl (fun n1 => ?_) (fun n1 => ?_)
                      · skip
                        exact absurd rfl n1
                      · skip
                        refine lv_aload_n hx hb dX1_cell_98 rfl (lv_at hl 3 rfl) ?_
                        refine va_get (D := (dC, dI)) (ci := 1) (v := .ref (B 1)) (C := RX1) (T := TX1) (N := 12) hx hb hB inX1 hown hK hP 0 rfl rfl 1 (by decide) (hB _ mX1_f_wordCells) (fun _ h9 => h9) rfl dX1_cell_99 ?_
                        refine lv_iload hx hb dX1_cell_102 (lv_at hl 0 rfl) ?_
                        refine va_zald (D := (dC, dI)) (i := (nI (24 * bn + dn))) hx hb hK hP 1 1 rfl rfl (vp_in_nI (by omega) (by decide)) dX1_cell_104 ?_
                        rw [show ((nI (24 * bn + dn))).toNatClampNeg = 24 * bn + dn from nI_clamp (by omega)]
                        refine lv_if_eq (tgt := 143) hx hb dX1_cell_105 rfl (fun n3 => ?_) (fun n3 => ?_)
                        · skip
                          refine lv_iconst (v := 0) hx hb dX1_cell_143 (by decide) ?_
                          exact W.iret (v := 0) hx hb hr (fun t ht hW => ⟨⟨0, mkN (0) (nWc μ) (nTc μ) (nLc μ) (nWr μ) (nOf μ) (nUn μ) (nOp μ) (nSt μ) (nKs μ) (nVs μ) (nTs μ), rfl, ⟨by rw [hr_cell, if_neg (fun h => h hk), ebc, edc]; exact (if_pos n3).symm, by rw [hk_cell, hk]; rfl⟩, by rw [ht]; exact hP, va_K.moved hW.alike hK, hD⟩, hS.F ht⟩) hS.2.2 dX1_cell_144
                        · skip
                          refine lv_goto (tgt := 139) hx hb dX1_cell_108 rfl ?_
                          refine lv_iconst (v := 1) hx hb dX1_cell_139 (by decide) ?_
                          refine lv_goto (tgt := 144) hx hb dX1_cell_140 rfl ?_
                          exact W.iret (v := 1) hx hb hr (fun t ht hW => ⟨⟨1, mkN (0) (nWc μ) (nTc μ) (nLc μ) (nWr μ) (nOf μ) (nUn μ) (nOp μ) (nSt μ) (nKs μ) (nVs μ) (nTs μ), rfl, ⟨by rw [hr_cell, if_neg (fun h => h hk), ebc, edc]; exact (if_neg n3).symm, by rw [hk_cell, hk]; rfl⟩, by rw [ht]; exact hP, va_K.moved hW.alike hK, hD⟩, hS.F ht⟩) hS.2.2 dX1_cell_144
                    · skip
                      exact absurd rfl h9
                  · skip
                    refine lv_iconst (v := 1) hx hb dX1_cell_69 (by decide) ?_
                    refine lv_goto (tgt := 74) hx hb dX1_cell_70 rfl ?_
                    have hk : k_cell 0 b d = 1 := by simp [k_cell, f_below, Int32.not_lt.mp h4]
                    refine va_put (D := (dC, dI)) (ci := 1) (v := .int 1) (ty := .int) (C := RX1) (T := TX1) (N := 12) hx hb hB inX1 tyX1 tyX1_ok nmX1 hown hK hP hD hS 0 rfl rfl 0 (by decide) (hB _ mX1_f_thrown) (fun _ h9 => h9) rfl (by decide +kernel) rfl rfl (Nat.le_of_ble_eq_true rfl) dX1_cell_74 (fun H locs hP hD hS => ?_)
                    have hP : va_P (dC, dI) vwCl (wN B cI cZ (mkN (1) (nWc μ) (nTc μ) (nLc μ) (nWr μ) (nOf μ) (nUn μ) (nOp μ) (nSt μ) (nKs μ) (nVs μ) (nTs μ))) H := hP
                    have hD : va_D AA (wN B cI cZ (mkN (1) (nWc μ) (nTc μ) (nLc μ) (nWr μ) (nOf μ) (nUn μ) (nOp μ) (nSt μ) (nKs μ) (nVs μ) (nTs μ))) := hD
                    refine lv_aload_n hx hb dX1_cell_77 rfl (lv_at hl 2 rfl) ?_
                    refine va_get (D := (dC, dI)) (ci := 1) (v := .int (1)) (C := RX1) (T := TX1) (N := 12) hx hb hB inX1 hown hK hP 0 rfl rfl 0 (by decide) (hB _ mX1_f_thrown) (fun _ h9 => h9) rfl dX1_cell_78 ?_
                    refine lv_if_eq (tgt := 86) hx hb dX1_cell_81 rfl (fun h9 => ?_) (fun h9 => ?_)
                    · skip
                      exact absurd h9 (by decide)
                    · skip
                      refine lv_iconst (v := 0) hx hb dX1_cell_84 (by decide) ?_
                      exact W.iret (v := 0) hx hb hr (fun t ht hW => ⟨⟨0, mkN (1) (nWc μ) (nTc μ) (nLc μ) (nWr μ) (nOf μ) (nUn μ) (nOp μ) (nSt μ) (nKs μ) (nVs μ) (nTs μ), rfl, ⟨by rw [hr_cell, if_pos (by rw [hk]; decide)], by rw [hk_cell, hk]; rfl⟩, by rw [ht]; exact hP, va_K.moved hW.alike hK, hD⟩, hS.F ht⟩) hS.2.2 dX1_cell_85
    · skip
      exact absurd m1 (by decide)
  · skip
    by_cases ha1 : a = 1
    · skip
      subst ha1
      refine lv_iload_n hx hb dX1_cell_0 rfl (lv_at hl 1 rfl) ?_
      refine lv_iconst (v := 2) hx hb dX1_cell_1 (by decide) ?_
      refine lv_icmp_ne (tgt := 11) hx hb dX1_cell_2 rfl (fun m1 => ?_) (fun m1 => ?_)
      · skip
        refine lv_sipush (v := 160) hx hb dX1_cell_11 (by decide) ?_
        refine lv_istore hx hb dX1_cell_14 hl (by decide) rfl (fun ls hl => ?_)
        have hl : lv_has ls 7 [(4, .int 160), (0, .ref (B 0)), (1, .int 1), (2, .int b), (3, .int d)] := hl
        refine lv_iload_n hx hb dX1_cell_16 rfl (lv_at hl 2 rfl) ?_
        refine lv_if_ne (tgt := 25) hx hb dX1_cell_17 rfl (fun m2 => ?_) (fun m2 => ?_)
        · skip
          refine lv_iload_n hx hb dX1_cell_25 rfl (lv_at hl 2 rfl) ?_
          refine lv_iconst (v := 1) hx hb dX1_cell_26 (by decide) ?_
          refine lv_icmp_ne (tgt := 35) hx hb dX1_cell_27 rfl (fun m3 => ?_) (fun m3 => ?_)
          · skip
            exact absurd rfl m3
          · skip
            refine lv_bipush (v := 8) hx hb dX1_cell_30 (by decide) ?_
            refine lv_goto (tgt := 37) hx hb dX1_cell_32 rfl ?_
            refine lv_istore hx hb dX1_cell_37 hl (by decide) rfl (fun ls hl => ?_)
            have hl : lv_has ls 7 [(5, .int 8), (4, .int 160), (0, .ref (B 0)), (1, .int 1), (2, .int b), (3, .int d)] := hl
            refine lv_aload_n hx hb dX1_cell_39 rfl (lv_at hl 2 rfl) ?_
            refine lv_iload_n hx hb dX1_cell_40 rfl (lv_at hl 3 rfl) ?_
            refine lv_if_lt (tgt := 69) hx hb dX1_cell_41 rfl (fun m4 => ?_) (fun m4 => ?_)
            · skip
              exact absurd m4 (by decide)
            · skip
              refine lv_iload_n hx hb dX1_cell_44 rfl (lv_at hl 3 rfl) ?_
              refine lv_iconst (v := 2) hx hb dX1_cell_45 (by decide) ?_
              refine lv_icmp_gt (tgt := 69) hx hb dX1_cell_46 rfl (fun m5 => ?_) (fun m5 => ?_)
              · skip
                exact absurd m5 (by decide)
              · skip
                refine lv_iload_n hx hb dX1_cell_49 rfl (lv_at hl 4 rfl) ?_
                refine lv_if_lt (tgt := 69) hx hb dX1_cell_50 rfl (fun h1 => ?_) (fun h1 => ?_)
                · skip
                  refine lv_iconst (v := 1) hx hb dX1_cell_69 (by decide) ?_
                  refine lv_goto (tgt := 74) hx hb dX1_cell_70 rfl ?_
                  have hk : k_cell 1 b d = 1 := by simp [k_cell, f_below, h1]
                  refine va_put (D := (dC, dI)) (ci := 1) (v := .int 1) (ty := .int) (C := RX1) (T := TX1) (N := 12) hx hb hB inX1 tyX1 tyX1_ok nmX1 hown hK hP hD hS 0 rfl rfl 0 (by decide) (hB _ mX1_f_thrown) (fun _ h9 => h9) rfl (by decide +kernel) rfl rfl (Nat.le_of_ble_eq_true rfl) dX1_cell_74 (fun H locs hP hD hS => ?_)
                  have hP : va_P (dC, dI) vwCl (wN B cI cZ (mkN (1) (nWc μ) (nTc μ) (nLc μ) (nWr μ) (nOf μ) (nUn μ) (nOp μ) (nSt μ) (nKs μ) (nVs μ) (nTs μ))) H := hP
                  have hD : va_D AA (wN B cI cZ (mkN (1) (nWc μ) (nTc μ) (nLc μ) (nWr μ) (nOf μ) (nUn μ) (nOp μ) (nSt μ) (nKs μ) (nVs μ) (nTs μ))) := hD
                  refine lv_aload_n hx hb dX1_cell_77 rfl (lv_at hl 2 rfl) ?_
                  refine va_get (D := (dC, dI)) (ci := 1) (v := .int (1)) (C := RX1) (T := TX1) (N := 12) hx hb hB inX1 hown hK hP 0 rfl rfl 0 (by decide) (hB _ mX1_f_thrown) (fun _ h9 => h9) rfl dX1_cell_78 ?_
                  refine lv_if_eq (tgt := 86) hx hb dX1_cell_81 rfl (fun h9 => ?_) (fun h9 => ?_)
                  · skip
                    exact absurd h9 (by decide)
                  · skip
                    refine lv_iconst (v := 0) hx hb dX1_cell_84 (by decide) ?_
                    exact W.iret (v := 0) hx hb hr (fun t ht hW => ⟨⟨0, mkN (1) (nWc μ) (nTc μ) (nLc μ) (nWr μ) (nOf μ) (nUn μ) (nOp μ) (nSt μ) (nKs μ) (nVs μ) (nTs μ), rfl, ⟨by rw [hr_cell, if_pos (by rw [hk]; decide)], by rw [hk_cell, hk]; rfl⟩, by rw [ht]; exact hP, va_K.moved hW.alike hK, hD⟩, hS.F ht⟩) hS.2.2 dX1_cell_85
                · skip
                  refine lv_iload_n hx hb dX1_cell_53 rfl (lv_at hl 4 rfl) ?_
                  refine lv_iload hx hb dX1_cell_54 (lv_at hl 1 rfl) ?_
                  refine lv_icmp_ge (tgt := 69) hx hb dX1_cell_56 rfl (fun h2 => ?_) (fun h2 => ?_)
                  · skip
                    refine lv_iconst (v := 1) hx hb dX1_cell_69 (by decide) ?_
                    refine lv_goto (tgt := 74) hx hb dX1_cell_70 rfl ?_
                    have hk : k_cell 1 b d = 1 := by simp [k_cell, f_below, h2]
                    refine va_put (D := (dC, dI)) (ci := 1) (v := .int 1) (ty := .int) (C := RX1) (T := TX1) (N := 12) hx hb hB inX1 tyX1 tyX1_ok nmX1 hown hK hP hD hS 0 rfl rfl 0 (by decide) (hB _ mX1_f_thrown) (fun _ h9 => h9) rfl (by decide +kernel) rfl rfl (Nat.le_of_ble_eq_true rfl) dX1_cell_74 (fun H locs hP hD hS => ?_)
                    have hP : va_P (dC, dI) vwCl (wN B cI cZ (mkN (1) (nWc μ) (nTc μ) (nLc μ) (nWr μ) (nOf μ) (nUn μ) (nOp μ) (nSt μ) (nKs μ) (nVs μ) (nTs μ))) H := hP
                    have hD : va_D AA (wN B cI cZ (mkN (1) (nWc μ) (nTc μ) (nLc μ) (nWr μ) (nOf μ) (nUn μ) (nOp μ) (nSt μ) (nKs μ) (nVs μ) (nTs μ))) := hD
                    refine lv_aload_n hx hb dX1_cell_77 rfl (lv_at hl 2 rfl) ?_
                    refine va_get (D := (dC, dI)) (ci := 1) (v := .int (1)) (C := RX1) (T := TX1) (N := 12) hx hb hB inX1 hown hK hP 0 rfl rfl 0 (by decide) (hB _ mX1_f_thrown) (fun _ h9 => h9) rfl dX1_cell_78 ?_
                    refine lv_if_eq (tgt := 86) hx hb dX1_cell_81 rfl (fun h9 => ?_) (fun h9 => ?_)
                    · skip
                      exact absurd h9 (by decide)
                    · skip
                      refine lv_iconst (v := 0) hx hb dX1_cell_84 (by decide) ?_
                      exact W.iret (v := 0) hx hb hr (fun t ht hW => ⟨⟨0, mkN (1) (nWc μ) (nTc μ) (nLc μ) (nWr μ) (nOf μ) (nUn μ) (nOp μ) (nSt μ) (nKs μ) (nVs μ) (nTs μ), rfl, ⟨by rw [hr_cell, if_pos (by rw [hk]; decide)], by rw [hk_cell, hk]; rfl⟩, by rw [ht]; exact hP, va_K.moved hW.alike hK, hD⟩, hS.F ht⟩) hS.2.2 dX1_cell_85
                  · skip
                    refine lv_iload_n hx hb dX1_cell_59 rfl (lv_at hl 5 rfl) ?_
                    refine lv_if_lt (tgt := 69) hx hb dX1_cell_60 rfl (fun h3 => ?_) (fun h3 => ?_)
                    · skip
                      refine lv_iconst (v := 1) hx hb dX1_cell_69 (by decide) ?_
                      refine lv_goto (tgt := 74) hx hb dX1_cell_70 rfl ?_
                      have hk : k_cell 1 b d = 1 := by simp [k_cell, f_below, h3]
                      refine va_put (D := (dC, dI)) (ci := 1) (v := .int 1) (ty := .int) (C := RX1) (T := TX1) (N := 12) hx hb hB inX1 tyX1 tyX1_ok nmX1 hown hK hP hD hS 0 rfl rfl 0 (by decide) (hB _ mX1_f_thrown) (fun _ h9 => h9) rfl (by decide +kernel) rfl rfl (Nat.le_of_ble_eq_true rfl) dX1_cell_74 (fun H locs hP hD hS => ?_)
                      have hP : va_P (dC, dI) vwCl (wN B cI cZ (mkN (1) (nWc μ) (nTc μ) (nLc μ) (nWr μ) (nOf μ) (nUn μ) (nOp μ) (nSt μ) (nKs μ) (nVs μ) (nTs μ))) H := hP
                      have hD : va_D AA (wN B cI cZ (mkN (1) (nWc μ) (nTc μ) (nLc μ) (nWr μ) (nOf μ) (nUn μ) (nOp μ) (nSt μ) (nKs μ) (nVs μ) (nTs μ))) := hD
                      refine lv_aload_n hx hb dX1_cell_77 rfl (lv_at hl 2 rfl) ?_
                      refine va_get (D := (dC, dI)) (ci := 1) (v := .int (1)) (C := RX1) (T := TX1) (N := 12) hx hb hB inX1 hown hK hP 0 rfl rfl 0 (by decide) (hB _ mX1_f_thrown) (fun _ h9 => h9) rfl dX1_cell_78 ?_
                      refine lv_if_eq (tgt := 86) hx hb dX1_cell_81 rfl (fun h9 => ?_) (fun h9 => ?_)
                      · skip
                        exact absurd h9 (by decide)
                      · skip
                        refine lv_iconst (v := 0) hx hb dX1_cell_84 (by decide) ?_
                        exact W.iret (v := 0) hx hb hr (fun t ht hW => ⟨⟨0, mkN (1) (nWc μ) (nTc μ) (nLc μ) (nWr μ) (nOf μ) (nUn μ) (nOp μ) (nSt μ) (nKs μ) (nVs μ) (nTs μ), rfl, ⟨by rw [hr_cell, if_pos (by rw [hk]; decide)], by rw [hk_cell, hk]; rfl⟩, by rw [ht]; exact hP, va_K.moved hW.alike hK, hD⟩, hS.F ht⟩) hS.2.2 dX1_cell_85
                    · skip
                      refine lv_iload_n hx hb dX1_cell_63 rfl (lv_at hl 5 rfl) ?_
                      refine lv_iload hx hb dX1_cell_64 (lv_at hl 0 rfl) ?_
                      refine lv_icmp_lt (tgt := 73) hx hb dX1_cell_66 rfl (fun h4 => ?_) (fun h4 => ?_)
                      · skip
                        have h4n : ¬ (8 : Int32) ≤ d := Int32.not_le.mpr h4
                        have hk : k_cell 1 b d = 0 := by simp [k_cell, f_below, h1, h2, h3, h4n]
                        obtain ⟨bn, hbn, eb, -⟩ := pk_mu (L := 160) h1 h2 (by decide)
                        obtain ⟨dn, hdn, ed, -⟩ := pk_mu (L := 8) h3 h4n (by decide)
                        have ebc : b.toNatClampNeg = bn := by rw [eb]; exact nI_clamp (by omega)
                        have edc : d.toNatClampNeg = dn := by rw [ed]; exact nI_clamp (by omega)
                        refine lv_iconst (v := 0) hx hb dX1_cell_73 (by decide) ?_
                        refine va_put (D := (dC, dI)) (ci := 1) (v := .int 0) (ty := .int) (C := RX1) (T := TX1) (N := 12) hx hb hB inX1 tyX1 tyX1_ok nmX1 hown hK hP hD hS 0 rfl rfl 0 (by decide) (hB _ mX1_f_thrown) (fun _ h9 => h9) rfl (by decide +kernel) rfl rfl (Nat.le_of_ble_eq_true rfl) dX1_cell_74 (fun H locs hP hD hS => ?_)
                        have hP : va_P (dC, dI) vwCl (wN B cI cZ (mkN (0) (nWc μ) (nTc μ) (nLc μ) (nWr μ) (nOf μ) (nUn μ) (nOp μ) (nSt μ) (nKs μ) (nVs μ) (nTs μ))) H := hP
                        have hD : va_D AA (wN B cI cZ (mkN (0) (nWc μ) (nTc μ) (nLc μ) (nWr μ) (nOf μ) (nUn μ) (nOp μ) (nSt μ) (nKs μ) (nVs μ) (nTs μ))) := hD
                        refine lv_aload_n hx hb dX1_cell_77 rfl (lv_at hl 2 rfl) ?_
                        refine va_get (D := (dC, dI)) (ci := 1) (v := .int (0)) (C := RX1) (T := TX1) (N := 12) hx hb hB inX1 hown hK hP 0 rfl rfl 0 (by decide) (hB _ mX1_f_thrown) (fun _ h9 => h9) rfl dX1_cell_78 ?_
                        refine lv_if_eq (tgt := 86) hx hb dX1_cell_81 rfl (fun h9 => ?_) (fun h9 => ?_)
                        · skip
                          refine lv_iload hx hb dX1_cell_86 (lv_at hl 0 rfl) ?_
                          refine lv_iload_n hx hb dX1_cell_88 rfl (lv_at hl 4 rfl) ?_
                          refine lv_imul hx hb dX1_cell_89 ?_
                          refine lv_iload_n hx hb dX1_cell_90 rfl (lv_at hl 5 rfl) ?_
                          refine lv_iadd hx hb dX1_cell_91 ?_
                          have hidx : (8 : Int32) * b + d = nI (8 * bn + dn) := by rw [eb, ed, ← nI_add, ← pk_mul]; rfl
                          rw [hidx]
                          refine lv_istore hx hb dX1_cell_92 hl (by decide) rfl (fun ls hl => ?_)
                          have hl : lv_has ls 7 [(6, .int (nI (8 * bn + dn))), (5, .int 8), (4, .int 160), (0, .ref (B 0)), (1, .int 1), (2, .int b), (3, .int d)] := hl
                          refine lv_iload_n hx hb dX1_cell_94 rfl (lv_at hl 4 rfl) ?_
                          refine lv_if_ne (tgt := 111) hx hb dX1_cell_95 rfl (fun n1 => ?_) (fun n1 => ?_)
                          · skip
                            refine lv_iload_n hx hb dX1_cell_111 rfl (lv_at hl 4 rfl) ?_
                            refine lv_iconst (v := 1) hx hb dX1_cell_112 (by decide) ?_
                            refine lv_icmp_ne (tgt := 129) hx hb dX1_cell_113 rfl (fun n2 => ?_) (fun n2 => ?_)
                            · skip
                              exact absurd rfl n2
                            · skip
                              refine lv_aload_n hx hb dX1_cell_116 rfl (lv_at hl 3 rfl) ?_
                              refine va_get (D := (dC, dI)) (ci := 1) (v := .ref (B 2)) (C := RX1) (T := TX1) (N := 12) hx hb hB inX1 hown hK hP 0 rfl rfl 2 (by decide) (hB _ mX1_f_tagCells) (fun _ h9 => h9) rfl dX1_cell_117 ?_
                              refine lv_iload hx hb dX1_cell_120 (lv_at hl 0 rfl) ?_
                              refine va_zald (D := (dC, dI)) (i := (nI (8 * bn + dn))) hx hb hK hP 2 1 rfl rfl (vp_in_nI (by omega) (by decide)) dX1_cell_122 ?_
                              rw [show ((nI (8 * bn + dn))).toNatClampNeg = 8 * bn + dn from nI_clamp (by omega)]
                              refine lv_if_eq (tgt := 143) hx hb dX1_cell_123 rfl (fun n3 => ?_) (fun n3 => ?_)
                              · skip
                                refine lv_iconst (v := 0) hx hb dX1_cell_143 (by decide) ?_
                                exact W.iret (v := 0) hx hb hr (fun t ht hW => ⟨⟨0, mkN (0) (nWc μ) (nTc μ) (nLc μ) (nWr μ) (nOf μ) (nUn μ) (nOp μ) (nSt μ) (nKs μ) (nVs μ) (nTs μ), rfl, ⟨by rw [hr_cell, if_neg (fun h => h hk), ebc, edc]; exact (if_pos n3).symm, by rw [hk_cell, hk]; rfl⟩, by rw [ht]; exact hP, va_K.moved hW.alike hK, hD⟩, hS.F ht⟩) hS.2.2 dX1_cell_144
                              · skip
                                refine lv_goto (tgt := 139) hx hb dX1_cell_126 rfl ?_
                                refine lv_iconst (v := 1) hx hb dX1_cell_139 (by decide) ?_
                                refine lv_goto (tgt := 144) hx hb dX1_cell_140 rfl ?_
                                exact W.iret (v := 1) hx hb hr (fun t ht hW => ⟨⟨1, mkN (0) (nWc μ) (nTc μ) (nLc μ) (nWr μ) (nOf μ) (nUn μ) (nOp μ) (nSt μ) (nKs μ) (nVs μ) (nTs μ), rfl, ⟨by rw [hr_cell, if_neg (fun h => h hk), ebc, edc]; exact (if_neg n3).symm, by rw [hk_cell, hk]; rfl⟩, by rw [ht]; exact hP, va_K.moved hW.alike hK, hD⟩, hS.F ht⟩) hS.2.2 dX1_cell_144
                          · skip
                            exact absurd n1 (by decide)
                        · skip
                          exact absurd rfl h9
                      · skip
                        refine lv_iconst (v := 1) hx hb dX1_cell_69 (by decide) ?_
                        refine lv_goto (tgt := 74) hx hb dX1_cell_70 rfl ?_
                        have hk : k_cell 1 b d = 1 := by simp [k_cell, f_below, Int32.not_lt.mp h4]
                        refine va_put (D := (dC, dI)) (ci := 1) (v := .int 1) (ty := .int) (C := RX1) (T := TX1) (N := 12) hx hb hB inX1 tyX1 tyX1_ok nmX1 hown hK hP hD hS 0 rfl rfl 0 (by decide) (hB _ mX1_f_thrown) (fun _ h9 => h9) rfl (by decide +kernel) rfl rfl (Nat.le_of_ble_eq_true rfl) dX1_cell_74 (fun H locs hP hD hS => ?_)
                        have hP : va_P (dC, dI) vwCl (wN B cI cZ (mkN (1) (nWc μ) (nTc μ) (nLc μ) (nWr μ) (nOf μ) (nUn μ) (nOp μ) (nSt μ) (nKs μ) (nVs μ) (nTs μ))) H := hP
                        have hD : va_D AA (wN B cI cZ (mkN (1) (nWc μ) (nTc μ) (nLc μ) (nWr μ) (nOf μ) (nUn μ) (nOp μ) (nSt μ) (nKs μ) (nVs μ) (nTs μ))) := hD
                        refine lv_aload_n hx hb dX1_cell_77 rfl (lv_at hl 2 rfl) ?_
                        refine va_get (D := (dC, dI)) (ci := 1) (v := .int (1)) (C := RX1) (T := TX1) (N := 12) hx hb hB inX1 hown hK hP 0 rfl rfl 0 (by decide) (hB _ mX1_f_thrown) (fun _ h9 => h9) rfl dX1_cell_78 ?_
                        refine lv_if_eq (tgt := 86) hx hb dX1_cell_81 rfl (fun h9 => ?_) (fun h9 => ?_)
                        · skip
                          exact absurd h9 (by decide)
                        · skip
                          refine lv_iconst (v := 0) hx hb dX1_cell_84 (by decide) ?_
                          exact W.iret (v := 0) hx hb hr (fun t ht hW => ⟨⟨0, mkN (1) (nWc μ) (nTc μ) (nLc μ) (nWr μ) (nOf μ) (nUn μ) (nOp μ) (nSt μ) (nKs μ) (nVs μ) (nTs μ), rfl, ⟨by rw [hr_cell, if_pos (by rw [hk]; decide)], by rw [hk_cell, hk]; rfl⟩, by rw [ht]; exact hP, va_K.moved hW.alike hK, hD⟩, hS.F ht⟩) hS.2.2 dX1_cell_85
        · skip
          exact absurd m2 (by decide)
      · skip
        exact absurd m1 (by decide)
    · skip
      by_cases ha2 : a = 2
      · skip
        subst ha2
        refine lv_iload_n hx hb dX1_cell_0 rfl (lv_at hl 1 rfl) ?_
        refine lv_iconst (v := 2) hx hb dX1_cell_1 (by decide) ?_
        refine lv_icmp_ne (tgt := 11) hx hb dX1_cell_2 rfl (fun m1 => ?_) (fun m1 => ?_)
        · skip
          exact absurd rfl m1
        · skip
          refine lv_sipush (v := 360) hx hb dX1_cell_5 (by decide) ?_
          refine lv_goto (tgt := 14) hx hb dX1_cell_8 rfl ?_
          refine lv_istore hx hb dX1_cell_14 hl (by decide) rfl (fun ls hl => ?_)
          have hl : lv_has ls 7 [(4, .int 360), (0, .ref (B 0)), (1, .int 2), (2, .int b), (3, .int d)] := hl
          refine lv_iload_n hx hb dX1_cell_16 rfl (lv_at hl 2 rfl) ?_
          refine lv_if_ne (tgt := 25) hx hb dX1_cell_17 rfl (fun m2 => ?_) (fun m2 => ?_)
          · skip
            refine lv_iload_n hx hb dX1_cell_25 rfl (lv_at hl 2 rfl) ?_
            refine lv_iconst (v := 1) hx hb dX1_cell_26 (by decide) ?_
            refine lv_icmp_ne (tgt := 35) hx hb dX1_cell_27 rfl (fun m3 => ?_) (fun m3 => ?_)
            · skip
              refine lv_bipush (v := 32) hx hb dX1_cell_35 (by decide) ?_
              refine lv_istore hx hb dX1_cell_37 hl (by decide) rfl (fun ls hl => ?_)
              have hl : lv_has ls 7 [(5, .int 32), (4, .int 360), (0, .ref (B 0)), (1, .int 2), (2, .int b), (3, .int d)] := hl
              refine lv_aload_n hx hb dX1_cell_39 rfl (lv_at hl 2 rfl) ?_
              refine lv_iload_n hx hb dX1_cell_40 rfl (lv_at hl 3 rfl) ?_
              refine lv_if_lt (tgt := 69) hx hb dX1_cell_41 rfl (fun m4 => ?_) (fun m4 => ?_)
              · skip
                exact absurd m4 (by decide)
              · skip
                refine lv_iload_n hx hb dX1_cell_44 rfl (lv_at hl 3 rfl) ?_
                refine lv_iconst (v := 2) hx hb dX1_cell_45 (by decide) ?_
                refine lv_icmp_gt (tgt := 69) hx hb dX1_cell_46 rfl (fun m5 => ?_) (fun m5 => ?_)
                · skip
                  exact absurd m5 (by decide)
                · skip
                  refine lv_iload_n hx hb dX1_cell_49 rfl (lv_at hl 4 rfl) ?_
                  refine lv_if_lt (tgt := 69) hx hb dX1_cell_50 rfl (fun h1 => ?_) (fun h1 => ?_)
                  · skip
                    refine lv_iconst (v := 1) hx hb dX1_cell_69 (by decide) ?_
                    refine lv_goto (tgt := 74) hx hb dX1_cell_70 rfl ?_
                    have hk : k_cell 2 b d = 1 := by simp [k_cell, f_below, h1]
                    refine va_put (D := (dC, dI)) (ci := 1) (v := .int 1) (ty := .int) (C := RX1) (T := TX1) (N := 12) hx hb hB inX1 tyX1 tyX1_ok nmX1 hown hK hP hD hS 0 rfl rfl 0 (by decide) (hB _ mX1_f_thrown) (fun _ h9 => h9) rfl (by decide +kernel) rfl rfl (Nat.le_of_ble_eq_true rfl) dX1_cell_74 (fun H locs hP hD hS => ?_)
                    have hP : va_P (dC, dI) vwCl (wN B cI cZ (mkN (1) (nWc μ) (nTc μ) (nLc μ) (nWr μ) (nOf μ) (nUn μ) (nOp μ) (nSt μ) (nKs μ) (nVs μ) (nTs μ))) H := hP
                    have hD : va_D AA (wN B cI cZ (mkN (1) (nWc μ) (nTc μ) (nLc μ) (nWr μ) (nOf μ) (nUn μ) (nOp μ) (nSt μ) (nKs μ) (nVs μ) (nTs μ))) := hD
                    refine lv_aload_n hx hb dX1_cell_77 rfl (lv_at hl 2 rfl) ?_
                    refine va_get (D := (dC, dI)) (ci := 1) (v := .int (1)) (C := RX1) (T := TX1) (N := 12) hx hb hB inX1 hown hK hP 0 rfl rfl 0 (by decide) (hB _ mX1_f_thrown) (fun _ h9 => h9) rfl dX1_cell_78 ?_
                    refine lv_if_eq (tgt := 86) hx hb dX1_cell_81 rfl (fun h9 => ?_) (fun h9 => ?_)
                    · skip
                      exact absurd h9 (by decide)
                    · skip
                      refine lv_iconst (v := 0) hx hb dX1_cell_84 (by decide) ?_
                      exact W.iret (v := 0) hx hb hr (fun t ht hW => ⟨⟨0, mkN (1) (nWc μ) (nTc μ) (nLc μ) (nWr μ) (nOf μ) (nUn μ) (nOp μ) (nSt μ) (nKs μ) (nVs μ) (nTs μ), rfl, ⟨by rw [hr_cell, if_pos (by rw [hk]; decide)], by rw [hk_cell, hk]; rfl⟩, by rw [ht]; exact hP, va_K.moved hW.alike hK, hD⟩, hS.F ht⟩) hS.2.2 dX1_cell_85
                  · skip
                    refine lv_iload_n hx hb dX1_cell_53 rfl (lv_at hl 4 rfl) ?_
                    refine lv_iload hx hb dX1_cell_54 (lv_at hl 1 rfl) ?_
                    refine lv_icmp_ge (tgt := 69) hx hb dX1_cell_56 rfl (fun h2 => ?_) (fun h2 => ?_)
                    · skip
                      refine lv_iconst (v := 1) hx hb dX1_cell_69 (by decide) ?_
                      refine lv_goto (tgt := 74) hx hb dX1_cell_70 rfl ?_
                      have hk : k_cell 2 b d = 1 := by simp [k_cell, f_below, h2]
                      refine va_put (D := (dC, dI)) (ci := 1) (v := .int 1) (ty := .int) (C := RX1) (T := TX1) (N := 12) hx hb hB inX1 tyX1 tyX1_ok nmX1 hown hK hP hD hS 0 rfl rfl 0 (by decide) (hB _ mX1_f_thrown) (fun _ h9 => h9) rfl (by decide +kernel) rfl rfl (Nat.le_of_ble_eq_true rfl) dX1_cell_74 (fun H locs hP hD hS => ?_)
                      have hP : va_P (dC, dI) vwCl (wN B cI cZ (mkN (1) (nWc μ) (nTc μ) (nLc μ) (nWr μ) (nOf μ) (nUn μ) (nOp μ) (nSt μ) (nKs μ) (nVs μ) (nTs μ))) H := hP
                      have hD : va_D AA (wN B cI cZ (mkN (1) (nWc μ) (nTc μ) (nLc μ) (nWr μ) (nOf μ) (nUn μ) (nOp μ) (nSt μ) (nKs μ) (nVs μ) (nTs μ))) := hD
                      refine lv_aload_n hx hb dX1_cell_77 rfl (lv_at hl 2 rfl) ?_
                      refine va_get (D := (dC, dI)) (ci := 1) (v := .int (1)) (C := RX1) (T := TX1) (N := 12) hx hb hB inX1 hown hK hP 0 rfl rfl 0 (by decide) (hB _ mX1_f_thrown) (fun _ h9 => h9) rfl dX1_cell_78 ?_
                      refine lv_if_eq (tgt := 86) hx hb dX1_cell_81 rfl (fun h9 => ?_) (fun h9 => ?_)
                      · skip
                        exact absurd h9 (by decide)
                      · skip
                        refine lv_iconst (v := 0) hx hb dX1_cell_84 (by decide) ?_
                        exact W.iret (v := 0) hx hb hr (fun t ht hW => ⟨⟨0, mkN (1) (nWc μ) (nTc μ) (nLc μ) (nWr μ) (nOf μ) (nUn μ) (nOp μ) (nSt μ) (nKs μ) (nVs μ) (nTs μ), rfl, ⟨by rw [hr_cell, if_pos (by rw [hk]; decide)], by rw [hk_cell, hk]; rfl⟩, by rw [ht]; exact hP, va_K.moved hW.alike hK, hD⟩, hS.F ht⟩) hS.2.2 dX1_cell_85
                    · skip
                      refine lv_iload_n hx hb dX1_cell_59 rfl (lv_at hl 5 rfl) ?_
                      refine lv_if_lt (tgt := 69) hx hb dX1_cell_60 rfl (fun h3 => ?_) (fun h3 => ?_)
                      · skip
                        refine lv_iconst (v := 1) hx hb dX1_cell_69 (by decide) ?_
                        refine lv_goto (tgt := 74) hx hb dX1_cell_70 rfl ?_
                        have hk : k_cell 2 b d = 1 := by simp [k_cell, f_below, h3]
                        refine va_put (D := (dC, dI)) (ci := 1) (v := .int 1) (ty := .int) (C := RX1) (T := TX1) (N := 12) hx hb hB inX1 tyX1 tyX1_ok nmX1 hown hK hP hD hS 0 rfl rfl 0 (by decide) (hB _ mX1_f_thrown) (fun _ h9 => h9) rfl (by decide +kernel) rfl rfl (Nat.le_of_ble_eq_true rfl) dX1_cell_74 (fun H locs hP hD hS => ?_)
                        have hP : va_P (dC, dI) vwCl (wN B cI cZ (mkN (1) (nWc μ) (nTc μ) (nLc μ) (nWr μ) (nOf μ) (nUn μ) (nOp μ) (nSt μ) (nKs μ) (nVs μ) (nTs μ))) H := hP
                        have hD : va_D AA (wN B cI cZ (mkN (1) (nWc μ) (nTc μ) (nLc μ) (nWr μ) (nOf μ) (nUn μ) (nOp μ) (nSt μ) (nKs μ) (nVs μ) (nTs μ))) := hD
                        refine lv_aload_n hx hb dX1_cell_77 rfl (lv_at hl 2 rfl) ?_
                        refine va_get (D := (dC, dI)) (ci := 1) (v := .int (1)) (C := RX1) (T := TX1) (N := 12) hx hb hB inX1 hown hK hP 0 rfl rfl 0 (by decide) (hB _ mX1_f_thrown) (fun _ h9 => h9) rfl dX1_cell_78 ?_
                        refine lv_if_eq (tgt := 86) hx hb dX1_cell_81 rfl (fun h9 => ?_) (fun h9 => ?_)
                        · skip
                          exact absurd h9 (by decide)
                        · skip
                          refine lv_iconst (v := 0) hx hb dX1_cell_84 (by decide) ?_
                          exact W.iret (v := 0) hx hb hr (fun t ht hW => ⟨⟨0, mkN (1) (nWc μ) (nTc μ) (nLc μ) (nWr μ) (nOf μ) (nUn μ) (nOp μ) (nSt μ) (nKs μ) (nVs μ) (nTs μ), rfl, ⟨by rw [hr_cell, if_pos (by rw [hk]; decide)], by rw [hk_cell, hk]; rfl⟩, by rw [ht]; exact hP, va_K.moved hW.alike hK, hD⟩, hS.F ht⟩) hS.2.2 dX1_cell_85
                      · skip
                        refine lv_iload_n hx hb dX1_cell_63 rfl (lv_at hl 5 rfl) ?_
                        refine lv_iload hx hb dX1_cell_64 (lv_at hl 0 rfl) ?_
                        refine lv_icmp_lt (tgt := 73) hx hb dX1_cell_66 rfl (fun h4 => ?_) (fun h4 => ?_)
                        · skip
                          have h4n : ¬ (32 : Int32) ≤ d := Int32.not_le.mpr h4
                          have hk : k_cell 2 b d = 0 := by simp [k_cell, f_below, h1, h2, h3, h4n]
                          obtain ⟨bn, hbn, eb, -⟩ := pk_mu (L := 360) h1 h2 (by decide)
                          obtain ⟨dn, hdn, ed, -⟩ := pk_mu (L := 32) h3 h4n (by decide)
                          have ebc : b.toNatClampNeg = bn := by rw [eb]; exact nI_clamp (by omega)
                          have edc : d.toNatClampNeg = dn := by rw [ed]; exact nI_clamp (by omega)
                          refine lv_iconst (v := 0) hx hb dX1_cell_73 (by decide) ?_
                          refine va_put (D := (dC, dI)) (ci := 1) (v := .int 0) (ty := .int) (C := RX1) (T := TX1) (N := 12) hx hb hB inX1 tyX1 tyX1_ok nmX1 hown hK hP hD hS 0 rfl rfl 0 (by decide) (hB _ mX1_f_thrown) (fun _ h9 => h9) rfl (by decide +kernel) rfl rfl (Nat.le_of_ble_eq_true rfl) dX1_cell_74 (fun H locs hP hD hS => ?_)
                          have hP : va_P (dC, dI) vwCl (wN B cI cZ (mkN (0) (nWc μ) (nTc μ) (nLc μ) (nWr μ) (nOf μ) (nUn μ) (nOp μ) (nSt μ) (nKs μ) (nVs μ) (nTs μ))) H := hP
                          have hD : va_D AA (wN B cI cZ (mkN (0) (nWc μ) (nTc μ) (nLc μ) (nWr μ) (nOf μ) (nUn μ) (nOp μ) (nSt μ) (nKs μ) (nVs μ) (nTs μ))) := hD
                          refine lv_aload_n hx hb dX1_cell_77 rfl (lv_at hl 2 rfl) ?_
                          refine va_get (D := (dC, dI)) (ci := 1) (v := .int (0)) (C := RX1) (T := TX1) (N := 12) hx hb hB inX1 hown hK hP 0 rfl rfl 0 (by decide) (hB _ mX1_f_thrown) (fun _ h9 => h9) rfl dX1_cell_78 ?_
                          refine lv_if_eq (tgt := 86) hx hb dX1_cell_81 rfl (fun h9 => ?_) (fun h9 => ?_)
                          · skip
                            refine lv_iload hx hb dX1_cell_86 (lv_at hl 0 rfl) ?_
                            refine lv_iload_n hx hb dX1_cell_88 rfl (lv_at hl 4 rfl) ?_
                            refine lv_imul hx hb dX1_cell_89 ?_
                            refine lv_iload_n hx hb dX1_cell_90 rfl (lv_at hl 5 rfl) ?_
                            refine lv_iadd hx hb dX1_cell_91 ?_
                            have hidx : (32 : Int32) * b + d = nI (32 * bn + dn) := by rw [eb, ed, ← nI_add, ← pk_mul]; rfl
                            rw [hidx]
                            refine lv_istore hx hb dX1_cell_92 hl (by decide) rfl (fun ls hl => ?_)
                            have hl : lv_has ls 7 [(6, .int (nI (32 * bn + dn))), (5, .int 32), (4, .int 360), (0, .ref (B 0)), (1, .int 2), (2, .int b), (3, .int d)] := hl
                            refine lv_iload_n hx hb dX1_cell_94 rfl (lv_at hl 4 rfl) ?_
                            refine lv_if_ne (tgt := 111) hx hb dX1_cell_95 rfl (fun n1 => ?_) (fun n1 => ?_)
                            · skip
                              refine lv_iload_n hx hb dX1_cell_111 rfl (lv_at hl 4 rfl) ?_
                              refine lv_iconst (v := 1) hx hb dX1_cell_112 (by decide) ?_
                              refine lv_icmp_ne (tgt := 129) hx hb dX1_cell_113 rfl (fun n2 => ?_) (fun n2 => ?_)
                              · skip
                                refine lv_aload_n hx hb dX1_cell_129 rfl (lv_at hl 3 rfl) ?_
                                refine va_get (D := (dC, dI)) (ci := 1) (v := .ref (B 3)) (C := RX1) (T := TX1) (N := 12) hx hb hB inX1 hown hK hP 0 rfl rfl 3 (by decide) (hB _ mX1_f_lineCells) (fun _ h9 => h9) rfl dX1_cell_130 ?_
                                refine lv_iload hx hb dX1_cell_133 (lv_at hl 0 rfl) ?_
                                refine va_zald (D := (dC, dI)) (i := (nI (32 * bn + dn))) hx hb hK hP 3 1 rfl rfl (vp_in_nI (by omega) (by decide)) dX1_cell_135 ?_
                                rw [show ((nI (32 * bn + dn))).toNatClampNeg = 32 * bn + dn from nI_clamp (by omega)]
                                refine lv_if_eq (tgt := 143) hx hb dX1_cell_136 rfl (fun n3 => ?_) (fun n3 => ?_)
                                · skip
                                  refine lv_iconst (v := 0) hx hb dX1_cell_143 (by decide) ?_
                                  exact W.iret (v := 0) hx hb hr (fun t ht hW => ⟨⟨0, mkN (0) (nWc μ) (nTc μ) (nLc μ) (nWr μ) (nOf μ) (nUn μ) (nOp μ) (nSt μ) (nKs μ) (nVs μ) (nTs μ), rfl, ⟨by rw [hr_cell, if_neg (fun h => h hk), ebc, edc]; exact (if_pos n3).symm, by rw [hk_cell, hk]; rfl⟩, by rw [ht]; exact hP, va_K.moved hW.alike hK, hD⟩, hS.F ht⟩) hS.2.2 dX1_cell_144
                                · skip
                                  refine lv_iconst (v := 1) hx hb dX1_cell_139 (by decide) ?_
                                  refine lv_goto (tgt := 144) hx hb dX1_cell_140 rfl ?_
                                  exact W.iret (v := 1) hx hb hr (fun t ht hW => ⟨⟨1, mkN (0) (nWc μ) (nTc μ) (nLc μ) (nWr μ) (nOf μ) (nUn μ) (nOp μ) (nSt μ) (nKs μ) (nVs μ) (nTs μ), rfl, ⟨by rw [hr_cell, if_neg (fun h => h hk), ebc, edc]; exact (if_neg n3).symm, by rw [hk_cell, hk]; rfl⟩, by rw [ht]; exact hP, va_K.moved hW.alike hK, hD⟩, hS.F ht⟩) hS.2.2 dX1_cell_144
                              · skip
                                exact absurd n2 (by decide)
                            · skip
                              exact absurd n1 (by decide)
                          · skip
                            exact absurd rfl h9
                        · skip
                          refine lv_iconst (v := 1) hx hb dX1_cell_69 (by decide) ?_
                          refine lv_goto (tgt := 74) hx hb dX1_cell_70 rfl ?_
                          have hk : k_cell 2 b d = 1 := by simp [k_cell, f_below, Int32.not_lt.mp h4]
                          refine va_put (D := (dC, dI)) (ci := 1) (v := .int 1) (ty := .int) (C := RX1) (T := TX1) (N := 12) hx hb hB inX1 tyX1 tyX1_ok nmX1 hown hK hP hD hS 0 rfl rfl 0 (by decide) (hB _ mX1_f_thrown) (fun _ h9 => h9) rfl (by decide +kernel) rfl rfl (Nat.le_of_ble_eq_true rfl) dX1_cell_74 (fun H locs hP hD hS => ?_)
                          have hP : va_P (dC, dI) vwCl (wN B cI cZ (mkN (1) (nWc μ) (nTc μ) (nLc μ) (nWr μ) (nOf μ) (nUn μ) (nOp μ) (nSt μ) (nKs μ) (nVs μ) (nTs μ))) H := hP
                          have hD : va_D AA (wN B cI cZ (mkN (1) (nWc μ) (nTc μ) (nLc μ) (nWr μ) (nOf μ) (nUn μ) (nOp μ) (nSt μ) (nKs μ) (nVs μ) (nTs μ))) := hD
                          refine lv_aload_n hx hb dX1_cell_77 rfl (lv_at hl 2 rfl) ?_
                          refine va_get (D := (dC, dI)) (ci := 1) (v := .int (1)) (C := RX1) (T := TX1) (N := 12) hx hb hB inX1 hown hK hP 0 rfl rfl 0 (by decide) (hB _ mX1_f_thrown) (fun _ h9 => h9) rfl dX1_cell_78 ?_
                          refine lv_if_eq (tgt := 86) hx hb dX1_cell_81 rfl (fun h9 => ?_) (fun h9 => ?_)
                          · skip
                            exact absurd h9 (by decide)
                          · skip
                            refine lv_iconst (v := 0) hx hb dX1_cell_84 (by decide) ?_
                            exact W.iret (v := 0) hx hb hr (fun t ht hW => ⟨⟨0, mkN (1) (nWc μ) (nTc μ) (nLc μ) (nWr μ) (nOf μ) (nUn μ) (nOp μ) (nSt μ) (nKs μ) (nVs μ) (nTs μ), rfl, ⟨by rw [hr_cell, if_pos (by rw [hk]; decide)], by rw [hk_cell, hk]; rfl⟩, by rw [ht]; exact hP, va_K.moved hW.alike hK, hD⟩, hS.F ht⟩) hS.2.2 dX1_cell_85
            · skip
              exact absurd m3 (by decide)
          · skip
            exact absurd m2 (by decide)
      · skip
        have hk : k_cell a b d = 1 := by simp [k_cell, ha0, ha1, ha2]
        refine lv_iload_n hx hb dX1_cell_0 rfl (lv_at hl 1 rfl) ?_
        refine lv_iconst (v := 2) hx hb dX1_cell_1 (by decide) ?_
        refine lv_icmp_ne (tgt := 11) hx hb dX1_cell_2 rfl (fun m1 => ?_) (fun m1 => ?_)
        · skip
          refine lv_sipush (v := 160) hx hb dX1_cell_11 (by decide) ?_
          refine lv_istore hx hb dX1_cell_14 hl (by decide) rfl (fun ls hl => ?_)
          have hl : lv_has ls 7 [(4, .int 160), (0, .ref (B 0)), (1, .int a), (2, .int b), (3, .int d)] := hl
          refine lv_iload_n hx hb dX1_cell_16 rfl (lv_at hl 2 rfl) ?_
          refine lv_if_ne (tgt := 25) hx hb dX1_cell_17 rfl (fun m2 => ?_) (fun m2 => ?_)
          · skip
            refine lv_iload_n hx hb dX1_cell_25 rfl (lv_at hl 2 rfl) ?_
            refine lv_iconst (v := 1) hx hb dX1_cell_26 (by decide) ?_
            refine lv_icmp_ne (tgt := 35) hx hb dX1_cell_27 rfl (fun m3 => ?_) (fun m3 => ?_)
            · skip
              refine lv_bipush (v := 32) hx hb dX1_cell_35 (by decide) ?_
              refine lv_istore hx hb dX1_cell_37 hl (by decide) rfl (fun ls hl => ?_)
              have hl : lv_has ls 7 [(5, .int 32), (4, .int 160), (0, .ref (B 0)), (1, .int a), (2, .int b), (3, .int d)] := hl
              refine lv_aload_n hx hb dX1_cell_39 rfl (lv_at hl 2 rfl) ?_
              refine lv_iload_n hx hb dX1_cell_40 rfl (lv_at hl 3 rfl) ?_
              refine lv_if_lt (tgt := 69) hx hb dX1_cell_41 rfl (fun m4 => ?_) (fun m4 => ?_)
              · skip
                refine lv_iconst (v := 1) hx hb dX1_cell_69 (by decide) ?_
                refine lv_goto (tgt := 74) hx hb dX1_cell_70 rfl ?_
                refine va_put (D := (dC, dI)) (ci := 1) (v := .int 1) (ty := .int) (C := RX1) (T := TX1) (N := 12) hx hb hB inX1 tyX1 tyX1_ok nmX1 hown hK hP hD hS 0 rfl rfl 0 (by decide) (hB _ mX1_f_thrown) (fun _ h9 => h9) rfl (by decide +kernel) rfl rfl (Nat.le_of_ble_eq_true rfl) dX1_cell_74 (fun H locs hP hD hS => ?_)
                have hP : va_P (dC, dI) vwCl (wN B cI cZ (mkN (1) (nWc μ) (nTc μ) (nLc μ) (nWr μ) (nOf μ) (nUn μ) (nOp μ) (nSt μ) (nKs μ) (nVs μ) (nTs μ))) H := hP
                have hD : va_D AA (wN B cI cZ (mkN (1) (nWc μ) (nTc μ) (nLc μ) (nWr μ) (nOf μ) (nUn μ) (nOp μ) (nSt μ) (nKs μ) (nVs μ) (nTs μ))) := hD
                refine lv_aload_n hx hb dX1_cell_77 rfl (lv_at hl 2 rfl) ?_
                refine va_get (D := (dC, dI)) (ci := 1) (v := .int (1)) (C := RX1) (T := TX1) (N := 12) hx hb hB inX1 hown hK hP 0 rfl rfl 0 (by decide) (hB _ mX1_f_thrown) (fun _ h9 => h9) rfl dX1_cell_78 ?_
                refine lv_if_eq (tgt := 86) hx hb dX1_cell_81 rfl (fun h9 => ?_) (fun h9 => ?_)
                · skip
                  exact absurd h9 (by decide)
                · skip
                  refine lv_iconst (v := 0) hx hb dX1_cell_84 (by decide) ?_
                  exact W.iret (v := 0) hx hb hr (fun t ht hW => ⟨⟨0, mkN (1) (nWc μ) (nTc μ) (nLc μ) (nWr μ) (nOf μ) (nUn μ) (nOp μ) (nSt μ) (nKs μ) (nVs μ) (nTs μ), rfl, ⟨by rw [hr_cell, if_pos (by rw [hk]; decide)], by rw [hk_cell, hk]; rfl⟩, by rw [ht]; exact hP, va_K.moved hW.alike hK, hD⟩, hS.F ht⟩) hS.2.2 dX1_cell_85
              · skip
                refine lv_iload_n hx hb dX1_cell_44 rfl (lv_at hl 3 rfl) ?_
                refine lv_iconst (v := 2) hx hb dX1_cell_45 (by decide) ?_
                refine lv_icmp_gt (tgt := 69) hx hb dX1_cell_46 rfl (fun m5 => ?_) (fun m5 => ?_)
                · skip
                  refine lv_iconst (v := 1) hx hb dX1_cell_69 (by decide) ?_
                  refine lv_goto (tgt := 74) hx hb dX1_cell_70 rfl ?_
                  refine va_put (D := (dC, dI)) (ci := 1) (v := .int 1) (ty := .int) (C := RX1) (T := TX1) (N := 12) hx hb hB inX1 tyX1 tyX1_ok nmX1 hown hK hP hD hS 0 rfl rfl 0 (by decide) (hB _ mX1_f_thrown) (fun _ h9 => h9) rfl (by decide +kernel) rfl rfl (Nat.le_of_ble_eq_true rfl) dX1_cell_74 (fun H locs hP hD hS => ?_)
                  have hP : va_P (dC, dI) vwCl (wN B cI cZ (mkN (1) (nWc μ) (nTc μ) (nLc μ) (nWr μ) (nOf μ) (nUn μ) (nOp μ) (nSt μ) (nKs μ) (nVs μ) (nTs μ))) H := hP
                  have hD : va_D AA (wN B cI cZ (mkN (1) (nWc μ) (nTc μ) (nLc μ) (nWr μ) (nOf μ) (nUn μ) (nOp μ) (nSt μ) (nKs μ) (nVs μ) (nTs μ))) := hD
                  refine lv_aload_n hx hb dX1_cell_77 rfl (lv_at hl 2 rfl) ?_
                  refine va_get (D := (dC, dI)) (ci := 1) (v := .int (1)) (C := RX1) (T := TX1) (N := 12) hx hb hB inX1 hown hK hP 0 rfl rfl 0 (by decide) (hB _ mX1_f_thrown) (fun _ h9 => h9) rfl dX1_cell_78 ?_
                  refine lv_if_eq (tgt := 86) hx hb dX1_cell_81 rfl (fun h9 => ?_) (fun h9 => ?_)
                  · skip
                    exact absurd h9 (by decide)
                  · skip
                    refine lv_iconst (v := 0) hx hb dX1_cell_84 (by decide) ?_
                    exact W.iret (v := 0) hx hb hr (fun t ht hW => ⟨⟨0, mkN (1) (nWc μ) (nTc μ) (nLc μ) (nWr μ) (nOf μ) (nUn μ) (nOp μ) (nSt μ) (nKs μ) (nVs μ) (nTs μ), rfl, ⟨by rw [hr_cell, if_pos (by rw [hk]; decide)], by rw [hk_cell, hk]; rfl⟩, by rw [ht]; exact hP, va_K.moved hW.alike hK, hD⟩, hS.F ht⟩) hS.2.2 dX1_cell_85
                · skip
                  exact (cell_out ha0 ha1 ha2 m4 m5).elim
            · skip
              exact absurd m3 ha1
          · skip
            exact absurd m2 ha0
        · skip
          exact absurd m1 ha2
