set_option maxHeartbeats 8000000 in
set_option maxRecDepth 100000 in
theorem lc_put {p : Program} {e : Env} {s : State} {m : MethodId} {below : List Frame} {meth : Method} {c : Code} (l : Launch) {b L : Nat} {xs : Nat → Int32} (hlt : l.stackTraces = false) (hL : L ≤ 2048) (C0 : lw_At p s m meth c b L xs) {Rel : OS → NS → Prop} (hsim : simOK Rel) {t : Nat} (hti : 4 * t + 4 ≤ L) {dC : Nat → ClassId} {dI : Nat → Nat → Nat} {A : Nat → Nat} {cI : ClassId} {σ : OS} {B : Nat → Nat} {cI2 cZ : ClassId} {μ : NS} {O : Nat} {cJ : ClassId} {g : Nat → Int64} (hR : Rel σ μ) {ls : Array Slot} {H : Heap} {locs : List Loc} (hl : lv_has ls 7 [(0, .ref b), (1, .ref (A 0)), (2, .ref (B 0)), (3, .ref O), (4, .int (nI (4 * t)))]) (hP : va_P (dC, dI) vwCl (wL A cI σ B cI2 cZ μ O cJ g) H) (hK : va_K (dC, dI) vwCl (tyL cI cI2 cZ cJ) s) (hD : va_D (fun q => s.heap.size ≤ q) (wL A cI σ B cI2 cZ μ O cJ g)) (hS : va_S (fun q => s.heap.size ≤ q) s.heap H locs) (hN : xN s) (hZ : xZ (fun q => s.heap.size ≤ q) s) (hC : xC s) (k840 : ∀ (σ : OS) (μ : NS) (g : Nat → Int64) (ls : Array Slot) (H : Heap) (locs : List Loc), Rel σ μ → lv_has ls 7 [(0, .ref b), (1, .ref (A 0)), (2, .ref (B 0)), (3, .ref O), (4, .int (nI (4 * t)))] → va_P (dC, dI) vwCl (wL A cI σ B cI2 cZ μ O cJ g) H → va_D (fun q => s.heap.size ≤ q) (wL A cI σ B cI2 cZ μ O cJ g) → va_S (fun q => s.heap.size ≤ q) s.heap H locs → W p l e room_1 s m #[Value.ref b] below meth c H locs (15 + (t + 1)) (17393 + 6 * (t + 1)) (lw_Z below #[Value.ref b] s) (F0 m 840 ls [])) : W p l e room_1 s m #[Value.ref b] below meth c H locs (15 + t) (17393 + 6 * t) (lw_Z below #[Value.ref b] s) (F0 m 108 ls []) := by
  obtain ⟨hx, hb, hr, hml, hown, hts, hX, hbl, hlocks, hgv⟩ := C0
  have hB : ∀ w ∈ bW, w.before _ s = true := fun w h => hts w (bW_tbl w h)
  have hA : ∀ q : Nat, s.heap.size ≤ q → (fun q => s.heap.size ≤ q) q := fun q h => h
  have hsm := (hsim.2 σ μ hR).1 (xs (4 * t + 1)) (xs (4 * t + 2))
  refine lv_aload_n hx hb dL_law_108 rfl (lv_at hl 1 rfl) ?_
  refine lv_aload_n hx hb dL_law_109 rfl (lv_at hl 0 rfl) ?_
  refine lv_iload hx hb dL_law_110 (lv_at hl 4 rfl) ?_
  refine lv_iconst (v := 1) hx hb dL_law_112 (by decide) ?_
  refine lv_iadd hx hb dL_law_113 ?_
  rw [show nI (4 * t) + 1 = nI (4 * t + 1) from nI_add (4 * t) 1]
  refine va_sld hx hb hX hbl (A := (fun q => s.heap.size ≤ q)) (Nat.not_le.mpr hbl) hS (i := nI (4 * t + 1)) (vp_in_nI (by omega) (by omega)) dL_law_114 ?_
  rw [show (nI (4 * t + 1)).toNatClampNeg = 4 * t + 1 from nI_clamp (by omega)]
  refine lv_aload_n hx hb dL_law_115 rfl (lv_at hl 0 rfl) ?_
  refine lv_iload hx hb dL_law_116 (lv_at hl 4 rfl) ?_
  refine lv_iconst (v := 2) hx hb dL_law_118 (by decide) ?_
  refine lv_iadd hx hb dL_law_119 ?_
  rw [show nI (4 * t) + 2 = nI (4 * t + 2) from nI_add (4 * t) 2]
  refine va_sld hx hb hX hbl (A := (fun q => s.heap.size ≤ q)) (Nat.not_le.mpr hbl) hS (i := nI (4 * t + 2)) (vp_in_nI (by omega) (by omega)) dL_law_120 ?_
  rw [show (nI (4 * t + 2)).toNatClampNeg = 4 * t + 2 from nI_clamp (by omega)]
  refine lv_aload_n hx hb dL_law_121 rfl (lv_at hl 3 rfl) ?_
  refine lk_put hlt hx hb hml hown hB hl.1 hP hK hD hS hA hN hZ hC  dL_law_122 (Nat.le_of_ble_eq_true rfl) (Nat.le_of_ble_eq_true rfl) ⟨by show 15 + t + 1 ≤ 1058; omega, by show 17393 + 6 * t + 6 ≤ 25699; omega⟩ (Nat.le_of_ble_eq_true rfl) (fun u H locs hu hP hD hS => ?_)
  refine lv_istore hx hb dL_law_125 hl (by decide) rfl (fun ls hl => ?_)
  have hl : lv_has ls 7 [(5, .int (nI (k_put σ (xs (4 * t + 1)) (xs (4 * t + 2))))), (0, .ref b), (1, .ref (A 0)), (2, .ref (B 0)), (3, .ref O), (4, .int (nI (4 * t)))] := hl
  have hu1 : u.1 = if k_put σ (xs (4 * t + 1)) (xs (4 * t + 2)) = 0 then s_put σ (xs (4 * t + 1)) (xs (4 * t + 2)) else σ := by rw [hu]; exact hU_1 _ _ _ _ _
  refine lv_aload_n hx hb dL_law_127 rfl (lv_at hl 3 rfl) ?_
  refine lv_aload_n hx hb dL_law_128 rfl (lv_at hl 1 rfl) ?_
  refine lv_iload hx hb dL_law_129 (lv_at hl 5 rfl) ?_
  refine lv_iconst (v := 1) hx hb dL_law_131 (by decide) ?_
  refine lv_iadd hx hb dL_law_132 ?_
  rw [show nI (4 * t) + 1 = nI (4 * t + 1) from nI_add (4 * t) 1]
  refine va_sld hx hb hX hbl (A := (fun q => s.heap.size ≤ q)) (Nat.not_le.mpr hbl) hS (i := nI (4 * t + 1)) (vp_in_nI (by omega) (by omega)) dL_law_133 ?_
  rw [show (nI (4 * t + 1)).toNatClampNeg = 4 * t + 1 from nI_clamp (by omega)]
  refine lv_aload_n hx hb dL_law_134 rfl (lv_at hl 1 rfl) ?_
  refine lv_iload hx hb dL_law_135 (lv_at hl 5 rfl) ?_
  refine lv_iconst (v := 2) hx hb dL_law_137 (by decide) ?_
  refine lv_iadd hx hb dL_law_138 ?_
  rw [show nI (4 * t) + 2 = nI (4 * t + 2) from nI_add (4 * t) 2]
  refine va_sld hx hb hX hbl (A := (fun q => s.heap.size ≤ q)) (Nat.not_le.mpr hbl) hS (i := nI (4 * t + 2)) (vp_in_nI (by omega) (by omega)) dL_law_139 ?_
  rw [show (nI (4 * t + 2)).toNatClampNeg = 4 * t + 2 from nI_clamp (by omega)]
  refine lm_put hx hb hml hown hB hl.1 hP hK hD hS hA  dL_law_140 (Nat.le_of_ble_eq_true rfl) (Nat.le_of_ble_eq_true rfl) ⟨by show 15 + t + 1 ≤ 1058; omega, by show 17393 + 6 * t + 6 ≤ 25699; omega⟩ (Nat.le_of_ble_eq_true rfl) (fun r μ2 H locs hr2 hm hP hD hS => ?_)
  obtain ⟨hth, hk2, hRel⟩ := hsm.1
  rw [← hm] at hth hRel
  rw [← hu1] at hRel
  refine lv_istore hx hb dL_law_143 hl (by decide) rfl (fun ls hl => ?_)
  have hl : lv_has ls 7 [(6, .int r), (5, .int (nI (k_put σ (xs (4 * t + 1)) (xs (4 * t + 2))))), (0, .ref b), (1, .ref (A 0)), (2, .ref (B 0)), (3, .ref O), (4, .int (nI (4 * t)))] := hl
  refine lv_aload_n hx hb dL_law_145 rfl (lv_at hl 4 rfl) ?_
  refine lr_X1thrown hx hb hml hown hB hl.1 hP hK hD hS hA dL_law_146 (Nat.le_of_ble_eq_true rfl) (Nat.le_of_ble_eq_true rfl) ⟨by show 15 + t + 1 ≤ 1058; omega, by show 17393 + 6 * t + 6 ≤ 25699; omega⟩ (Nat.le_of_ble_eq_true rfl) ?_
  refine lv_iload hx hb dL_law_149 (lv_at hl 1 rfl) ?_
  refine lv_icmp_eq (tgt := 156) hx hb dL_law_151 rfl (fun h1 => ?_) (fun h1 => ?_)
  · skip
    refine lv_iload hx hb dL_law_156 (lv_at hl 1 rfl) ?_
    refine lv_if_ne (tgt := 173) hx hb dL_law_158 rfl (fun h2 => ?_) (fun h2 => ?_)
    · skip
      refine lv_goto (tgt := 840) hx hb dL_law_173 rfl ?_
      refine W.widen (k := 15 + (t + 1)) (n := 17393 + 6 * (t + 1)) (by omega) (by omega) ?_
      exact k840 u.1 μ2 u.2 ls H locs hRel (lv_sub hl [2, 3, 4, 5, 6] rfl) hP hD hS
    · skip
      have hk0 : k_put σ (xs (4 * t + 1)) (xs (4 * t + 2)) = 0 := nI_k0 hk2 h2
      have hu2 : u.2 0 = (r_put σ (xs (4 * t + 1)) (xs (4 * t + 2))).toInt64 := by rw [hu]; exact hU_2 _ _ _ _ hk0
      have hrr := hsm.2 hk0
      refine lv_aload_n hx hb dL_law_161 rfl (lv_at hl 5 rfl) ?_
      refine lv_iconst (v := 0) hx hb dL_law_162 (by decide) ?_
      refine va_lald (D := (dC, dI)) (i := nI 0) hx hb hK hP 14 3 rfl rfl (vp_in_nI (by decide) (by decide)) dL_law_163 ?_
      rw [show (nI 0).toNatClampNeg = 0 from rfl]
      refine lv_iload hx hb dL_law_164 (lv_at hl 0 rfl) ?_
      refine lv_i2l (v := (r).toInt64) hx hb dL_law_166 rfl ?_
      refine W.lcmp hx hb dL_law_167 ?_
      refine lv_if_eq (tgt := 173) hx hb dL_law_168 rfl (fun h3 => ?_) (fun h3 => ?_)
      · skip
        refine lv_goto (tgt := 840) hx hb dL_law_173 rfl ?_
        refine W.widen (k := 15 + (t + 1)) (n := 17393 + 6 * (t + 1)) (by omega) (by omega) ?_
        exact k840 u.1 μ2 u.2 ls H locs hRel (lv_sub hl [2, 3, 4, 5, 6] rfl) hP hD hS
      · skip
        exact absurd ((lg_cmp_eq _ _).mpr (by rw [hu2, hr2, hrr])) h3
  · skip
    exact absurd hth h1
set_option maxHeartbeats 8000000 in
set_option maxRecDepth 100000 in
theorem lc_get {p : Program} {e : Env} {s : State} {m : MethodId} {below : List Frame} {meth : Method} {c : Code} (l : Launch) {b L : Nat} {xs : Nat → Int32} (hlt : l.stackTraces = false) (hL : L ≤ 2048) (C0 : lw_At p s m meth c b L xs) {Rel : OS → NS → Prop} (hsim : simOK Rel) {t : Nat} (hti : 4 * t + 4 ≤ L) {dC : Nat → ClassId} {dI : Nat → Nat → Nat} {A : Nat → Nat} {cI : ClassId} {σ : OS} {B : Nat → Nat} {cI2 cZ : ClassId} {μ : NS} {O : Nat} {cJ : ClassId} {g : Nat → Int64} (hR : Rel σ μ) {ls : Array Slot} {H : Heap} {locs : List Loc} (hl : lv_has ls 7 [(0, .ref b), (1, .ref (A 0)), (2, .ref (B 0)), (3, .ref O), (4, .int (nI (4 * t)))]) (hP : va_P (dC, dI) vwCl (wL A cI σ B cI2 cZ μ O cJ g) H) (hK : va_K (dC, dI) vwCl (tyL cI cI2 cZ cJ) s) (hD : va_D (fun q => s.heap.size ≤ q) (wL A cI σ B cI2 cZ μ O cJ g)) (hS : va_S (fun q => s.heap.size ≤ q) s.heap H locs) (hN : xN s) (hZ : xZ (fun q => s.heap.size ≤ q) s) (hC : xC s) (k840 : ∀ (σ : OS) (μ : NS) (g : Nat → Int64) (ls : Array Slot) (H : Heap) (locs : List Loc), Rel σ μ → lv_has ls 7 [(0, .ref b), (1, .ref (A 0)), (2, .ref (B 0)), (3, .ref O), (4, .int (nI (4 * t)))] → va_P (dC, dI) vwCl (wL A cI σ B cI2 cZ μ O cJ g) H → va_D (fun q => s.heap.size ≤ q) (wL A cI σ B cI2 cZ μ O cJ g) → va_S (fun q => s.heap.size ≤ q) s.heap H locs → W p l e room_1 s m #[Value.ref b] below meth c H locs (15 + (t + 1)) (17393 + 6 * (t + 1)) (lw_Z below #[Value.ref b] s) (F0 m 840 ls [])) : W p l e room_1 s m #[Value.ref b] below meth c H locs (15 + t) (17393 + 6 * t) (lw_Z below #[Value.ref b] s) (F0 m 176 ls []) := by
  obtain ⟨hx, hb, hr, hml, hown, hts, hX, hbl, hlocks, hgv⟩ := C0
  have hB : ∀ w ∈ bW, w.before _ s = true := fun w h => hts w (bW_tbl w h)
  have hA : ∀ q : Nat, s.heap.size ≤ q → (fun q => s.heap.size ≤ q) q := fun q h => h
  have hsm := (hsim.2 σ μ hR).2.1 (xs (4 * t + 1))
  refine lv_aload_n hx hb dL_law_176 rfl (lv_at hl 1 rfl) ?_
  refine lv_aload_n hx hb dL_law_177 rfl (lv_at hl 0 rfl) ?_
  refine lv_iload hx hb dL_law_178 (lv_at hl 4 rfl) ?_
  refine lv_iconst (v := 1) hx hb dL_law_180 (by decide) ?_
  refine lv_iadd hx hb dL_law_181 ?_
  rw [show nI (4 * t) + 1 = nI (4 * t + 1) from nI_add (4 * t) 1]
  refine va_sld hx hb hX hbl (A := (fun q => s.heap.size ≤ q)) (Nat.not_le.mpr hbl) hS (i := nI (4 * t + 1)) (vp_in_nI (by omega) (by omega)) dL_law_182 ?_
  rw [show (nI (4 * t + 1)).toNatClampNeg = 4 * t + 1 from nI_clamp (by omega)]
  refine lv_aload_n hx hb dL_law_183 rfl (lv_at hl 3 rfl) ?_
  refine lk_get hlt hx hb hml hown hB hl.1 hP hK hD hS hA hN hZ hC  dL_law_184 (Nat.le_of_ble_eq_true rfl) (Nat.le_of_ble_eq_true rfl) ⟨by show 15 + t + 1 ≤ 1058; omega, by show 17393 + 6 * t + 6 ≤ 25699; omega⟩ (Nat.le_of_ble_eq_true rfl) (fun u H locs hu hP hD hS => ?_)
  refine lv_istore hx hb dL_law_187 hl (by decide) rfl (fun ls hl => ?_)
  have hl : lv_has ls 7 [(5, .int (nI (k_get σ (xs (4 * t + 1))))), (0, .ref b), (1, .ref (A 0)), (2, .ref (B 0)), (3, .ref O), (4, .int (nI (4 * t)))] := hl
  have hu1 : u.1 = if k_get σ (xs (4 * t + 1)) = 0 then σ else σ := by rw [hu]; exact hU_1 _ _ _ _ _
  refine lv_aload_n hx hb dL_law_189 rfl (lv_at hl 3 rfl) ?_
  refine lv_aload_n hx hb dL_law_190 rfl (lv_at hl 1 rfl) ?_
  refine lv_iload hx hb dL_law_191 (lv_at hl 5 rfl) ?_
  refine lv_iconst (v := 1) hx hb dL_law_193 (by decide) ?_
  refine lv_iadd hx hb dL_law_194 ?_
  rw [show nI (4 * t) + 1 = nI (4 * t + 1) from nI_add (4 * t) 1]
  refine va_sld hx hb hX hbl (A := (fun q => s.heap.size ≤ q)) (Nat.not_le.mpr hbl) hS (i := nI (4 * t + 1)) (vp_in_nI (by omega) (by omega)) dL_law_195 ?_
  rw [show (nI (4 * t + 1)).toNatClampNeg = 4 * t + 1 from nI_clamp (by omega)]
  refine lm_get hx hb hml hown hB hl.1 hP hK hD hS hA  dL_law_196 (Nat.le_of_ble_eq_true rfl) (Nat.le_of_ble_eq_true rfl) ⟨by show 15 + t + 1 ≤ 1058; omega, by show 17393 + 6 * t + 6 ≤ 25699; omega⟩ (Nat.le_of_ble_eq_true rfl) (fun r μ2 H locs hr2 hm hP hD hS => ?_)
  obtain ⟨hth, hk2, hRel⟩ := hsm.1
  rw [← hm] at hth hRel
  rw [← hu1] at hRel
  refine lv_istore hx hb dL_law_199 hl (by decide) rfl (fun ls hl => ?_)
  have hl : lv_has ls 7 [(6, .int r), (5, .int (nI (k_get σ (xs (4 * t + 1))))), (0, .ref b), (1, .ref (A 0)), (2, .ref (B 0)), (3, .ref O), (4, .int (nI (4 * t)))] := hl
  refine lv_aload_n hx hb dL_law_201 rfl (lv_at hl 4 rfl) ?_
  refine lr_X1thrown hx hb hml hown hB hl.1 hP hK hD hS hA dL_law_202 (Nat.le_of_ble_eq_true rfl) (Nat.le_of_ble_eq_true rfl) ⟨by show 15 + t + 1 ≤ 1058; omega, by show 17393 + 6 * t + 6 ≤ 25699; omega⟩ (Nat.le_of_ble_eq_true rfl) ?_
  refine lv_iload hx hb dL_law_205 (lv_at hl 1 rfl) ?_
  refine lv_icmp_eq (tgt := 212) hx hb dL_law_207 rfl (fun h1 => ?_) (fun h1 => ?_)
  · skip
    refine lv_iload hx hb dL_law_212 (lv_at hl 1 rfl) ?_
    refine lv_if_ne (tgt := 229) hx hb dL_law_214 rfl (fun h2 => ?_) (fun h2 => ?_)
    · skip
      refine lv_goto (tgt := 840) hx hb dL_law_229 rfl ?_
      refine W.widen (k := 15 + (t + 1)) (n := 17393 + 6 * (t + 1)) (by omega) (by omega) ?_
      exact k840 u.1 μ2 u.2 ls H locs hRel (lv_sub hl [2, 3, 4, 5, 6] rfl) hP hD hS
    · skip
      have hk0 : k_get σ (xs (4 * t + 1)) = 0 := nI_k0 hk2 h2
      have hu2 : u.2 0 = (r_get σ (xs (4 * t + 1))).toInt64 := by rw [hu]; exact hU_2 _ _ _ _ hk0
      have hrr := hsm.2 hk0
      refine lv_aload_n hx hb dL_law_217 rfl (lv_at hl 5 rfl) ?_
      refine lv_iconst (v := 0) hx hb dL_law_218 (by decide) ?_
      refine va_lald (D := (dC, dI)) (i := nI 0) hx hb hK hP 14 3 rfl rfl (vp_in_nI (by decide) (by decide)) dL_law_219 ?_
      rw [show (nI 0).toNatClampNeg = 0 from rfl]
      refine lv_iload hx hb dL_law_220 (lv_at hl 0 rfl) ?_
      refine lv_i2l (v := (r).toInt64) hx hb dL_law_222 rfl ?_
      refine W.lcmp hx hb dL_law_223 ?_
      refine lv_if_eq (tgt := 229) hx hb dL_law_224 rfl (fun h3 => ?_) (fun h3 => ?_)
      · skip
        refine lv_goto (tgt := 840) hx hb dL_law_229 rfl ?_
        refine W.widen (k := 15 + (t + 1)) (n := 17393 + 6 * (t + 1)) (by omega) (by omega) ?_
        exact k840 u.1 μ2 u.2 ls H locs hRel (lv_sub hl [2, 3, 4, 5, 6] rfl) hP hD hS
      · skip
        exact absurd ((lg_cmp_eq _ _).mpr (by rw [hu2, hr2, hrr])) h3
  · skip
    exact absurd hth h1
set_option maxHeartbeats 8000000 in
set_option maxRecDepth 100000 in
theorem lc_wouldMove {p : Program} {e : Env} {s : State} {m : MethodId} {below : List Frame} {meth : Method} {c : Code} (l : Launch) {b L : Nat} {xs : Nat → Int32} (hlt : l.stackTraces = false) (hL : L ≤ 2048) (C0 : lw_At p s m meth c b L xs) {Rel : OS → NS → Prop} (hsim : simOK Rel) {t : Nat} (hti : 4 * t + 4 ≤ L) {dC : Nat → ClassId} {dI : Nat → Nat → Nat} {A : Nat → Nat} {cI : ClassId} {σ : OS} {B : Nat → Nat} {cI2 cZ : ClassId} {μ : NS} {O : Nat} {cJ : ClassId} {g : Nat → Int64} (hR : Rel σ μ) {ls : Array Slot} {H : Heap} {locs : List Loc} (hl : lv_has ls 7 [(0, .ref b), (1, .ref (A 0)), (2, .ref (B 0)), (3, .ref O), (4, .int (nI (4 * t)))]) (hP : va_P (dC, dI) vwCl (wL A cI σ B cI2 cZ μ O cJ g) H) (hK : va_K (dC, dI) vwCl (tyL cI cI2 cZ cJ) s) (hD : va_D (fun q => s.heap.size ≤ q) (wL A cI σ B cI2 cZ μ O cJ g)) (hS : va_S (fun q => s.heap.size ≤ q) s.heap H locs) (hN : xN s) (hZ : xZ (fun q => s.heap.size ≤ q) s) (hC : xC s) (k840 : ∀ (σ : OS) (μ : NS) (g : Nat → Int64) (ls : Array Slot) (H : Heap) (locs : List Loc), Rel σ μ → lv_has ls 7 [(0, .ref b), (1, .ref (A 0)), (2, .ref (B 0)), (3, .ref O), (4, .int (nI (4 * t)))] → va_P (dC, dI) vwCl (wL A cI σ B cI2 cZ μ O cJ g) H → va_D (fun q => s.heap.size ≤ q) (wL A cI σ B cI2 cZ μ O cJ g) → va_S (fun q => s.heap.size ≤ q) s.heap H locs → W p l e room_1 s m #[Value.ref b] below meth c H locs (15 + (t + 1)) (17393 + 6 * (t + 1)) (lw_Z below #[Value.ref b] s) (F0 m 840 ls [])) : W p l e room_1 s m #[Value.ref b] below meth c H locs (15 + t) (17393 + 6 * t) (lw_Z below #[Value.ref b] s) (F0 m 232 ls []) := by
  obtain ⟨hx, hb, hr, hml, hown, hts, hX, hbl, hlocks, hgv⟩ := C0
  have hB : ∀ w ∈ bW, w.before _ s = true := fun w h => hts w (bW_tbl w h)
  have hA : ∀ q : Nat, s.heap.size ≤ q → (fun q => s.heap.size ≤ q) q := fun q h => h
  have hsm := (hsim.2 σ μ hR).2.2.1 (xs (4 * t + 1)) (xs (4 * t + 2))
  refine lv_aload_n hx hb dL_law_232 rfl (lv_at hl 1 rfl) ?_
  refine lv_aload_n hx hb dL_law_233 rfl (lv_at hl 0 rfl) ?_
  refine lv_iload hx hb dL_law_234 (lv_at hl 4 rfl) ?_
  refine lv_iconst (v := 1) hx hb dL_law_236 (by decide) ?_
  refine lv_iadd hx hb dL_law_237 ?_
  rw [show nI (4 * t) + 1 = nI (4 * t + 1) from nI_add (4 * t) 1]
  refine va_sld hx hb hX hbl (A := (fun q => s.heap.size ≤ q)) (Nat.not_le.mpr hbl) hS (i := nI (4 * t + 1)) (vp_in_nI (by omega) (by omega)) dL_law_238 ?_
  rw [show (nI (4 * t + 1)).toNatClampNeg = 4 * t + 1 from nI_clamp (by omega)]
  refine lv_aload_n hx hb dL_law_239 rfl (lv_at hl 0 rfl) ?_
  refine lv_iload hx hb dL_law_240 (lv_at hl 4 rfl) ?_
  refine lv_iconst (v := 2) hx hb dL_law_242 (by decide) ?_
  refine lv_iadd hx hb dL_law_243 ?_
  rw [show nI (4 * t) + 2 = nI (4 * t + 2) from nI_add (4 * t) 2]
  refine va_sld hx hb hX hbl (A := (fun q => s.heap.size ≤ q)) (Nat.not_le.mpr hbl) hS (i := nI (4 * t + 2)) (vp_in_nI (by omega) (by omega)) dL_law_244 ?_
  rw [show (nI (4 * t + 2)).toNatClampNeg = 4 * t + 2 from nI_clamp (by omega)]
  refine lv_aload_n hx hb dL_law_245 rfl (lv_at hl 3 rfl) ?_
  refine lk_wouldMove hlt hx hb hml hown hB hl.1 hP hK hD hS hA hN hZ hC  dL_law_246 (Nat.le_of_ble_eq_true rfl) (Nat.le_of_ble_eq_true rfl) ⟨by show 15 + t + 1 ≤ 1058; omega, by show 17393 + 6 * t + 6 ≤ 25699; omega⟩ (Nat.le_of_ble_eq_true rfl) (fun u H locs hu hP hD hS => ?_)
  refine lv_istore hx hb dL_law_249 hl (by decide) rfl (fun ls hl => ?_)
  have hl : lv_has ls 7 [(5, .int (nI (k_wm σ (xs (4 * t + 1)) (xs (4 * t + 2))))), (0, .ref b), (1, .ref (A 0)), (2, .ref (B 0)), (3, .ref O), (4, .int (nI (4 * t)))] := hl
  have hu1 : u.1 = if k_wm σ (xs (4 * t + 1)) (xs (4 * t + 2)) = 0 then σ else σ := by rw [hu]; exact hU_1 _ _ _ _ _
  refine lv_aload_n hx hb dL_law_251 rfl (lv_at hl 3 rfl) ?_
  refine lv_aload_n hx hb dL_law_252 rfl (lv_at hl 1 rfl) ?_
  refine lv_iload hx hb dL_law_253 (lv_at hl 5 rfl) ?_
  refine lv_iconst (v := 1) hx hb dL_law_255 (by decide) ?_
  refine lv_iadd hx hb dL_law_256 ?_
  rw [show nI (4 * t) + 1 = nI (4 * t + 1) from nI_add (4 * t) 1]
  refine va_sld hx hb hX hbl (A := (fun q => s.heap.size ≤ q)) (Nat.not_le.mpr hbl) hS (i := nI (4 * t + 1)) (vp_in_nI (by omega) (by omega)) dL_law_257 ?_
  rw [show (nI (4 * t + 1)).toNatClampNeg = 4 * t + 1 from nI_clamp (by omega)]
  refine lv_aload_n hx hb dL_law_258 rfl (lv_at hl 1 rfl) ?_
  refine lv_iload hx hb dL_law_259 (lv_at hl 5 rfl) ?_
  refine lv_iconst (v := 2) hx hb dL_law_261 (by decide) ?_
  refine lv_iadd hx hb dL_law_262 ?_
  rw [show nI (4 * t) + 2 = nI (4 * t + 2) from nI_add (4 * t) 2]
  refine va_sld hx hb hX hbl (A := (fun q => s.heap.size ≤ q)) (Nat.not_le.mpr hbl) hS (i := nI (4 * t + 2)) (vp_in_nI (by omega) (by omega)) dL_law_263 ?_
  rw [show (nI (4 * t + 2)).toNatClampNeg = 4 * t + 2 from nI_clamp (by omega)]
  refine lm_wouldMove hx hb hml hown hB hl.1 hP hK hD hS hA  dL_law_264 (Nat.le_of_ble_eq_true rfl) (Nat.le_of_ble_eq_true rfl) ⟨by show 15 + t + 1 ≤ 1058; omega, by show 17393 + 6 * t + 6 ≤ 25699; omega⟩ (Nat.le_of_ble_eq_true rfl) (fun r μ2 H locs hr2 hm hP hD hS => ?_)
  obtain ⟨hth, hk2, hRel⟩ := hsm.1
  rw [← hm] at hth hRel
  rw [← hu1] at hRel
  refine lv_istore hx hb dL_law_267 hl (by decide) rfl (fun ls hl => ?_)
  have hl : lv_has ls 7 [(6, .int r), (5, .int (nI (k_wm σ (xs (4 * t + 1)) (xs (4 * t + 2))))), (0, .ref b), (1, .ref (A 0)), (2, .ref (B 0)), (3, .ref O), (4, .int (nI (4 * t)))] := hl
  refine lv_aload_n hx hb dL_law_269 rfl (lv_at hl 4 rfl) ?_
  refine lr_X1thrown hx hb hml hown hB hl.1 hP hK hD hS hA dL_law_270 (Nat.le_of_ble_eq_true rfl) (Nat.le_of_ble_eq_true rfl) ⟨by show 15 + t + 1 ≤ 1058; omega, by show 17393 + 6 * t + 6 ≤ 25699; omega⟩ (Nat.le_of_ble_eq_true rfl) ?_
  refine lv_iload hx hb dL_law_273 (lv_at hl 1 rfl) ?_
  refine lv_icmp_eq (tgt := 280) hx hb dL_law_275 rfl (fun h1 => ?_) (fun h1 => ?_)
  · skip
    refine lv_iload hx hb dL_law_280 (lv_at hl 1 rfl) ?_
    refine lv_if_ne (tgt := 304) hx hb dL_law_282 rfl (fun h2 => ?_) (fun h2 => ?_)
    · skip
      refine lv_goto (tgt := 840) hx hb dL_law_304 rfl ?_
      refine W.widen (k := 15 + (t + 1)) (n := 17393 + 6 * (t + 1)) (by omega) (by omega) ?_
      exact k840 u.1 μ2 u.2 ls H locs hRel (lv_sub hl [2, 3, 4, 5, 6] rfl) hP hD hS
    · skip
      have hk0 : k_wm σ (xs (4 * t + 1)) (xs (4 * t + 2)) = 0 := nI_k0 hk2 h2
      have hu2 : u.2 0 = (if r_wm σ (xs (4 * t + 1)) (xs (4 * t + 2)) = true then 1 else 0) := by rw [hu]; exact hU_2 _ _ _ _ hk0
      have hrr := hsm.2 hk0
      refine lv_aload_n hx hb dL_law_285 rfl (lv_at hl 5 rfl) ?_
      refine lv_iconst (v := 0) hx hb dL_law_286 (by decide) ?_
      refine va_lald (D := (dC, dI)) (i := nI 0) hx hb hK hP 14 3 rfl rfl (vp_in_nI (by decide) (by decide)) dL_law_287 ?_
      rw [show (nI 0).toNatClampNeg = 0 from rfl]
      refine lv_iload hx hb dL_law_288 (lv_at hl 0 rfl) ?_
      rw [hr2, hrr]
      refine lv_if_eq (tgt := 297) hx hb dL_law_290 rfl (fun h4 => ?_) (fun h4 => ?_)
      · skip
        refine lv_lconst (v := 0) hx hb dL_law_297 (by decide) ?_
        refine W.lcmp hx hb dL_law_298 ?_
        refine lv_if_eq (tgt := 304) hx hb dL_law_299 rfl (fun h3 => ?_) (fun h3 => ?_)
        · skip
          refine lv_goto (tgt := 840) hx hb dL_law_304 rfl ?_
          refine W.widen (k := 15 + (t + 1)) (n := 17393 + 6 * (t + 1)) (by omega) (by omega) ?_
          exact k840 u.1 μ2 u.2 ls H locs hRel (lv_sub hl [2, 3, 4, 5, 6] rfl) hP hD hS
        · skip
          exact absurd ((lg_cmp_eq _ _).mpr (by rw [hu2, bI_0.mp h4]; rfl)) h3
      · skip
        refine lv_lconst (v := 1) hx hb dL_law_293 (by decide) ?_
        refine lv_goto (tgt := 298) hx hb dL_law_294 rfl ?_
        refine W.lcmp hx hb dL_law_298 ?_
        refine lv_if_eq (tgt := 304) hx hb dL_law_299 rfl (fun h3 => ?_) (fun h3 => ?_)
        · skip
          refine lv_goto (tgt := 840) hx hb dL_law_304 rfl ?_
          refine W.widen (k := 15 + (t + 1)) (n := 17393 + 6 * (t + 1)) (by omega) (by omega) ?_
          exact k840 u.1 μ2 u.2 ls H locs hRel (lv_sub hl [2, 3, 4, 5, 6] rfl) hP hD hS
        · skip
          exact absurd ((lg_cmp_eq _ _).mpr (by rw [hu2, bI_n0.mp h4]; rfl)) h3
  · skip
    exact absurd hth h1
set_option maxHeartbeats 8000000 in
set_option maxRecDepth 100000 in
theorem lc_begin {p : Program} {e : Env} {s : State} {m : MethodId} {below : List Frame} {meth : Method} {c : Code} (l : Launch) {b L : Nat} {xs : Nat → Int32} (hlt : l.stackTraces = false) (hL : L ≤ 2048) (C0 : lw_At p s m meth c b L xs) {Rel : OS → NS → Prop} (hsim : simOK Rel) {t : Nat} (hti : 4 * t + 4 ≤ L) {dC : Nat → ClassId} {dI : Nat → Nat → Nat} {A : Nat → Nat} {cI : ClassId} {σ : OS} {B : Nat → Nat} {cI2 cZ : ClassId} {μ : NS} {O : Nat} {cJ : ClassId} {g : Nat → Int64} (hR : Rel σ μ) {ls : Array Slot} {H : Heap} {locs : List Loc} (hl : lv_has ls 7 [(0, .ref b), (1, .ref (A 0)), (2, .ref (B 0)), (3, .ref O), (4, .int (nI (4 * t)))]) (hP : va_P (dC, dI) vwCl (wL A cI σ B cI2 cZ μ O cJ g) H) (hK : va_K (dC, dI) vwCl (tyL cI cI2 cZ cJ) s) (hD : va_D (fun q => s.heap.size ≤ q) (wL A cI σ B cI2 cZ μ O cJ g)) (hS : va_S (fun q => s.heap.size ≤ q) s.heap H locs) (hN : xN s) (hZ : xZ (fun q => s.heap.size ≤ q) s) (hC : xC s) (k840 : ∀ (σ : OS) (μ : NS) (g : Nat → Int64) (ls : Array Slot) (H : Heap) (locs : List Loc), Rel σ μ → lv_has ls 7 [(0, .ref b), (1, .ref (A 0)), (2, .ref (B 0)), (3, .ref O), (4, .int (nI (4 * t)))] → va_P (dC, dI) vwCl (wL A cI σ B cI2 cZ μ O cJ g) H → va_D (fun q => s.heap.size ≤ q) (wL A cI σ B cI2 cZ μ O cJ g) → va_S (fun q => s.heap.size ≤ q) s.heap H locs → W p l e room_1 s m #[Value.ref b] below meth c H locs (15 + (t + 1)) (17393 + 6 * (t + 1)) (lw_Z below #[Value.ref b] s) (F0 m 840 ls [])) : W p l e room_1 s m #[Value.ref b] below meth c H locs (15 + t) (17393 + 6 * t) (lw_Z below #[Value.ref b] s) (F0 m 307 ls []) := by
  obtain ⟨hx, hb, hr, hml, hown, hts, hX, hbl, hlocks, hgv⟩ := C0
  have hB : ∀ w ∈ bW, w.before _ s = true := fun w h => hts w (bW_tbl w h)
  have hA : ∀ q : Nat, s.heap.size ≤ q → (fun q => s.heap.size ≤ q) q := fun q h => h
  have hsm := (hsim.2 σ μ hR).2.2.2.1
  refine lv_aload_n hx hb dL_law_307 rfl (lv_at hl 1 rfl) ?_
  refine lk_begin hlt hx hb hml hown hB hl.1 hP hK hD hS hA hN hZ hC  dL_law_308 (Nat.le_of_ble_eq_true rfl) (Nat.le_of_ble_eq_true rfl) ⟨by show 15 + t + 1 ≤ 1058; omega, by show 17393 + 6 * t + 6 ≤ 25699; omega⟩ (Nat.le_of_ble_eq_true rfl) (fun u H locs hu hP hD hS => ?_)
  refine lv_istore hx hb dL_law_311 hl (by decide) rfl (fun ls hl => ?_)
  have hl : lv_has ls 7 [(5, .int (nI (k_begin σ))), (0, .ref b), (1, .ref (A 0)), (2, .ref (B 0)), (3, .ref O), (4, .int (nI (4 * t)))] := hl
  have hu1 : u.1 = if k_begin σ = 0 then s_begin σ else σ := by rw [hu]; exact hV_1 _ _ _ _
  refine lv_aload_n hx hb dL_law_313 rfl (lv_at hl 3 rfl) ?_
  refine lm_begin hx hb hml hown hB hl.1 hP hK hD hS hA  dL_law_314 (Nat.le_of_ble_eq_true rfl) (Nat.le_of_ble_eq_true rfl) ⟨by show 15 + t + 1 ≤ 1058; omega, by show 17393 + 6 * t + 6 ≤ 25699; omega⟩ (Nat.le_of_ble_eq_true rfl) (fun μ2 H locs hm hP hD hS => ?_)
  obtain ⟨hth, hk2, hRel⟩ := hsm
  rw [← hm] at hth hRel
  rw [← hu1] at hRel
  refine lv_aload_n hx hb dL_law_317 rfl (lv_at hl 3 rfl) ?_
  refine lr_X1thrown hx hb hml hown hB hl.1 hP hK hD hS hA dL_law_318 (Nat.le_of_ble_eq_true rfl) (Nat.le_of_ble_eq_true rfl) ⟨by show 15 + t + 1 ≤ 1058; omega, by show 17393 + 6 * t + 6 ≤ 25699; omega⟩ (Nat.le_of_ble_eq_true rfl) ?_
  refine lv_iload hx hb dL_law_321 (lv_at hl 0 rfl) ?_
  refine lv_icmp_eq (tgt := 328) hx hb dL_law_323 rfl (fun h1 => ?_) (fun h1 => ?_)
  · skip
    refine lv_goto (tgt := 840) hx hb dL_law_328 rfl ?_
    refine W.widen (k := 15 + (t + 1)) (n := 17393 + 6 * (t + 1)) (by omega) (by omega) ?_
    exact k840 u.1 μ2 u.2 ls H locs hRel (lv_sub hl [1, 2, 3, 4, 5] rfl) hP hD hS
  · skip
    exact absurd hth h1
set_option maxHeartbeats 8000000 in
set_option maxRecDepth 100000 in
theorem lc_stage {p : Program} {e : Env} {s : State} {m : MethodId} {below : List Frame} {meth : Method} {c : Code} (l : Launch) {b L : Nat} {xs : Nat → Int32} (hlt : l.stackTraces = false) (hL : L ≤ 2048) (C0 : lw_At p s m meth c b L xs) {Rel : OS → NS → Prop} (hsim : simOK Rel) {t : Nat} (hti : 4 * t + 4 ≤ L) {dC : Nat → ClassId} {dI : Nat → Nat → Nat} {A : Nat → Nat} {cI : ClassId} {σ : OS} {B : Nat → Nat} {cI2 cZ : ClassId} {μ : NS} {O : Nat} {cJ : ClassId} {g : Nat → Int64} (hR : Rel σ μ) {ls : Array Slot} {H : Heap} {locs : List Loc} (hl : lv_has ls 7 [(0, .ref b), (1, .ref (A 0)), (2, .ref (B 0)), (3, .ref O), (4, .int (nI (4 * t)))]) (hP : va_P (dC, dI) vwCl (wL A cI σ B cI2 cZ μ O cJ g) H) (hK : va_K (dC, dI) vwCl (tyL cI cI2 cZ cJ) s) (hD : va_D (fun q => s.heap.size ≤ q) (wL A cI σ B cI2 cZ μ O cJ g)) (hS : va_S (fun q => s.heap.size ≤ q) s.heap H locs) (hN : xN s) (hZ : xZ (fun q => s.heap.size ≤ q) s) (hC : xC s) (k840 : ∀ (σ : OS) (μ : NS) (g : Nat → Int64) (ls : Array Slot) (H : Heap) (locs : List Loc), Rel σ μ → lv_has ls 7 [(0, .ref b), (1, .ref (A 0)), (2, .ref (B 0)), (3, .ref O), (4, .int (nI (4 * t)))] → va_P (dC, dI) vwCl (wL A cI σ B cI2 cZ μ O cJ g) H → va_D (fun q => s.heap.size ≤ q) (wL A cI σ B cI2 cZ μ O cJ g) → va_S (fun q => s.heap.size ≤ q) s.heap H locs → W p l e room_1 s m #[Value.ref b] below meth c H locs (15 + (t + 1)) (17393 + 6 * (t + 1)) (lw_Z below #[Value.ref b] s) (F0 m 840 ls [])) : W p l e room_1 s m #[Value.ref b] below meth c H locs (15 + t) (17393 + 6 * t) (lw_Z below #[Value.ref b] s) (F0 m 331 ls []) := by
  obtain ⟨hx, hb, hr, hml, hown, hts, hX, hbl, hlocks, hgv⟩ := C0
  have hB : ∀ w ∈ bW, w.before _ s = true := fun w h => hts w (bW_tbl w h)
  have hA : ∀ q : Nat, s.heap.size ≤ q → (fun q => s.heap.size ≤ q) q := fun q h => h
  have hsm := (hsim.2 σ μ hR).2.2.2.2.1
  obtain ⟨nb, nm, hnb8, hnm8, hnb, hnm, hst, -⟩ := hsm
  have hsm := hst (xs (4 * t + 1)) (xs (4 * t + 2))
  refine lv_aload_n hx hb dL_law_331 rfl (lv_at hl 1 rfl) ?_
  refine lv_aload_n hx hb dL_law_332 rfl (lv_at hl 0 rfl) ?_
  refine lv_iload hx hb dL_law_333 (lv_at hl 4 rfl) ?_
  refine lv_iconst (v := 1) hx hb dL_law_335 (by decide) ?_
  refine lv_iadd hx hb dL_law_336 ?_
  rw [show nI (4 * t) + 1 = nI (4 * t + 1) from nI_add (4 * t) 1]
  refine va_sld hx hb hX hbl (A := (fun q => s.heap.size ≤ q)) (Nat.not_le.mpr hbl) hS (i := nI (4 * t + 1)) (vp_in_nI (by omega) (by omega)) dL_law_337 ?_
  rw [show (nI (4 * t + 1)).toNatClampNeg = 4 * t + 1 from nI_clamp (by omega)]
  refine lv_aload_n hx hb dL_law_338 rfl (lv_at hl 0 rfl) ?_
  refine lv_iload hx hb dL_law_339 (lv_at hl 4 rfl) ?_
  refine lv_iconst (v := 2) hx hb dL_law_341 (by decide) ?_
  refine lv_iadd hx hb dL_law_342 ?_
  rw [show nI (4 * t) + 2 = nI (4 * t + 2) from nI_add (4 * t) 2]
  refine va_sld hx hb hX hbl (A := (fun q => s.heap.size ≤ q)) (Nat.not_le.mpr hbl) hS (i := nI (4 * t + 2)) (vp_in_nI (by omega) (by omega)) dL_law_343 ?_
  rw [show (nI (4 * t + 2)).toNatClampNeg = 4 * t + 2 from nI_clamp (by omega)]
  refine lv_aload_n hx hb dL_law_344 rfl (lv_at hl 3 rfl) ?_
  refine lk_stage hlt hx hb hml hown hB hl.1 hP hK hD hS hA hN hZ hC hnb hnb8 dL_law_345 (Nat.le_of_ble_eq_true rfl) (Nat.le_of_ble_eq_true rfl) ⟨by show 15 + t + 1 ≤ 1058; omega, by show 17393 + 6 * t + 6 ≤ 25699; omega⟩ (Nat.le_of_ble_eq_true rfl) (fun u H locs hu hP hD hS => ?_)
  refine lv_istore hx hb dL_law_348 hl (by decide) rfl (fun ls hl => ?_)
  have hl : lv_has ls 7 [(5, .int (nI (k_stage σ nb (xs (4 * t + 1)) (xs (4 * t + 2))))), (0, .ref b), (1, .ref (A 0)), (2, .ref (B 0)), (3, .ref O), (4, .int (nI (4 * t)))] := hl
  have hu1 : u.1 = if k_stage σ nb (xs (4 * t + 1)) (xs (4 * t + 2)) = 0 then s_stage σ nb (xs (4 * t + 1)) (xs (4 * t + 2)) else σ := by rw [hu]; exact hU_1 _ _ _ _ _
  refine lv_aload_n hx hb dL_law_350 rfl (lv_at hl 3 rfl) ?_
  refine lv_aload_n hx hb dL_law_351 rfl (lv_at hl 1 rfl) ?_
  refine lv_iload hx hb dL_law_352 (lv_at hl 5 rfl) ?_
  refine lv_iconst (v := 1) hx hb dL_law_354 (by decide) ?_
  refine lv_iadd hx hb dL_law_355 ?_
  rw [show nI (4 * t) + 1 = nI (4 * t + 1) from nI_add (4 * t) 1]
  refine va_sld hx hb hX hbl (A := (fun q => s.heap.size ≤ q)) (Nat.not_le.mpr hbl) hS (i := nI (4 * t + 1)) (vp_in_nI (by omega) (by omega)) dL_law_356 ?_
  rw [show (nI (4 * t + 1)).toNatClampNeg = 4 * t + 1 from nI_clamp (by omega)]
  refine lv_aload_n hx hb dL_law_357 rfl (lv_at hl 1 rfl) ?_
  refine lv_iload hx hb dL_law_358 (lv_at hl 5 rfl) ?_
  refine lv_iconst (v := 2) hx hb dL_law_360 (by decide) ?_
  refine lv_iadd hx hb dL_law_361 ?_
  rw [show nI (4 * t) + 2 = nI (4 * t + 2) from nI_add (4 * t) 2]
  refine va_sld hx hb hX hbl (A := (fun q => s.heap.size ≤ q)) (Nat.not_le.mpr hbl) hS (i := nI (4 * t + 2)) (vp_in_nI (by omega) (by omega)) dL_law_362 ?_
  rw [show (nI (4 * t + 2)).toNatClampNeg = 4 * t + 2 from nI_clamp (by omega)]
  refine lm_stage hx hb hml hown hB hl.1 hP hK hD hS hA hnm hnm8 dL_law_363 (Nat.le_of_ble_eq_true rfl) (Nat.le_of_ble_eq_true rfl) ⟨by show 15 + t + 1 ≤ 1058; omega, by show 17393 + 6 * t + 6 ≤ 25699; omega⟩ (Nat.le_of_ble_eq_true rfl) (fun r μ2 H locs hr2 hm hP hD hS => ?_)
  obtain ⟨hth, hk2, hRel⟩ := hsm.1
  rw [← hm] at hth hRel
  rw [← hu1] at hRel
  refine lv_istore hx hb dL_law_366 hl (by decide) rfl (fun ls hl => ?_)
  have hl : lv_has ls 7 [(6, .int r), (5, .int (nI (k_stage σ nb (xs (4 * t + 1)) (xs (4 * t + 2))))), (0, .ref b), (1, .ref (A 0)), (2, .ref (B 0)), (3, .ref O), (4, .int (nI (4 * t)))] := hl
  refine lv_aload_n hx hb dL_law_368 rfl (lv_at hl 4 rfl) ?_
  refine lr_X1thrown hx hb hml hown hB hl.1 hP hK hD hS hA dL_law_369 (Nat.le_of_ble_eq_true rfl) (Nat.le_of_ble_eq_true rfl) ⟨by show 15 + t + 1 ≤ 1058; omega, by show 17393 + 6 * t + 6 ≤ 25699; omega⟩ (Nat.le_of_ble_eq_true rfl) ?_
  refine lv_iload hx hb dL_law_372 (lv_at hl 1 rfl) ?_
  refine lv_icmp_eq (tgt := 379) hx hb dL_law_374 rfl (fun h1 => ?_) (fun h1 => ?_)
  · skip
    refine lv_iload hx hb dL_law_379 (lv_at hl 1 rfl) ?_
    refine lv_if_ne (tgt := 396) hx hb dL_law_381 rfl (fun h2 => ?_) (fun h2 => ?_)
    · skip
      refine lv_goto (tgt := 840) hx hb dL_law_396 rfl ?_
      refine W.widen (k := 15 + (t + 1)) (n := 17393 + 6 * (t + 1)) (by omega) (by omega) ?_
      exact k840 u.1 μ2 u.2 ls H locs hRel (lv_sub hl [2, 3, 4, 5, 6] rfl) hP hD hS
    · skip
      have hk0 : k_stage σ nb (xs (4 * t + 1)) (xs (4 * t + 2)) = 0 := nI_k0 hk2 h2
      have hu2 : u.2 0 = (nI (nb + 1)).toInt64 := by rw [hu]; exact hU_2 _ _ _ _ hk0
      have hrr := hsm.2 hk0
      refine lv_aload_n hx hb dL_law_384 rfl (lv_at hl 5 rfl) ?_
      refine lv_iconst (v := 0) hx hb dL_law_385 (by decide) ?_
      refine va_lald (D := (dC, dI)) (i := nI 0) hx hb hK hP 14 3 rfl rfl (vp_in_nI (by decide) (by decide)) dL_law_386 ?_
      rw [show (nI 0).toNatClampNeg = 0 from rfl]
      refine lv_iload hx hb dL_law_387 (lv_at hl 0 rfl) ?_
      refine lv_i2l (v := (r).toInt64) hx hb dL_law_389 rfl ?_
      refine W.lcmp hx hb dL_law_390 ?_
      refine lv_if_eq (tgt := 396) hx hb dL_law_391 rfl (fun h3 => ?_) (fun h3 => ?_)
      · skip
        refine lv_goto (tgt := 840) hx hb dL_law_396 rfl ?_
        refine W.widen (k := 15 + (t + 1)) (n := 17393 + 6 * (t + 1)) (by omega) (by omega) ?_
        exact k840 u.1 μ2 u.2 ls H locs hRel (lv_sub hl [2, 3, 4, 5, 6] rfl) hP hD hS
      · skip
        exact absurd ((lg_cmp_eq _ _).mpr (by rw [hu2, hr2, hrr])) h3
  · skip
    exact absurd hth h1
set_option maxHeartbeats 8000000 in
set_option maxRecDepth 100000 in
theorem lc_commit {p : Program} {e : Env} {s : State} {m : MethodId} {below : List Frame} {meth : Method} {c : Code} (l : Launch) {b L : Nat} {xs : Nat → Int32} (hlt : l.stackTraces = false) (hL : L ≤ 2048) (C0 : lw_At p s m meth c b L xs) {Rel : OS → NS → Prop} (hsim : simOK Rel) {t : Nat} (hti : 4 * t + 4 ≤ L) {dC : Nat → ClassId} {dI : Nat → Nat → Nat} {A : Nat → Nat} {cI : ClassId} {σ : OS} {B : Nat → Nat} {cI2 cZ : ClassId} {μ : NS} {O : Nat} {cJ : ClassId} {g : Nat → Int64} (hR : Rel σ μ) {ls : Array Slot} {H : Heap} {locs : List Loc} (hl : lv_has ls 7 [(0, .ref b), (1, .ref (A 0)), (2, .ref (B 0)), (3, .ref O), (4, .int (nI (4 * t)))]) (hP : va_P (dC, dI) vwCl (wL A cI σ B cI2 cZ μ O cJ g) H) (hK : va_K (dC, dI) vwCl (tyL cI cI2 cZ cJ) s) (hD : va_D (fun q => s.heap.size ≤ q) (wL A cI σ B cI2 cZ μ O cJ g)) (hS : va_S (fun q => s.heap.size ≤ q) s.heap H locs) (hN : xN s) (hZ : xZ (fun q => s.heap.size ≤ q) s) (hC : xC s) (k840 : ∀ (σ : OS) (μ : NS) (g : Nat → Int64) (ls : Array Slot) (H : Heap) (locs : List Loc), Rel σ μ → lv_has ls 7 [(0, .ref b), (1, .ref (A 0)), (2, .ref (B 0)), (3, .ref O), (4, .int (nI (4 * t)))] → va_P (dC, dI) vwCl (wL A cI σ B cI2 cZ μ O cJ g) H → va_D (fun q => s.heap.size ≤ q) (wL A cI σ B cI2 cZ μ O cJ g) → va_S (fun q => s.heap.size ≤ q) s.heap H locs → W p l e room_1 s m #[Value.ref b] below meth c H locs (15 + (t + 1)) (17393 + 6 * (t + 1)) (lw_Z below #[Value.ref b] s) (F0 m 840 ls [])) : W p l e room_1 s m #[Value.ref b] below meth c H locs (15 + t) (17393 + 6 * t) (lw_Z below #[Value.ref b] s) (F0 m 399 ls []) := by
  obtain ⟨hx, hb, hr, hml, hown, hts, hX, hbl, hlocks, hgv⟩ := C0
  have hB : ∀ w ∈ bW, w.before _ s = true := fun w h => hts w (bW_tbl w h)
  have hA : ∀ q : Nat, s.heap.size ≤ q → (fun q => s.heap.size ≤ q) q := fun q h => h
  have hsm := (hsim.2 σ μ hR).2.2.2.2.1
  obtain ⟨nb, nm, hnb8, hnm8, hnb, hnm, -, hst⟩ := hsm
  have hsm := hst
  refine lv_aload_n hx hb dL_law_399 rfl (lv_at hl 1 rfl) ?_
  refine lv_aload_n hx hb dL_law_400 rfl (lv_at hl 3 rfl) ?_
  refine lk_commit hlt hx hb hml hown hB hl.1 hP hK hD hS hA hN hZ hC hnb hnb8 dL_law_401 (Nat.le_of_ble_eq_true rfl) (Nat.le_of_ble_eq_true rfl) ⟨by show 15 + t + 1 ≤ 1058; omega, by show 17393 + 6 * t + 6 ≤ 25699; omega⟩ (Nat.le_of_ble_eq_true rfl) (fun u H locs hu hP hD hS => ?_)
  refine lv_istore hx hb dL_law_404 hl (by decide) rfl (fun ls hl => ?_)
  have hl : lv_has ls 7 [(5, .int (nI (k_open σ))), (0, .ref b), (1, .ref (A 0)), (2, .ref (B 0)), (3, .ref O), (4, .int (nI (4 * t)))] := hl
  have hu1 : u.1 = if k_open σ = 0 then s_commit σ nb else σ := by rw [hu]; exact hU_1 _ _ _ _ _
  refine lv_aload_n hx hb dL_law_406 rfl (lv_at hl 3 rfl) ?_
  refine lm_commit hx hb hml hown hB hl.1 hP hK hD hS hA hnm hnm8 dL_law_407 (Nat.le_of_ble_eq_true rfl) (Nat.le_of_ble_eq_true rfl) ⟨by show 15 + t + 1 ≤ 1058; omega, by show 17393 + 6 * t + 6 ≤ 25699; omega⟩ (Nat.le_of_ble_eq_true rfl) (fun r μ2 H locs hr2 hm hP hD hS => ?_)
  obtain ⟨hth, hk2, hRel⟩ := hsm.1
  rw [← hm] at hth hRel
  rw [← hu1] at hRel
  refine lv_istore hx hb dL_law_410 hl (by decide) rfl (fun ls hl => ?_)
  have hl : lv_has ls 7 [(6, .int r), (5, .int (nI (k_open σ))), (0, .ref b), (1, .ref (A 0)), (2, .ref (B 0)), (3, .ref O), (4, .int (nI (4 * t)))] := hl
  refine lv_aload_n hx hb dL_law_412 rfl (lv_at hl 4 rfl) ?_
  refine lr_X1thrown hx hb hml hown hB hl.1 hP hK hD hS hA dL_law_413 (Nat.le_of_ble_eq_true rfl) (Nat.le_of_ble_eq_true rfl) ⟨by show 15 + t + 1 ≤ 1058; omega, by show 17393 + 6 * t + 6 ≤ 25699; omega⟩ (Nat.le_of_ble_eq_true rfl) ?_
  refine lv_iload hx hb dL_law_416 (lv_at hl 1 rfl) ?_
  refine lv_icmp_eq (tgt := 423) hx hb dL_law_418 rfl (fun h1 => ?_) (fun h1 => ?_)
  · skip
    refine lv_iload hx hb dL_law_423 (lv_at hl 1 rfl) ?_
    refine lv_if_ne (tgt := 440) hx hb dL_law_425 rfl (fun h2 => ?_) (fun h2 => ?_)
    · skip
      refine lv_goto (tgt := 840) hx hb dL_law_440 rfl ?_
      refine W.widen (k := 15 + (t + 1)) (n := 17393 + 6 * (t + 1)) (by omega) (by omega) ?_
      exact k840 u.1 μ2 u.2 ls H locs hRel (lv_sub hl [2, 3, 4, 5, 6] rfl) hP hD hS
    · skip
      have hk0 : k_open σ = 0 := nI_k0 hk2 h2
      have hu2 : u.2 0 = (r_commit σ nb).toInt64 := by rw [hu]; exact hU_2 _ _ _ _ hk0
      have hrr := hsm.2 hk0
      refine lv_aload_n hx hb dL_law_428 rfl (lv_at hl 5 rfl) ?_
      refine lv_iconst (v := 0) hx hb dL_law_429 (by decide) ?_
      refine va_lald (D := (dC, dI)) (i := nI 0) hx hb hK hP 14 3 rfl rfl (vp_in_nI (by decide) (by decide)) dL_law_430 ?_
      rw [show (nI 0).toNatClampNeg = 0 from rfl]
      refine lv_iload hx hb dL_law_431 (lv_at hl 0 rfl) ?_
      refine lv_i2l (v := (r).toInt64) hx hb dL_law_433 rfl ?_
      refine W.lcmp hx hb dL_law_434 ?_
      refine lv_if_eq (tgt := 440) hx hb dL_law_435 rfl (fun h3 => ?_) (fun h3 => ?_)
      · skip
        refine lv_goto (tgt := 840) hx hb dL_law_440 rfl ?_
        refine W.widen (k := 15 + (t + 1)) (n := 17393 + 6 * (t + 1)) (by omega) (by omega) ?_
        exact k840 u.1 μ2 u.2 ls H locs hRel (lv_sub hl [2, 3, 4, 5, 6] rfl) hP hD hS
      · skip
        exact absurd ((lg_cmp_eq _ _).mpr (by rw [hu2, hr2, hrr])) h3
  · skip
    exact absurd hth h1
set_option maxHeartbeats 8000000 in
set_option maxRecDepth 100000 in
theorem lc_abandon {p : Program} {e : Env} {s : State} {m : MethodId} {below : List Frame} {meth : Method} {c : Code} (l : Launch) {b L : Nat} {xs : Nat → Int32} (hlt : l.stackTraces = false) (hL : L ≤ 2048) (C0 : lw_At p s m meth c b L xs) {Rel : OS → NS → Prop} (hsim : simOK Rel) {t : Nat} (hti : 4 * t + 4 ≤ L) {dC : Nat → ClassId} {dI : Nat → Nat → Nat} {A : Nat → Nat} {cI : ClassId} {σ : OS} {B : Nat → Nat} {cI2 cZ : ClassId} {μ : NS} {O : Nat} {cJ : ClassId} {g : Nat → Int64} (hR : Rel σ μ) {ls : Array Slot} {H : Heap} {locs : List Loc} (hl : lv_has ls 7 [(0, .ref b), (1, .ref (A 0)), (2, .ref (B 0)), (3, .ref O), (4, .int (nI (4 * t)))]) (hP : va_P (dC, dI) vwCl (wL A cI σ B cI2 cZ μ O cJ g) H) (hK : va_K (dC, dI) vwCl (tyL cI cI2 cZ cJ) s) (hD : va_D (fun q => s.heap.size ≤ q) (wL A cI σ B cI2 cZ μ O cJ g)) (hS : va_S (fun q => s.heap.size ≤ q) s.heap H locs) (hN : xN s) (hZ : xZ (fun q => s.heap.size ≤ q) s) (hC : xC s) (k840 : ∀ (σ : OS) (μ : NS) (g : Nat → Int64) (ls : Array Slot) (H : Heap) (locs : List Loc), Rel σ μ → lv_has ls 7 [(0, .ref b), (1, .ref (A 0)), (2, .ref (B 0)), (3, .ref O), (4, .int (nI (4 * t)))] → va_P (dC, dI) vwCl (wL A cI σ B cI2 cZ μ O cJ g) H → va_D (fun q => s.heap.size ≤ q) (wL A cI σ B cI2 cZ μ O cJ g) → va_S (fun q => s.heap.size ≤ q) s.heap H locs → W p l e room_1 s m #[Value.ref b] below meth c H locs (15 + (t + 1)) (17393 + 6 * (t + 1)) (lw_Z below #[Value.ref b] s) (F0 m 840 ls [])) : W p l e room_1 s m #[Value.ref b] below meth c H locs (15 + t) (17393 + 6 * t) (lw_Z below #[Value.ref b] s) (F0 m 443 ls []) := by
  obtain ⟨hx, hb, hr, hml, hown, hts, hX, hbl, hlocks, hgv⟩ := C0
  have hB : ∀ w ∈ bW, w.before _ s = true := fun w h => hts w (bW_tbl w h)
  have hA : ∀ q : Nat, s.heap.size ≤ q → (fun q => s.heap.size ≤ q) q := fun q h => h
  have hsm := (hsim.2 σ μ hR).2.2.2.2.2.1
  refine lv_aload_n hx hb dL_law_443 rfl (lv_at hl 1 rfl) ?_
  refine lv_aload_n hx hb dL_law_444 rfl (lv_at hl 3 rfl) ?_
  refine lk_abandon hlt hx hb hml hown hB hl.1 hP hK hD hS hA hN hZ hC  dL_law_445 (Nat.le_of_ble_eq_true rfl) (Nat.le_of_ble_eq_true rfl) ⟨by show 15 + t + 1 ≤ 1058; omega, by show 17393 + 6 * t + 6 ≤ 25699; omega⟩ (Nat.le_of_ble_eq_true rfl) (fun u H locs hu hP hD hS => ?_)
  refine lv_istore hx hb dL_law_448 hl (by decide) rfl (fun ls hl => ?_)
  have hl : lv_has ls 7 [(5, .int (nI (k_open σ))), (0, .ref b), (1, .ref (A 0)), (2, .ref (B 0)), (3, .ref O), (4, .int (nI (4 * t)))] := hl
  have hu1 : u.1 = if k_open σ = 0 then f_close σ else σ := by rw [hu]; exact hU_1 _ _ _ _ _
  refine lv_aload_n hx hb dL_law_450 rfl (lv_at hl 3 rfl) ?_
  refine lm_abandon hx hb hml hown hB hl.1 hP hK hD hS hA  dL_law_451 (Nat.le_of_ble_eq_true rfl) (Nat.le_of_ble_eq_true rfl) ⟨by show 15 + t + 1 ≤ 1058; omega, by show 17393 + 6 * t + 6 ≤ 25699; omega⟩ (Nat.le_of_ble_eq_true rfl) (fun r μ2 H locs hr2 hm hP hD hS => ?_)
  obtain ⟨hth, hk2, hRel⟩ := hsm.1
  rw [← hm] at hth hRel
  rw [← hu1] at hRel
  refine lv_istore hx hb dL_law_454 hl (by decide) rfl (fun ls hl => ?_)
  have hl : lv_has ls 7 [(6, .int r), (5, .int (nI (k_open σ))), (0, .ref b), (1, .ref (A 0)), (2, .ref (B 0)), (3, .ref O), (4, .int (nI (4 * t)))] := hl
  refine lv_aload_n hx hb dL_law_456 rfl (lv_at hl 4 rfl) ?_
  refine lr_X1thrown hx hb hml hown hB hl.1 hP hK hD hS hA dL_law_457 (Nat.le_of_ble_eq_true rfl) (Nat.le_of_ble_eq_true rfl) ⟨by show 15 + t + 1 ≤ 1058; omega, by show 17393 + 6 * t + 6 ≤ 25699; omega⟩ (Nat.le_of_ble_eq_true rfl) ?_
  refine lv_iload hx hb dL_law_460 (lv_at hl 1 rfl) ?_
  refine lv_icmp_eq (tgt := 467) hx hb dL_law_462 rfl (fun h1 => ?_) (fun h1 => ?_)
  · skip
    refine lv_iload hx hb dL_law_467 (lv_at hl 1 rfl) ?_
    refine lv_if_ne (tgt := 484) hx hb dL_law_469 rfl (fun h2 => ?_) (fun h2 => ?_)
    · skip
      refine lv_goto (tgt := 840) hx hb dL_law_484 rfl ?_
      refine W.widen (k := 15 + (t + 1)) (n := 17393 + 6 * (t + 1)) (by omega) (by omega) ?_
      exact k840 u.1 μ2 u.2 ls H locs hRel (lv_sub hl [2, 3, 4, 5, 6] rfl) hP hD hS
    · skip
      have hk0 : k_open σ = 0 := nI_k0 hk2 h2
      have hu2 : u.2 0 = (oBs σ).toInt64 := by rw [hu]; exact hU_2 _ _ _ _ hk0
      have hrr := hsm.2 hk0
      refine lv_aload_n hx hb dL_law_472 rfl (lv_at hl 5 rfl) ?_
      refine lv_iconst (v := 0) hx hb dL_law_473 (by decide) ?_
      refine va_lald (D := (dC, dI)) (i := nI 0) hx hb hK hP 14 3 rfl rfl (vp_in_nI (by decide) (by decide)) dL_law_474 ?_
      rw [show (nI 0).toNatClampNeg = 0 from rfl]
      refine lv_iload hx hb dL_law_475 (lv_at hl 0 rfl) ?_
      refine lv_i2l (v := (r).toInt64) hx hb dL_law_477 rfl ?_
      refine W.lcmp hx hb dL_law_478 ?_
      refine lv_if_eq (tgt := 484) hx hb dL_law_479 rfl (fun h3 => ?_) (fun h3 => ?_)
      · skip
        refine lv_goto (tgt := 840) hx hb dL_law_484 rfl ?_
        refine W.widen (k := 15 + (t + 1)) (n := 17393 + 6 * (t + 1)) (by omega) (by omega) ?_
        exact k840 u.1 μ2 u.2 ls H locs hRel (lv_sub hl [2, 3, 4, 5, 6] rfl) hP hD hS
      · skip
        exact absurd ((lg_cmp_eq _ _).mpr (by rw [hu2, hr2, hrr])) h3
  · skip
    exact absurd hth h1
set_option maxHeartbeats 8000000 in
set_option maxRecDepth 100000 in
theorem lc_left {p : Program} {e : Env} {s : State} {m : MethodId} {below : List Frame} {meth : Method} {c : Code} (l : Launch) {b L : Nat} {xs : Nat → Int32} (hlt : l.stackTraces = false) (hL : L ≤ 2048) (C0 : lw_At p s m meth c b L xs) {Rel : OS → NS → Prop} (hsim : simOK Rel) {t : Nat} (hti : 4 * t + 4 ≤ L) {dC : Nat → ClassId} {dI : Nat → Nat → Nat} {A : Nat → Nat} {cI : ClassId} {σ : OS} {B : Nat → Nat} {cI2 cZ : ClassId} {μ : NS} {O : Nat} {cJ : ClassId} {g : Nat → Int64} (hR : Rel σ μ) {ls : Array Slot} {H : Heap} {locs : List Loc} (hl : lv_has ls 7 [(0, .ref b), (1, .ref (A 0)), (2, .ref (B 0)), (3, .ref O), (4, .int (nI (4 * t)))]) (hP : va_P (dC, dI) vwCl (wL A cI σ B cI2 cZ μ O cJ g) H) (hK : va_K (dC, dI) vwCl (tyL cI cI2 cZ cJ) s) (hD : va_D (fun q => s.heap.size ≤ q) (wL A cI σ B cI2 cZ μ O cJ g)) (hS : va_S (fun q => s.heap.size ≤ q) s.heap H locs) (hN : xN s) (hZ : xZ (fun q => s.heap.size ≤ q) s) (hC : xC s) (k840 : ∀ (σ : OS) (μ : NS) (g : Nat → Int64) (ls : Array Slot) (H : Heap) (locs : List Loc), Rel σ μ → lv_has ls 7 [(0, .ref b), (1, .ref (A 0)), (2, .ref (B 0)), (3, .ref O), (4, .int (nI (4 * t)))] → va_P (dC, dI) vwCl (wL A cI σ B cI2 cZ μ O cJ g) H → va_D (fun q => s.heap.size ≤ q) (wL A cI σ B cI2 cZ μ O cJ g) → va_S (fun q => s.heap.size ≤ q) s.heap H locs → W p l e room_1 s m #[Value.ref b] below meth c H locs (15 + (t + 1)) (17393 + 6 * (t + 1)) (lw_Z below #[Value.ref b] s) (F0 m 840 ls [])) : W p l e room_1 s m #[Value.ref b] below meth c H locs (15 + t) (17393 + 6 * t) (lw_Z below #[Value.ref b] s) (F0 m 487 ls []) := by
  obtain ⟨hx, hb, hr, hml, hown, hts, hX, hbl, hlocks, hgv⟩ := C0
  have hB : ∀ w ∈ bW, w.before _ s = true := fun w h => hts w (bW_tbl w h)
  have hA : ∀ q : Nat, s.heap.size ≤ q → (fun q => s.heap.size ≤ q) q := fun q h => h
  have hsm := (hsim.2 σ μ hR).2.2.2.2.2.2.1 (xs (4 * t + 1))
  refine lv_aload_n hx hb dL_law_487 rfl (lv_at hl 1 rfl) ?_
  refine lv_aload_n hx hb dL_law_488 rfl (lv_at hl 0 rfl) ?_
  refine lv_iload hx hb dL_law_489 (lv_at hl 4 rfl) ?_
  refine lv_iconst (v := 1) hx hb dL_law_491 (by decide) ?_
  refine lv_iadd hx hb dL_law_492 ?_
  rw [show nI (4 * t) + 1 = nI (4 * t + 1) from nI_add (4 * t) 1]
  refine va_sld hx hb hX hbl (A := (fun q => s.heap.size ≤ q)) (Nat.not_le.mpr hbl) hS (i := nI (4 * t + 1)) (vp_in_nI (by omega) (by omega)) dL_law_493 ?_
  rw [show (nI (4 * t + 1)).toNatClampNeg = 4 * t + 1 from nI_clamp (by omega)]
  refine lv_aload_n hx hb dL_law_494 rfl (lv_at hl 3 rfl) ?_
  refine lk_left hlt hx hb hml hown hB hl.1 hP hK hD hS hA hN hZ hC  dL_law_495 (Nat.le_of_ble_eq_true rfl) (Nat.le_of_ble_eq_true rfl) ⟨by show 15 + t + 1 ≤ 1058; omega, by show 17393 + 6 * t + 6 ≤ 25699; omega⟩ (Nat.le_of_ble_eq_true rfl) (fun u H locs hu hP hD hS => ?_)
  refine lv_istore hx hb dL_law_498 hl (by decide) rfl (fun ls hl => ?_)
  have hl : lv_has ls 7 [(5, .int (nI (k_left (xs (4 * t + 1))))), (0, .ref b), (1, .ref (A 0)), (2, .ref (B 0)), (3, .ref O), (4, .int (nI (4 * t)))] := hl
  have hu1 : u.1 = if k_left (xs (4 * t + 1)) = 0 then σ else σ := by rw [hu]; exact hU_1 _ _ _ _ _
  refine lv_aload_n hx hb dL_law_500 rfl (lv_at hl 3 rfl) ?_
  refine lv_aload_n hx hb dL_law_501 rfl (lv_at hl 1 rfl) ?_
  refine lv_iload hx hb dL_law_502 (lv_at hl 5 rfl) ?_
  refine lv_iconst (v := 1) hx hb dL_law_504 (by decide) ?_
  refine lv_iadd hx hb dL_law_505 ?_
  rw [show nI (4 * t) + 1 = nI (4 * t + 1) from nI_add (4 * t) 1]
  refine va_sld hx hb hX hbl (A := (fun q => s.heap.size ≤ q)) (Nat.not_le.mpr hbl) hS (i := nI (4 * t + 1)) (vp_in_nI (by omega) (by omega)) dL_law_506 ?_
  rw [show (nI (4 * t + 1)).toNatClampNeg = 4 * t + 1 from nI_clamp (by omega)]
  refine lm_left hx hb hml hown hB hl.1 hP hK hD hS hA  dL_law_507 (Nat.le_of_ble_eq_true rfl) (Nat.le_of_ble_eq_true rfl) ⟨by show 15 + t + 1 ≤ 1058; omega, by show 17393 + 6 * t + 6 ≤ 25699; omega⟩ (Nat.le_of_ble_eq_true rfl) (fun r μ2 H locs hr2 hm hP hD hS => ?_)
  obtain ⟨hth, hk2, hRel⟩ := hsm.1
  rw [← hm] at hth hRel
  rw [← hu1] at hRel
  refine lv_istore hx hb dL_law_510 hl (by decide) rfl (fun ls hl => ?_)
  have hl : lv_has ls 7 [(6, .int r), (5, .int (nI (k_left (xs (4 * t + 1))))), (0, .ref b), (1, .ref (A 0)), (2, .ref (B 0)), (3, .ref O), (4, .int (nI (4 * t)))] := hl
  refine lv_aload_n hx hb dL_law_512 rfl (lv_at hl 4 rfl) ?_
  refine lr_X1thrown hx hb hml hown hB hl.1 hP hK hD hS hA dL_law_513 (Nat.le_of_ble_eq_true rfl) (Nat.le_of_ble_eq_true rfl) ⟨by show 15 + t + 1 ≤ 1058; omega, by show 17393 + 6 * t + 6 ≤ 25699; omega⟩ (Nat.le_of_ble_eq_true rfl) ?_
  refine lv_iload hx hb dL_law_516 (lv_at hl 1 rfl) ?_
  refine lv_icmp_eq (tgt := 523) hx hb dL_law_518 rfl (fun h1 => ?_) (fun h1 => ?_)
  · skip
    refine lv_iload hx hb dL_law_523 (lv_at hl 1 rfl) ?_
    refine lv_if_ne (tgt := 540) hx hb dL_law_525 rfl (fun h2 => ?_) (fun h2 => ?_)
    · skip
      refine lv_goto (tgt := 840) hx hb dL_law_540 rfl ?_
      refine W.widen (k := 15 + (t + 1)) (n := 17393 + 6 * (t + 1)) (by omega) (by omega) ?_
      exact k840 u.1 μ2 u.2 ls H locs hRel (lv_sub hl [2, 3, 4, 5, 6] rfl) hP hD hS
    · skip
      have hk0 : k_left (xs (4 * t + 1)) = 0 := nI_k0 hk2 h2
      have hu2 : u.2 0 = (r_left σ (xs (4 * t + 1))).toInt64 := by rw [hu]; exact hU_2 _ _ _ _ hk0
      have hrr := hsm.2 hk0
      refine lv_aload_n hx hb dL_law_528 rfl (lv_at hl 5 rfl) ?_
      refine lv_iconst (v := 0) hx hb dL_law_529 (by decide) ?_
      refine va_lald (D := (dC, dI)) (i := nI 0) hx hb hK hP 14 3 rfl rfl (vp_in_nI (by decide) (by decide)) dL_law_530 ?_
      rw [show (nI 0).toNatClampNeg = 0 from rfl]
      refine lv_iload hx hb dL_law_531 (lv_at hl 0 rfl) ?_
      refine lv_i2l (v := (r).toInt64) hx hb dL_law_533 rfl ?_
      refine W.lcmp hx hb dL_law_534 ?_
      refine lv_if_eq (tgt := 540) hx hb dL_law_535 rfl (fun h3 => ?_) (fun h3 => ?_)
      · skip
        refine lv_goto (tgt := 840) hx hb dL_law_540 rfl ?_
        refine W.widen (k := 15 + (t + 1)) (n := 17393 + 6 * (t + 1)) (by omega) (by omega) ?_
        exact k840 u.1 μ2 u.2 ls H locs hRel (lv_sub hl [2, 3, 4, 5, 6] rfl) hP hD hS
      · skip
        exact absurd ((lg_cmp_eq _ _).mpr (by rw [hu2, hr2, hrr])) h3
  · skip
    exact absurd hth h1
set_option maxHeartbeats 8000000 in
set_option maxRecDepth 100000 in
theorem lc_cell {p : Program} {e : Env} {s : State} {m : MethodId} {below : List Frame} {meth : Method} {c : Code} (l : Launch) {b L : Nat} {xs : Nat → Int32} (hlt : l.stackTraces = false) (hL : L ≤ 2048) (C0 : lw_At p s m meth c b L xs) {Rel : OS → NS → Prop} (hsim : simOK Rel) {t : Nat} (hti : 4 * t + 4 ≤ L) {dC : Nat → ClassId} {dI : Nat → Nat → Nat} {A : Nat → Nat} {cI : ClassId} {σ : OS} {B : Nat → Nat} {cI2 cZ : ClassId} {μ : NS} {O : Nat} {cJ : ClassId} {g : Nat → Int64} (hR : Rel σ μ) {ls : Array Slot} {H : Heap} {locs : List Loc} (hl : lv_has ls 7 [(0, .ref b), (1, .ref (A 0)), (2, .ref (B 0)), (3, .ref O), (4, .int (nI (4 * t)))]) (hP : va_P (dC, dI) vwCl (wL A cI σ B cI2 cZ μ O cJ g) H) (hK : va_K (dC, dI) vwCl (tyL cI cI2 cZ cJ) s) (hD : va_D (fun q => s.heap.size ≤ q) (wL A cI σ B cI2 cZ μ O cJ g)) (hS : va_S (fun q => s.heap.size ≤ q) s.heap H locs) (hN : xN s) (hZ : xZ (fun q => s.heap.size ≤ q) s) (hC : xC s) (k840 : ∀ (σ : OS) (μ : NS) (g : Nat → Int64) (ls : Array Slot) (H : Heap) (locs : List Loc), Rel σ μ → lv_has ls 7 [(0, .ref b), (1, .ref (A 0)), (2, .ref (B 0)), (3, .ref O), (4, .int (nI (4 * t)))] → va_P (dC, dI) vwCl (wL A cI σ B cI2 cZ μ O cJ g) H → va_D (fun q => s.heap.size ≤ q) (wL A cI σ B cI2 cZ μ O cJ g) → va_S (fun q => s.heap.size ≤ q) s.heap H locs → W p l e room_1 s m #[Value.ref b] below meth c H locs (15 + (t + 1)) (17393 + 6 * (t + 1)) (lw_Z below #[Value.ref b] s) (F0 m 840 ls [])) : W p l e room_1 s m #[Value.ref b] below meth c H locs (15 + t) (17393 + 6 * t) (lw_Z below #[Value.ref b] s) (F0 m 543 ls []) := by
  obtain ⟨hx, hb, hr, hml, hown, hts, hX, hbl, hlocks, hgv⟩ := C0
  have hB : ∀ w ∈ bW, w.before _ s = true := fun w h => hts w (bW_tbl w h)
  have hA : ∀ q : Nat, s.heap.size ≤ q → (fun q => s.heap.size ≤ q) q := fun q h => h
  have hsm := (hsim.2 σ μ hR).2.2.2.2.2.2.2.1 (xs (4 * t + 1)) (xs (4 * t + 2)) (xs (4 * t + 3))
  refine lv_aload_n hx hb dL_law_543 rfl (lv_at hl 1 rfl) ?_
  refine lv_aload_n hx hb dL_law_544 rfl (lv_at hl 0 rfl) ?_
  refine lv_iload hx hb dL_law_545 (lv_at hl 4 rfl) ?_
  refine lv_iconst (v := 1) hx hb dL_law_547 (by decide) ?_
  refine lv_iadd hx hb dL_law_548 ?_
  rw [show nI (4 * t) + 1 = nI (4 * t + 1) from nI_add (4 * t) 1]
  refine va_sld hx hb hX hbl (A := (fun q => s.heap.size ≤ q)) (Nat.not_le.mpr hbl) hS (i := nI (4 * t + 1)) (vp_in_nI (by omega) (by omega)) dL_law_549 ?_
  rw [show (nI (4 * t + 1)).toNatClampNeg = 4 * t + 1 from nI_clamp (by omega)]
  refine lv_aload_n hx hb dL_law_550 rfl (lv_at hl 0 rfl) ?_
  refine lv_iload hx hb dL_law_551 (lv_at hl 4 rfl) ?_
  refine lv_iconst (v := 2) hx hb dL_law_553 (by decide) ?_
  refine lv_iadd hx hb dL_law_554 ?_
  rw [show nI (4 * t) + 2 = nI (4 * t + 2) from nI_add (4 * t) 2]
  refine va_sld hx hb hX hbl (A := (fun q => s.heap.size ≤ q)) (Nat.not_le.mpr hbl) hS (i := nI (4 * t + 2)) (vp_in_nI (by omega) (by omega)) dL_law_555 ?_
  rw [show (nI (4 * t + 2)).toNatClampNeg = 4 * t + 2 from nI_clamp (by omega)]
  refine lv_aload_n hx hb dL_law_556 rfl (lv_at hl 0 rfl) ?_
  refine lv_iload hx hb dL_law_557 (lv_at hl 4 rfl) ?_
  refine lv_iconst (v := 3) hx hb dL_law_559 (by decide) ?_
  refine lv_iadd hx hb dL_law_560 ?_
  rw [show nI (4 * t) + 3 = nI (4 * t + 3) from nI_add (4 * t) 3]
  refine va_sld hx hb hX hbl (A := (fun q => s.heap.size ≤ q)) (Nat.not_le.mpr hbl) hS (i := nI (4 * t + 3)) (vp_in_nI (by omega) (by omega)) dL_law_561 ?_
  rw [show (nI (4 * t + 3)).toNatClampNeg = 4 * t + 3 from nI_clamp (by omega)]
  refine lv_aload_n hx hb dL_law_562 rfl (lv_at hl 3 rfl) ?_
  refine lk_cell hlt hx hb hml hown hB hl.1 hP hK hD hS hA hN hZ hC  dL_law_563 (Nat.le_of_ble_eq_true rfl) (Nat.le_of_ble_eq_true rfl) ⟨by show 15 + t + 1 ≤ 1058; omega, by show 17393 + 6 * t + 6 ≤ 25699; omega⟩ (Nat.le_of_ble_eq_true rfl) (fun u H locs hu hP hD hS => ?_)
  refine lv_istore hx hb dL_law_566 hl (by decide) rfl (fun ls hl => ?_)
  have hl : lv_has ls 7 [(5, .int (nI (k_cell (xs (4 * t + 1)) (xs (4 * t + 2)) (xs (4 * t + 3))))), (0, .ref b), (1, .ref (A 0)), (2, .ref (B 0)), (3, .ref O), (4, .int (nI (4 * t)))] := hl
  have hu1 : u.1 = if k_cell (xs (4 * t + 1)) (xs (4 * t + 2)) (xs (4 * t + 3)) = 0 then σ else σ := by rw [hu]; exact hU_1 _ _ _ _ _
  refine lv_aload_n hx hb dL_law_568 rfl (lv_at hl 3 rfl) ?_
  refine lv_aload_n hx hb dL_law_569 rfl (lv_at hl 1 rfl) ?_
  refine lv_iload hx hb dL_law_570 (lv_at hl 5 rfl) ?_
  refine lv_iconst (v := 1) hx hb dL_law_572 (by decide) ?_
  refine lv_iadd hx hb dL_law_573 ?_
  rw [show nI (4 * t) + 1 = nI (4 * t + 1) from nI_add (4 * t) 1]
  refine va_sld hx hb hX hbl (A := (fun q => s.heap.size ≤ q)) (Nat.not_le.mpr hbl) hS (i := nI (4 * t + 1)) (vp_in_nI (by omega) (by omega)) dL_law_574 ?_
  rw [show (nI (4 * t + 1)).toNatClampNeg = 4 * t + 1 from nI_clamp (by omega)]
  refine lv_aload_n hx hb dL_law_575 rfl (lv_at hl 1 rfl) ?_
  refine lv_iload hx hb dL_law_576 (lv_at hl 5 rfl) ?_
  refine lv_iconst (v := 2) hx hb dL_law_578 (by decide) ?_
  refine lv_iadd hx hb dL_law_579 ?_
  rw [show nI (4 * t) + 2 = nI (4 * t + 2) from nI_add (4 * t) 2]
  refine va_sld hx hb hX hbl (A := (fun q => s.heap.size ≤ q)) (Nat.not_le.mpr hbl) hS (i := nI (4 * t + 2)) (vp_in_nI (by omega) (by omega)) dL_law_580 ?_
  rw [show (nI (4 * t + 2)).toNatClampNeg = 4 * t + 2 from nI_clamp (by omega)]
  refine lv_aload_n hx hb dL_law_581 rfl (lv_at hl 1 rfl) ?_
  refine lv_iload hx hb dL_law_582 (lv_at hl 5 rfl) ?_
  refine lv_iconst (v := 3) hx hb dL_law_584 (by decide) ?_
  refine lv_iadd hx hb dL_law_585 ?_
  rw [show nI (4 * t) + 3 = nI (4 * t + 3) from nI_add (4 * t) 3]
  refine va_sld hx hb hX hbl (A := (fun q => s.heap.size ≤ q)) (Nat.not_le.mpr hbl) hS (i := nI (4 * t + 3)) (vp_in_nI (by omega) (by omega)) dL_law_586 ?_
  rw [show (nI (4 * t + 3)).toNatClampNeg = 4 * t + 3 from nI_clamp (by omega)]
  refine lm_cell hx hb hml hown hB hl.1 hP hK hD hS hA  dL_law_587 (Nat.le_of_ble_eq_true rfl) (Nat.le_of_ble_eq_true rfl) ⟨by show 15 + t + 1 ≤ 1058; omega, by show 17393 + 6 * t + 6 ≤ 25699; omega⟩ (Nat.le_of_ble_eq_true rfl) (fun r μ2 H locs hr2 hm hP hD hS => ?_)
  obtain ⟨hth, hk2, hRel⟩ := hsm.1
  rw [← hm] at hth hRel
  rw [← hu1] at hRel
  refine lv_istore hx hb dL_law_590 hl (by decide) rfl (fun ls hl => ?_)
  have hl : lv_has ls 7 [(6, .int r), (5, .int (nI (k_cell (xs (4 * t + 1)) (xs (4 * t + 2)) (xs (4 * t + 3))))), (0, .ref b), (1, .ref (A 0)), (2, .ref (B 0)), (3, .ref O), (4, .int (nI (4 * t)))] := hl
  refine lv_aload_n hx hb dL_law_592 rfl (lv_at hl 4 rfl) ?_
  refine lr_X1thrown hx hb hml hown hB hl.1 hP hK hD hS hA dL_law_593 (Nat.le_of_ble_eq_true rfl) (Nat.le_of_ble_eq_true rfl) ⟨by show 15 + t + 1 ≤ 1058; omega, by show 17393 + 6 * t + 6 ≤ 25699; omega⟩ (Nat.le_of_ble_eq_true rfl) ?_
  refine lv_iload hx hb dL_law_596 (lv_at hl 1 rfl) ?_
  refine lv_icmp_eq (tgt := 603) hx hb dL_law_598 rfl (fun h1 => ?_) (fun h1 => ?_)
  · skip
    refine lv_iload hx hb dL_law_603 (lv_at hl 1 rfl) ?_
    refine lv_if_ne (tgt := 620) hx hb dL_law_605 rfl (fun h2 => ?_) (fun h2 => ?_)
    · skip
      refine lv_goto (tgt := 840) hx hb dL_law_620 rfl ?_
      refine W.widen (k := 15 + (t + 1)) (n := 17393 + 6 * (t + 1)) (by omega) (by omega) ?_
      exact k840 u.1 μ2 u.2 ls H locs hRel (lv_sub hl [2, 3, 4, 5, 6] rfl) hP hD hS
    · skip
      have hk0 : k_cell (xs (4 * t + 1)) (xs (4 * t + 2)) (xs (4 * t + 3)) = 0 := nI_k0 hk2 h2
      have hu2 : u.2 0 = (r_cell σ (xs (4 * t + 1)) (xs (4 * t + 2)) (xs (4 * t + 3))).toInt64 := by rw [hu]; exact hU_2 _ _ _ _ hk0
      have hrr := hsm.2 hk0
      refine lv_aload_n hx hb dL_law_608 rfl (lv_at hl 5 rfl) ?_
      refine lv_iconst (v := 0) hx hb dL_law_609 (by decide) ?_
      refine va_lald (D := (dC, dI)) (i := nI 0) hx hb hK hP 14 3 rfl rfl (vp_in_nI (by decide) (by decide)) dL_law_610 ?_
      rw [show (nI 0).toNatClampNeg = 0 from rfl]
      refine lv_iload hx hb dL_law_611 (lv_at hl 0 rfl) ?_
      refine lv_i2l (v := (r).toInt64) hx hb dL_law_613 rfl ?_
      refine W.lcmp hx hb dL_law_614 ?_
      refine lv_if_eq (tgt := 620) hx hb dL_law_615 rfl (fun h3 => ?_) (fun h3 => ?_)
      · skip
        refine lv_goto (tgt := 840) hx hb dL_law_620 rfl ?_
        refine W.widen (k := 15 + (t + 1)) (n := 17393 + 6 * (t + 1)) (by omega) (by omega) ?_
        exact k840 u.1 μ2 u.2 ls H locs hRel (lv_sub hl [2, 3, 4, 5, 6] rfl) hP hD hS
      · skip
        exact absurd ((lg_cmp_eq _ _).mpr (by rw [hu2, hr2, hrr])) h3
  · skip
    exact absurd hth h1
set_option maxHeartbeats 8000000 in
set_option maxRecDepth 100000 in
theorem lc_failAfter {p : Program} {e : Env} {s : State} {m : MethodId} {below : List Frame} {meth : Method} {c : Code} (l : Launch) {b L : Nat} {xs : Nat → Int32} (hlt : l.stackTraces = false) (hL : L ≤ 2048) (C0 : lw_At p s m meth c b L xs) {Rel : OS → NS → Prop} (hsim : simOK Rel) {t : Nat} (hti : 4 * t + 4 ≤ L) {dC : Nat → ClassId} {dI : Nat → Nat → Nat} {A : Nat → Nat} {cI : ClassId} {σ : OS} {B : Nat → Nat} {cI2 cZ : ClassId} {μ : NS} {O : Nat} {cJ : ClassId} {g : Nat → Int64} (hR : Rel σ μ) {ls : Array Slot} {H : Heap} {locs : List Loc} (hl : lv_has ls 7 [(0, .ref b), (1, .ref (A 0)), (2, .ref (B 0)), (3, .ref O), (4, .int (nI (4 * t)))]) (hP : va_P (dC, dI) vwCl (wL A cI σ B cI2 cZ μ O cJ g) H) (hK : va_K (dC, dI) vwCl (tyL cI cI2 cZ cJ) s) (hD : va_D (fun q => s.heap.size ≤ q) (wL A cI σ B cI2 cZ μ O cJ g)) (hS : va_S (fun q => s.heap.size ≤ q) s.heap H locs) (hN : xN s) (hZ : xZ (fun q => s.heap.size ≤ q) s) (hC : xC s) (k840 : ∀ (σ : OS) (μ : NS) (g : Nat → Int64) (ls : Array Slot) (H : Heap) (locs : List Loc), Rel σ μ → lv_has ls 7 [(0, .ref b), (1, .ref (A 0)), (2, .ref (B 0)), (3, .ref O), (4, .int (nI (4 * t)))] → va_P (dC, dI) vwCl (wL A cI σ B cI2 cZ μ O cJ g) H → va_D (fun q => s.heap.size ≤ q) (wL A cI σ B cI2 cZ μ O cJ g) → va_S (fun q => s.heap.size ≤ q) s.heap H locs → W p l e room_1 s m #[Value.ref b] below meth c H locs (15 + (t + 1)) (17393 + 6 * (t + 1)) (lw_Z below #[Value.ref b] s) (F0 m 840 ls [])) : W p l e room_1 s m #[Value.ref b] below meth c H locs (15 + t) (17393 + 6 * t) (lw_Z below #[Value.ref b] s) (F0 m 623 ls []) := by
  obtain ⟨hx, hb, hr, hml, hown, hts, hX, hbl, hlocks, hgv⟩ := C0
  have hB : ∀ w ∈ bW, w.before _ s = true := fun w h => hts w (bW_tbl w h)
  have hA : ∀ q : Nat, s.heap.size ≤ q → (fun q => s.heap.size ≤ q) q := fun q h => h
  have hsm := (hsim.2 σ μ hR).2.2.2.2.2.2.2.2.1 (xs (4 * t + 1))
  refine lv_aload_n hx hb dL_law_623 rfl (lv_at hl 1 rfl) ?_
  refine lv_aload_n hx hb dL_law_624 rfl (lv_at hl 0 rfl) ?_
  refine lv_iload hx hb dL_law_625 (lv_at hl 4 rfl) ?_
  refine lv_iconst (v := 1) hx hb dL_law_627 (by decide) ?_
  refine lv_iadd hx hb dL_law_628 ?_
  rw [show nI (4 * t) + 1 = nI (4 * t + 1) from nI_add (4 * t) 1]
  refine va_sld hx hb hX hbl (A := (fun q => s.heap.size ≤ q)) (Nat.not_le.mpr hbl) hS (i := nI (4 * t + 1)) (vp_in_nI (by omega) (by omega)) dL_law_629 ?_
  rw [show (nI (4 * t + 1)).toNatClampNeg = 4 * t + 1 from nI_clamp (by omega)]
  refine lk_failAfter hlt hx hb hml hown hB hl.1 hP hK hD hS hA hN hZ hC  dL_law_630 (Nat.le_of_ble_eq_true rfl) (Nat.le_of_ble_eq_true rfl) ⟨by show 15 + t + 1 ≤ 1058; omega, by show 17393 + 6 * t + 6 ≤ 25699; omega⟩ (Nat.le_of_ble_eq_true rfl) (fun u H locs hu hP hD hS => ?_)
  refine lv_istore hx hb dL_law_633 hl (by decide) rfl (fun ls hl => ?_)
  have hl : lv_has ls 7 [(5, .int (nI (k_fail σ (xs (4 * t + 1))))), (0, .ref b), (1, .ref (A 0)), (2, .ref (B 0)), (3, .ref O), (4, .int (nI (4 * t)))] := hl
  have hu1 : u.1 = if k_fail σ (xs (4 * t + 1)) = 0 then s_fail σ (xs (4 * t + 1)) else σ := by rw [hu]; exact hV_1 _ _ _ _
  refine lv_aload_n hx hb dL_law_635 rfl (lv_at hl 3 rfl) ?_
  refine lv_aload_n hx hb dL_law_636 rfl (lv_at hl 1 rfl) ?_
  refine lv_iload hx hb dL_law_637 (lv_at hl 5 rfl) ?_
  refine lv_iconst (v := 1) hx hb dL_law_639 (by decide) ?_
  refine lv_iadd hx hb dL_law_640 ?_
  rw [show nI (4 * t) + 1 = nI (4 * t + 1) from nI_add (4 * t) 1]
  refine va_sld hx hb hX hbl (A := (fun q => s.heap.size ≤ q)) (Nat.not_le.mpr hbl) hS (i := nI (4 * t + 1)) (vp_in_nI (by omega) (by omega)) dL_law_641 ?_
  rw [show (nI (4 * t + 1)).toNatClampNeg = 4 * t + 1 from nI_clamp (by omega)]
  refine lm_failAfter hx hb hml hown hB hl.1 hP hK hD hS hA  dL_law_642 (Nat.le_of_ble_eq_true rfl) (Nat.le_of_ble_eq_true rfl) ⟨by show 15 + t + 1 ≤ 1058; omega, by show 17393 + 6 * t + 6 ≤ 25699; omega⟩ (Nat.le_of_ble_eq_true rfl) (fun μ2 H locs hm hP hD hS => ?_)
  obtain ⟨hth, hk2, hRel⟩ := hsm
  rw [← hm] at hth hRel
  rw [← hu1] at hRel
  refine lv_aload_n hx hb dL_law_645 rfl (lv_at hl 3 rfl) ?_
  refine lr_X1thrown hx hb hml hown hB hl.1 hP hK hD hS hA dL_law_646 (Nat.le_of_ble_eq_true rfl) (Nat.le_of_ble_eq_true rfl) ⟨by show 15 + t + 1 ≤ 1058; omega, by show 17393 + 6 * t + 6 ≤ 25699; omega⟩ (Nat.le_of_ble_eq_true rfl) ?_
  refine lv_iload hx hb dL_law_649 (lv_at hl 0 rfl) ?_
  refine lv_icmp_eq (tgt := 656) hx hb dL_law_651 rfl (fun h1 => ?_) (fun h1 => ?_)
  · skip
    refine lv_goto (tgt := 840) hx hb dL_law_656 rfl ?_
    refine W.widen (k := 15 + (t + 1)) (n := 17393 + 6 * (t + 1)) (by omega) (by omega) ?_
    exact k840 u.1 μ2 u.2 ls H locs hRel (lv_sub hl [1, 2, 3, 4, 5] rfl) hP hD hS
  · skip
    exact absurd hth h1
set_option maxHeartbeats 8000000 in
set_option maxRecDepth 100000 in
theorem lc_mount {p : Program} {e : Env} {s : State} {m : MethodId} {below : List Frame} {meth : Method} {c : Code} (l : Launch) {b L : Nat} {xs : Nat → Int32} (hlt : l.stackTraces = false) (hL : L ≤ 2048) (C0 : lw_At p s m meth c b L xs) {Rel : OS → NS → Prop} (hsim : simOK Rel) {t : Nat} (hti : 4 * t + 4 ≤ L) {dC : Nat → ClassId} {dI : Nat → Nat → Nat} {A : Nat → Nat} {cI : ClassId} {σ : OS} {B : Nat → Nat} {cI2 cZ : ClassId} {μ : NS} {O : Nat} {cJ : ClassId} {g : Nat → Int64} (hR : Rel σ μ) {ls : Array Slot} {H : Heap} {locs : List Loc} (hl : lv_has ls 7 [(0, .ref b), (1, .ref (A 0)), (2, .ref (B 0)), (3, .ref O), (4, .int (nI (4 * t)))]) (hP : va_P (dC, dI) vwCl (wL A cI σ B cI2 cZ μ O cJ g) H) (hK : va_K (dC, dI) vwCl (tyL cI cI2 cZ cJ) s) (hD : va_D (fun q => s.heap.size ≤ q) (wL A cI σ B cI2 cZ μ O cJ g)) (hS : va_S (fun q => s.heap.size ≤ q) s.heap H locs) (hN : xN s) (hZ : xZ (fun q => s.heap.size ≤ q) s) (hC : xC s) (k840 : ∀ (σ : OS) (μ : NS) (g : Nat → Int64) (ls : Array Slot) (H : Heap) (locs : List Loc), Rel σ μ → lv_has ls 7 [(0, .ref b), (1, .ref (A 0)), (2, .ref (B 0)), (3, .ref O), (4, .int (nI (4 * t)))] → va_P (dC, dI) vwCl (wL A cI σ B cI2 cZ μ O cJ g) H → va_D (fun q => s.heap.size ≤ q) (wL A cI σ B cI2 cZ μ O cJ g) → va_S (fun q => s.heap.size ≤ q) s.heap H locs → W p l e room_1 s m #[Value.ref b] below meth c H locs (15 + (t + 1)) (17393 + 6 * (t + 1)) (lw_Z below #[Value.ref b] s) (F0 m 840 ls [])) : W p l e room_1 s m #[Value.ref b] below meth c H locs (15 + t) (17393 + 6 * t) (lw_Z below #[Value.ref b] s) (F0 m 672 ls []) := by
  obtain ⟨hx, hb, hr, hml, hown, hts, hX, hbl, hlocks, hgv⟩ := C0
  have hB : ∀ w ∈ bW, w.before _ s = true := fun w h => hts w (bW_tbl w h)
  have hA : ∀ q : Nat, s.heap.size ≤ q → (fun q => s.heap.size ≤ q) q := fun q h => h
  have hsm := (hsim.2 σ μ hR).2.2.2.2.2.2.2.2.2.2.1
  obtain ⟨hnm, hsm⟩ := hsm
  refine lv_aload_n hx hb dL_law_672 rfl (lv_at hl 1 rfl) ?_
  refine lv_aload_n hx hb dL_law_673 rfl (lv_at hl 3 rfl) ?_
  refine lk_mount hlt hx hb hml hown hB hl.1 hP hK hD hS hA hN hZ hC  dL_law_674 (Nat.le_of_ble_eq_true rfl) (Nat.le_of_ble_eq_true rfl) ⟨by show 15 + t + 1 ≤ 1058; omega, by show 17393 + 6 * t + 6 ≤ 25699; omega⟩ (Nat.le_of_ble_eq_true rfl) (fun u H locs hu hP hD hS => ?_)
  refine lv_istore hx hb dL_law_677 hl (by decide) rfl (fun ls hl => ?_)
  have hl : lv_has ls 7 [(5, .int (nI (k_mount σ))), (0, .ref b), (1, .ref (A 0)), (2, .ref (B 0)), (3, .ref O), (4, .int (nI (4 * t)))] := hl
  have hu1 : u.1 = if k_mount σ = 0 then s_mount σ else σ := by rw [hu]; exact hU_1 _ _ _ _ _
  refine lv_aload_n hx hb dL_law_679 rfl (lv_at hl 3 rfl) ?_
  refine lm_mount hx hb hml hown hB hl.1 hP hK hD hS hA hnm dL_law_680 (Nat.le_of_ble_eq_true rfl) (Nat.le_of_ble_eq_true rfl) ⟨by show 15 + t + 1 ≤ 1058; omega, by show 17393 + 6 * t + 6 ≤ 25699; omega⟩ (Nat.le_of_ble_eq_true rfl) (fun r μ2 H locs hr2 hm hP hD hS => ?_)
  obtain ⟨hth, hk2, hRel⟩ := hsm.1
  rw [← hm] at hth hRel
  rw [← hu1] at hRel
  refine lv_istore hx hb dL_law_683 hl (by decide) rfl (fun ls hl => ?_)
  have hl : lv_has ls 7 [(6, .int r), (5, .int (nI (k_mount σ))), (0, .ref b), (1, .ref (A 0)), (2, .ref (B 0)), (3, .ref O), (4, .int (nI (4 * t)))] := hl
  refine lv_aload_n hx hb dL_law_685 rfl (lv_at hl 4 rfl) ?_
  refine lr_X1thrown hx hb hml hown hB hl.1 hP hK hD hS hA dL_law_686 (Nat.le_of_ble_eq_true rfl) (Nat.le_of_ble_eq_true rfl) ⟨by show 15 + t + 1 ≤ 1058; omega, by show 17393 + 6 * t + 6 ≤ 25699; omega⟩ (Nat.le_of_ble_eq_true rfl) ?_
  refine lv_iload hx hb dL_law_689 (lv_at hl 1 rfl) ?_
  refine lv_icmp_eq (tgt := 696) hx hb dL_law_691 rfl (fun h1 => ?_) (fun h1 => ?_)
  · skip
    refine lv_iload hx hb dL_law_696 (lv_at hl 1 rfl) ?_
    refine lv_if_ne (tgt := 713) hx hb dL_law_698 rfl (fun h2 => ?_) (fun h2 => ?_)
    · skip
      refine lv_goto (tgt := 840) hx hb dL_law_713 rfl ?_
      refine W.widen (k := 15 + (t + 1)) (n := 17393 + 6 * (t + 1)) (by omega) (by omega) ?_
      exact k840 u.1 μ2 u.2 ls H locs hRel (lv_sub hl [2, 3, 4, 5, 6] rfl) hP hD hS
    · skip
      have hk0 : k_mount σ = 0 := nI_k0 hk2 h2
      have hu2 : u.2 0 = (r_mount σ).toInt64 := by rw [hu]; exact hU_2 _ _ _ _ hk0
      have hrr := hsm.2 hk0
      refine lv_aload_n hx hb dL_law_701 rfl (lv_at hl 5 rfl) ?_
      refine lv_iconst (v := 0) hx hb dL_law_702 (by decide) ?_
      refine va_lald (D := (dC, dI)) (i := nI 0) hx hb hK hP 14 3 rfl rfl (vp_in_nI (by decide) (by decide)) dL_law_703 ?_
      rw [show (nI 0).toNatClampNeg = 0 from rfl]
      refine lv_iload hx hb dL_law_704 (lv_at hl 0 rfl) ?_
      refine lv_i2l (v := (r).toInt64) hx hb dL_law_706 rfl ?_
      refine W.lcmp hx hb dL_law_707 ?_
      refine lv_if_eq (tgt := 713) hx hb dL_law_708 rfl (fun h3 => ?_) (fun h3 => ?_)
      · skip
        refine lv_goto (tgt := 840) hx hb dL_law_713 rfl ?_
        refine W.widen (k := 15 + (t + 1)) (n := 17393 + 6 * (t + 1)) (by omega) (by omega) ?_
        exact k840 u.1 μ2 u.2 ls H locs hRel (lv_sub hl [2, 3, 4, 5, 6] rfl) hP hD hS
      · skip
        exact absurd ((lg_cmp_eq _ _).mpr (by rw [hu2, hr2, hrr])) h3
  · skip
    exact absurd hth h1
set_option maxHeartbeats 8000000 in
set_option maxRecDepth 100000 in
theorem lc_words {p : Program} {e : Env} {s : State} {m : MethodId} {below : List Frame} {meth : Method} {c : Code} (l : Launch) {b L : Nat} {xs : Nat → Int32} (hlt : l.stackTraces = false) (hL : L ≤ 2048) (C0 : lw_At p s m meth c b L xs) {Rel : OS → NS → Prop} (hsim : simOK Rel) {t : Nat} (hti : 4 * t + 4 ≤ L) {dC : Nat → ClassId} {dI : Nat → Nat → Nat} {A : Nat → Nat} {cI : ClassId} {σ : OS} {B : Nat → Nat} {cI2 cZ : ClassId} {μ : NS} {O : Nat} {cJ : ClassId} {g : Nat → Int64} (hR : Rel σ μ) {ls : Array Slot} {H : Heap} {locs : List Loc} (hl : lv_has ls 7 [(0, .ref b), (1, .ref (A 0)), (2, .ref (B 0)), (3, .ref O), (4, .int (nI (4 * t)))]) (hP : va_P (dC, dI) vwCl (wL A cI σ B cI2 cZ μ O cJ g) H) (hK : va_K (dC, dI) vwCl (tyL cI cI2 cZ cJ) s) (hD : va_D (fun q => s.heap.size ≤ q) (wL A cI σ B cI2 cZ μ O cJ g)) (hS : va_S (fun q => s.heap.size ≤ q) s.heap H locs) (hN : xN s) (hZ : xZ (fun q => s.heap.size ≤ q) s) (hC : xC s) (k840 : ∀ (σ : OS) (μ : NS) (g : Nat → Int64) (ls : Array Slot) (H : Heap) (locs : List Loc), Rel σ μ → lv_has ls 7 [(0, .ref b), (1, .ref (A 0)), (2, .ref (B 0)), (3, .ref O), (4, .int (nI (4 * t)))] → va_P (dC, dI) vwCl (wL A cI σ B cI2 cZ μ O cJ g) H → va_D (fun q => s.heap.size ≤ q) (wL A cI σ B cI2 cZ μ O cJ g) → va_S (fun q => s.heap.size ≤ q) s.heap H locs → W p l e room_1 s m #[Value.ref b] below meth c H locs (15 + (t + 1)) (17393 + 6 * (t + 1)) (lw_Z below #[Value.ref b] s) (F0 m 840 ls [])) : W p l e room_1 s m #[Value.ref b] below meth c H locs (15 + t) (17393 + 6 * t) (lw_Z below #[Value.ref b] s) (F0 m 716 ls []) := by
  obtain ⟨hx, hb, hr, hml, hown, hts, hX, hbl, hlocks, hgv⟩ := C0
  have hB : ∀ w ∈ bW, w.before _ s = true := fun w h => hts w (bW_tbl w h)
  have hA : ∀ q : Nat, s.heap.size ≤ q → (fun q => s.heap.size ≤ q) q := fun q h => h
  have hsm := (hsim.2 σ μ hR).2.2.2.2.2.2.2.2.2.2.2.1 (xs (4 * t + 1))
  refine lv_aload_n hx hb dL_law_716 rfl (lv_at hl 1 rfl) ?_
  refine lv_aload_n hx hb dL_law_717 rfl (lv_at hl 0 rfl) ?_
  refine lv_iload hx hb dL_law_718 (lv_at hl 4 rfl) ?_
  refine lv_iconst (v := 1) hx hb dL_law_720 (by decide) ?_
  refine lv_iadd hx hb dL_law_721 ?_
  rw [show nI (4 * t) + 1 = nI (4 * t + 1) from nI_add (4 * t) 1]
  refine va_sld hx hb hX hbl (A := (fun q => s.heap.size ≤ q)) (Nat.not_le.mpr hbl) hS (i := nI (4 * t + 1)) (vp_in_nI (by omega) (by omega)) dL_law_722 ?_
  rw [show (nI (4 * t + 1)).toNatClampNeg = 4 * t + 1 from nI_clamp (by omega)]
  refine lv_aload_n hx hb dL_law_723 rfl (lv_at hl 3 rfl) ?_
  refine lk_words hlt hx hb hml hown hB hl.1 hP hK hD hS hA hN hZ hC  dL_law_724 (Nat.le_of_ble_eq_true rfl) (Nat.le_of_ble_eq_true rfl) ⟨by show 15 + t + 1 ≤ 1058; omega, by show 17393 + 6 * t + 6 ≤ 25699; omega⟩ (Nat.le_of_ble_eq_true rfl) (fun u H locs hu hP hD hS => ?_)
  refine lv_istore hx hb dL_law_727 hl (by decide) rfl (fun ls hl => ?_)
  have hl : lv_has ls 7 [(5, .int (nI (k_words (xs (4 * t + 1))))), (0, .ref b), (1, .ref (A 0)), (2, .ref (B 0)), (3, .ref O), (4, .int (nI (4 * t)))] := hl
  have hu1 : u.1 = if k_words (xs (4 * t + 1)) = 0 then σ else σ := by rw [hu]; exact hU_1 _ _ _ _ _
  refine lv_aload_n hx hb dL_law_729 rfl (lv_at hl 3 rfl) ?_
  refine lv_aload_n hx hb dL_law_730 rfl (lv_at hl 1 rfl) ?_
  refine lv_iload hx hb dL_law_731 (lv_at hl 5 rfl) ?_
  refine lv_iconst (v := 1) hx hb dL_law_733 (by decide) ?_
  refine lv_iadd hx hb dL_law_734 ?_
  rw [show nI (4 * t) + 1 = nI (4 * t + 1) from nI_add (4 * t) 1]
  refine va_sld hx hb hX hbl (A := (fun q => s.heap.size ≤ q)) (Nat.not_le.mpr hbl) hS (i := nI (4 * t + 1)) (vp_in_nI (by omega) (by omega)) dL_law_735 ?_
  rw [show (nI (4 * t + 1)).toNatClampNeg = 4 * t + 1 from nI_clamp (by omega)]
  refine lm_words hx hb hml hown hB hl.1 hP hK hD hS hA  dL_law_736 (Nat.le_of_ble_eq_true rfl) (Nat.le_of_ble_eq_true rfl) ⟨by show 15 + t + 1 ≤ 1058; omega, by show 17393 + 6 * t + 6 ≤ 25699; omega⟩ (Nat.le_of_ble_eq_true rfl) (fun r μ2 H locs hr2 hm hP hD hS => ?_)
  obtain ⟨hth, hk2, hRel⟩ := hsm.1
  rw [← hm] at hth hRel
  rw [← hu1] at hRel
  refine lv_istore hx hb dL_law_739 hl (by decide) rfl (fun ls hl => ?_)
  have hl : lv_has ls 7 [(6, .int r), (5, .int (nI (k_words (xs (4 * t + 1))))), (0, .ref b), (1, .ref (A 0)), (2, .ref (B 0)), (3, .ref O), (4, .int (nI (4 * t)))] := hl
  refine lv_aload_n hx hb dL_law_741 rfl (lv_at hl 4 rfl) ?_
  refine lr_X1thrown hx hb hml hown hB hl.1 hP hK hD hS hA dL_law_742 (Nat.le_of_ble_eq_true rfl) (Nat.le_of_ble_eq_true rfl) ⟨by show 15 + t + 1 ≤ 1058; omega, by show 17393 + 6 * t + 6 ≤ 25699; omega⟩ (Nat.le_of_ble_eq_true rfl) ?_
  refine lv_iload hx hb dL_law_745 (lv_at hl 1 rfl) ?_
  refine lv_icmp_eq (tgt := 752) hx hb dL_law_747 rfl (fun h1 => ?_) (fun h1 => ?_)
  · skip
    refine lv_iload hx hb dL_law_752 (lv_at hl 1 rfl) ?_
    refine lv_if_ne (tgt := 769) hx hb dL_law_754 rfl (fun h2 => ?_) (fun h2 => ?_)
    · skip
      refine lv_goto (tgt := 840) hx hb dL_law_769 rfl ?_
      refine W.widen (k := 15 + (t + 1)) (n := 17393 + 6 * (t + 1)) (by omega) (by omega) ?_
      exact k840 u.1 μ2 u.2 ls H locs hRel (lv_sub hl [2, 3, 4, 5, 6] rfl) hP hD hS
    · skip
      have hk0 : k_words (xs (4 * t + 1)) = 0 := nI_k0 hk2 h2
      have hu2 : u.2 0 = (f_cnt (fun w => decide (oT σ w = (xs (4 * t + 1)) + 128)) 160 0 0).toInt64 := by rw [hu]; exact hU_2 _ _ _ _ hk0
      have hrr := hsm.2 hk0
      refine lv_aload_n hx hb dL_law_757 rfl (lv_at hl 5 rfl) ?_
      refine lv_iconst (v := 0) hx hb dL_law_758 (by decide) ?_
      refine va_lald (D := (dC, dI)) (i := nI 0) hx hb hK hP 14 3 rfl rfl (vp_in_nI (by decide) (by decide)) dL_law_759 ?_
      rw [show (nI 0).toNatClampNeg = 0 from rfl]
      refine lv_iload hx hb dL_law_760 (lv_at hl 0 rfl) ?_
      refine lv_i2l (v := (r).toInt64) hx hb dL_law_762 rfl ?_
      refine W.lcmp hx hb dL_law_763 ?_
      refine lv_if_eq (tgt := 769) hx hb dL_law_764 rfl (fun h3 => ?_) (fun h3 => ?_)
      · skip
        refine lv_goto (tgt := 840) hx hb dL_law_769 rfl ?_
        refine W.widen (k := 15 + (t + 1)) (n := 17393 + 6 * (t + 1)) (by omega) (by omega) ?_
        exact k840 u.1 μ2 u.2 ls H locs hRel (lv_sub hl [2, 3, 4, 5, 6] rfl) hP hD hS
      · skip
        exact absurd ((lg_cmp_eq _ _).mpr (by rw [hu2, hr2, hrr])) h3
  · skip
    exact absurd hth h1
set_option maxHeartbeats 8000000 in
set_option maxRecDepth 100000 in
theorem lc_history {p : Program} {e : Env} {s : State} {m : MethodId} {below : List Frame} {meth : Method} {c : Code} (l : Launch) {b L : Nat} {xs : Nat → Int32} (hlt : l.stackTraces = false) (hL : L ≤ 2048) (C0 : lw_At p s m meth c b L xs) {Rel : OS → NS → Prop} (hsim : simOK Rel) {t : Nat} (hti : 4 * t + 4 ≤ L) {dC : Nat → ClassId} {dI : Nat → Nat → Nat} {A : Nat → Nat} {cI : ClassId} {σ : OS} {B : Nat → Nat} {cI2 cZ : ClassId} {μ : NS} {O : Nat} {cJ : ClassId} {g : Nat → Int64} (hR : Rel σ μ) {ls : Array Slot} {H : Heap} {locs : List Loc} (hl : lv_has ls 7 [(0, .ref b), (1, .ref (A 0)), (2, .ref (B 0)), (3, .ref O), (4, .int (nI (4 * t)))]) (hP : va_P (dC, dI) vwCl (wL A cI σ B cI2 cZ μ O cJ g) H) (hK : va_K (dC, dI) vwCl (tyL cI cI2 cZ cJ) s) (hD : va_D (fun q => s.heap.size ≤ q) (wL A cI σ B cI2 cZ μ O cJ g)) (hS : va_S (fun q => s.heap.size ≤ q) s.heap H locs) (hN : xN s) (hZ : xZ (fun q => s.heap.size ≤ q) s) (hC : xC s) (k840 : ∀ (σ : OS) (μ : NS) (g : Nat → Int64) (ls : Array Slot) (H : Heap) (locs : List Loc), Rel σ μ → lv_has ls 7 [(0, .ref b), (1, .ref (A 0)), (2, .ref (B 0)), (3, .ref O), (4, .int (nI (4 * t)))] → va_P (dC, dI) vwCl (wL A cI σ B cI2 cZ μ O cJ g) H → va_D (fun q => s.heap.size ≤ q) (wL A cI σ B cI2 cZ μ O cJ g) → va_S (fun q => s.heap.size ≤ q) s.heap H locs → W p l e room_1 s m #[Value.ref b] below meth c H locs (15 + (t + 1)) (17393 + 6 * (t + 1)) (lw_Z below #[Value.ref b] s) (F0 m 840 ls [])) : W p l e room_1 s m #[Value.ref b] below meth c H locs (15 + t) (17393 + 6 * t) (lw_Z below #[Value.ref b] s) (F0 m 772 ls []) := by
  obtain ⟨hx, hb, hr, hml, hown, hts, hX, hbl, hlocks, hgv⟩ := C0
  have hB : ∀ w ∈ bW, w.before _ s = true := fun w h => hts w (bW_tbl w h)
  have hA : ∀ q : Nat, s.heap.size ≤ q → (fun q => s.heap.size ≤ q) q := fun q h => h
  have hsm := (hsim.2 σ μ hR).2.2.2.2.2.2.2.2.2.2.2.2 (xs (4 * t + 1)) (xs (4 * t + 2))
  refine lv_aload_n hx hb dL_law_772 rfl (lv_at hl 1 rfl) ?_
  refine lv_aload_n hx hb dL_law_773 rfl (lv_at hl 0 rfl) ?_
  refine lv_iload hx hb dL_law_774 (lv_at hl 4 rfl) ?_
  refine lv_iconst (v := 1) hx hb dL_law_776 (by decide) ?_
  refine lv_iadd hx hb dL_law_777 ?_
  rw [show nI (4 * t) + 1 = nI (4 * t + 1) from nI_add (4 * t) 1]
  refine va_sld hx hb hX hbl (A := (fun q => s.heap.size ≤ q)) (Nat.not_le.mpr hbl) hS (i := nI (4 * t + 1)) (vp_in_nI (by omega) (by omega)) dL_law_778 ?_
  rw [show (nI (4 * t + 1)).toNatClampNeg = 4 * t + 1 from nI_clamp (by omega)]
  refine lv_aload_n hx hb dL_law_779 rfl (lv_at hl 0 rfl) ?_
  refine lv_iload hx hb dL_law_780 (lv_at hl 4 rfl) ?_
  refine lv_iconst (v := 2) hx hb dL_law_782 (by decide) ?_
  refine lv_iadd hx hb dL_law_783 ?_
  rw [show nI (4 * t) + 2 = nI (4 * t + 2) from nI_add (4 * t) 2]
  refine va_sld hx hb hX hbl (A := (fun q => s.heap.size ≤ q)) (Nat.not_le.mpr hbl) hS (i := nI (4 * t + 2)) (vp_in_nI (by omega) (by omega)) dL_law_784 ?_
  rw [show (nI (4 * t + 2)).toNatClampNeg = 4 * t + 2 from nI_clamp (by omega)]
  refine lv_aload_n hx hb dL_law_785 rfl (lv_at hl 3 rfl) ?_
  refine lk_history hlt hx hb hml hown hB hl.1 hP hK hD hS hA hN hZ hC  dL_law_786 (Nat.le_of_ble_eq_true rfl) (Nat.le_of_ble_eq_true rfl) ⟨by show 15 + t + 1 ≤ 1058; omega, by show 17393 + 6 * t + 6 ≤ 25699; omega⟩ (Nat.le_of_ble_eq_true rfl) (fun u H locs hu hP hD hS => ?_)
  refine lv_istore hx hb dL_law_789 hl (by decide) rfl (fun ls hl => ?_)
  have hl : lv_has ls 7 [(5, .int (nI (k_hist σ (xs (4 * t + 1)) (xs (4 * t + 2))))), (0, .ref b), (1, .ref (A 0)), (2, .ref (B 0)), (3, .ref O), (4, .int (nI (4 * t)))] := hl
  have hu1 : u.1 = if k_hist σ (xs (4 * t + 1)) (xs (4 * t + 2)) = 0 then σ else σ := by rw [hu]; exact hU_1 _ _ _ _ _
  refine lv_aload_n hx hb dL_law_791 rfl (lv_at hl 3 rfl) ?_
  refine lv_aload_n hx hb dL_law_792 rfl (lv_at hl 1 rfl) ?_
  refine lv_iload hx hb dL_law_793 (lv_at hl 5 rfl) ?_
  refine lv_iconst (v := 1) hx hb dL_law_795 (by decide) ?_
  refine lv_iadd hx hb dL_law_796 ?_
  rw [show nI (4 * t) + 1 = nI (4 * t + 1) from nI_add (4 * t) 1]
  refine va_sld hx hb hX hbl (A := (fun q => s.heap.size ≤ q)) (Nat.not_le.mpr hbl) hS (i := nI (4 * t + 1)) (vp_in_nI (by omega) (by omega)) dL_law_797 ?_
  rw [show (nI (4 * t + 1)).toNatClampNeg = 4 * t + 1 from nI_clamp (by omega)]
  refine lv_aload_n hx hb dL_law_798 rfl (lv_at hl 1 rfl) ?_
  refine lv_iload hx hb dL_law_799 (lv_at hl 5 rfl) ?_
  refine lv_iconst (v := 2) hx hb dL_law_801 (by decide) ?_
  refine lv_iadd hx hb dL_law_802 ?_
  rw [show nI (4 * t) + 2 = nI (4 * t + 2) from nI_add (4 * t) 2]
  refine va_sld hx hb hX hbl (A := (fun q => s.heap.size ≤ q)) (Nat.not_le.mpr hbl) hS (i := nI (4 * t + 2)) (vp_in_nI (by omega) (by omega)) dL_law_803 ?_
  rw [show (nI (4 * t + 2)).toNatClampNeg = 4 * t + 2 from nI_clamp (by omega)]
  refine lm_history hx hb hml hown hB hl.1 hP hK hD hS hA  dL_law_804 (Nat.le_of_ble_eq_true rfl) (Nat.le_of_ble_eq_true rfl) ⟨by show 15 + t + 1 ≤ 1058; omega, by show 17393 + 6 * t + 6 ≤ 25699; omega⟩ (Nat.le_of_ble_eq_true rfl) (fun r μ2 H locs hr2 hm hP hD hS => ?_)
  obtain ⟨hth, hk2, hRel⟩ := hsm.1
  rw [← hm] at hth hRel
  rw [← hu1] at hRel
  refine lv_istore hx hb dL_law_807 hl (by decide) rfl (fun ls hl => ?_)
  have hl : lv_has ls 7 [(6, .int r), (5, .int (nI (k_hist σ (xs (4 * t + 1)) (xs (4 * t + 2))))), (0, .ref b), (1, .ref (A 0)), (2, .ref (B 0)), (3, .ref O), (4, .int (nI (4 * t)))] := hl
  refine lv_aload_n hx hb dL_law_809 rfl (lv_at hl 4 rfl) ?_
  refine lr_X1thrown hx hb hml hown hB hl.1 hP hK hD hS hA dL_law_810 (Nat.le_of_ble_eq_true rfl) (Nat.le_of_ble_eq_true rfl) ⟨by show 15 + t + 1 ≤ 1058; omega, by show 17393 + 6 * t + 6 ≤ 25699; omega⟩ (Nat.le_of_ble_eq_true rfl) ?_
  refine lv_iload hx hb dL_law_813 (lv_at hl 1 rfl) ?_
  refine lv_icmp_eq (tgt := 820) hx hb dL_law_815 rfl (fun h1 => ?_) (fun h1 => ?_)
  · skip
    refine lv_iload hx hb dL_law_820 (lv_at hl 1 rfl) ?_
    refine lv_if_ne (tgt := 837) hx hb dL_law_822 rfl (fun h2 => ?_) (fun h2 => ?_)
    · skip
      refine lv_goto (tgt := 840) hx hb dL_law_837 rfl ?_
      refine W.widen (k := 15 + (t + 1)) (n := 17393 + 6 * (t + 1)) (by omega) (by omega) ?_
      exact k840 u.1 μ2 u.2 ls H locs hRel (lv_sub hl [2, 3, 4, 5, 6] rfl) hP hD hS
    · skip
      have hk0 : k_hist σ (xs (4 * t + 1)) (xs (4 * t + 2)) = 0 := nI_k0 hk2 h2
      have hu2 : u.2 0 = (r_hist σ (xs (4 * t + 1)) (xs (4 * t + 2))).toInt64 := by rw [hu]; exact hU_2 _ _ _ _ hk0
      have hrr := hsm.2 hk0
      refine lv_aload_n hx hb dL_law_825 rfl (lv_at hl 5 rfl) ?_
      refine lv_iconst (v := 0) hx hb dL_law_826 (by decide) ?_
      refine va_lald (D := (dC, dI)) (i := nI 0) hx hb hK hP 14 3 rfl rfl (vp_in_nI (by decide) (by decide)) dL_law_827 ?_
      rw [show (nI 0).toNatClampNeg = 0 from rfl]
      refine lv_iload hx hb dL_law_828 (lv_at hl 0 rfl) ?_
      refine lv_i2l (v := (r).toInt64) hx hb dL_law_830 rfl ?_
      refine W.lcmp hx hb dL_law_831 ?_
      refine lv_if_eq (tgt := 837) hx hb dL_law_832 rfl (fun h3 => ?_) (fun h3 => ?_)
      · skip
        refine lv_goto (tgt := 840) hx hb dL_law_837 rfl ?_
        refine W.widen (k := 15 + (t + 1)) (n := 17393 + 6 * (t + 1)) (by omega) (by omega) ?_
        exact k840 u.1 μ2 u.2 ls H locs hRel (lv_sub hl [2, 3, 4, 5, 6] rfl) hP hD hS
      · skip
        exact absurd ((lg_cmp_eq _ _).mpr (by rw [hu2, hr2, hrr])) h3
  · skip
    exact absurd hth h1
set_option maxHeartbeats 8000000 in
set_option maxRecDepth 100000 in
theorem lc_isOn {p : Program} {e : Env} {s : State} {m : MethodId} {below : List Frame} {meth : Method} {c : Code} (l : Launch) {b L : Nat} {xs : Nat → Int32} (hlt : l.stackTraces = false) (hL : L ≤ 2048) (C0 : lw_At p s m meth c b L xs) {Rel : OS → NS → Prop} (hsim : simOK Rel) {t : Nat} (hti : 4 * t + 4 ≤ L) {dC : Nat → ClassId} {dI : Nat → Nat → Nat} {A : Nat → Nat} {cI : ClassId} {σ : OS} {B : Nat → Nat} {cI2 cZ : ClassId} {μ : NS} {O : Nat} {cJ : ClassId} {g : Nat → Int64} (hR : Rel σ μ) {ls : Array Slot} {H : Heap} {locs : List Loc} (hl : lv_has ls 7 [(0, .ref b), (1, .ref (A 0)), (2, .ref (B 0)), (3, .ref O), (4, .int (nI (4 * t)))]) (hP : va_P (dC, dI) vwCl (wL A cI σ B cI2 cZ μ O cJ g) H) (hK : va_K (dC, dI) vwCl (tyL cI cI2 cZ cJ) s) (hD : va_D (fun q => s.heap.size ≤ q) (wL A cI σ B cI2 cZ μ O cJ g)) (hS : va_S (fun q => s.heap.size ≤ q) s.heap H locs) (hN : xN s) (hZ : xZ (fun q => s.heap.size ≤ q) s) (hC : xC s) (k840 : ∀ (σ : OS) (μ : NS) (g : Nat → Int64) (ls : Array Slot) (H : Heap) (locs : List Loc), Rel σ μ → lv_has ls 7 [(0, .ref b), (1, .ref (A 0)), (2, .ref (B 0)), (3, .ref O), (4, .int (nI (4 * t)))] → va_P (dC, dI) vwCl (wL A cI σ B cI2 cZ μ O cJ g) H → va_D (fun q => s.heap.size ≤ q) (wL A cI σ B cI2 cZ μ O cJ g) → va_S (fun q => s.heap.size ≤ q) s.heap H locs → W p l e room_1 s m #[Value.ref b] below meth c H locs (15 + (t + 1)) (17393 + 6 * (t + 1)) (lw_Z below #[Value.ref b] s) (F0 m 840 ls [])) : W p l e room_1 s m #[Value.ref b] below meth c H locs (15 + t) (17393 + 6 * t) (lw_Z below #[Value.ref b] s) (F0 m 659 ls []) := by
  obtain ⟨hx, hb, hr, hml, hown, hts, hX, hbl, hlocks, hgv⟩ := C0
  have hB : ∀ w ∈ bW, w.before _ s = true := fun w h => hts w (bW_tbl w h)
  have hA : ∀ q : Nat, s.heap.size ≤ q → (fun q => s.heap.size ≤ q) q := fun q h => h
  obtain ⟨⟨bb, hon⟩, hof, hRel⟩ := (hsim.2 σ μ hR).2.2.2.2.2.2.2.2.2.1
  refine lv_aload_n hx hb dL_law_659 rfl (lv_at hl 1 rfl) ?_
  refine lr_X0isOn hx hb hml hown hB hl.1 hP hK hD hS hA hon dL_law_660 (Nat.le_of_ble_eq_true rfl) (Nat.le_of_ble_eq_true rfl) ⟨by show 15 + t ≤ 1058; omega, by show 17393 + 6 * t ≤ 25699; omega⟩ (Nat.le_of_ble_eq_true rfl) ?_
  refine lv_aload_n hx hb dL_law_663 rfl (lv_at hl 2 rfl) ?_
  refine lm_isOn hx hb hml hown hB hl.1 hP hK hD hS hA dL_law_664 (Nat.le_of_ble_eq_true rfl) (Nat.le_of_ble_eq_true rfl) ⟨by show 15 + t ≤ 1058; omega, by show 17393 + 6 * t ≤ 25699; omega⟩ (Nat.le_of_ble_eq_true rfl) (fun r μ2 H locs hr2 hm hP hD hS => ?_)
  refine lv_icmp_eq (tgt := 840) hx hb dL_law_667 rfl (fun h1 => ?_) (fun h1 => ?_)
  · skip
    rw [← hm] at hRel
    refine W.widen (k := 15 + (t + 1)) (n := 17393 + 6 * (t + 1)) (by omega) (by omega) ?_
    exact k840 σ μ2 g ls H locs hRel hl hP hD hS
  · skip
    exact absurd (hof.trans hr2.symm) h1
