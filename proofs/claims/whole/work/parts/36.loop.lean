set_option maxHeartbeats 8000000 in
set_option maxRecDepth 100000 in
theorem law_end {p : Program} {e : Env} {s : State} {m : MethodId} {below : List Frame} {meth : Method} {c : Code} (l : Launch) {b L : Nat} {xs : Nat → Int32} (C0 : lw_At p s m meth c b L xs) {t : Nat} (ht : t ≤ 513) {ls : Array Slot} {H : Heap} {locs : List Loc} (hS : va_S (fun q => s.heap.size ≤ q) s.heap H locs) : W p l e room_1 s m #[Value.ref b] below meth c H locs (15 + t) (17393 + 6 * t) (lw_Z below #[Value.ref b] s) (F0 m 846 ls []) := by
  obtain ⟨hx, hb, hr, hml, hown, hts, hX, hbl, hlocks, hgv⟩ := C0
  refine lv_iconst (v := 1) hx hb dL_law_846 (by decide) ?_
  refine va_forget (fun q hq => hS.2.2 q hq) ?_
  refine W.widen (k := 1058) (n := 25699) (by omega) (by omega) ?_
  exact lw_ret hx hb hr hlocks dL_law_847
set_option maxHeartbeats 8000000 in
set_option maxRecDepth 100000 in
theorem law_loop {p : Program} {e : Env} {s : State} {m : MethodId} {below : List Frame} {meth : Method} {c : Code} (l : Launch) {b L : Nat} {xs : Nat → Int32} (hlt : l.stackTraces = false) (hL : L ≤ 2048) (C0 : lw_At p s m meth c b L xs) {Rel : OS → NS → Prop} (hsim : simOK Rel) {dC : Nat → ClassId} {dI : Nat → Nat → Nat} {A : Nat → Nat} {cI : ClassId} {B : Nat → Nat} {cI2 cZ : ClassId} {O : Nat} {cJ : ClassId} (hK : va_K (dC, dI) vwCl (tyL cI cI2 cZ cJ) s) (hN : xN s) (hZ : xZ (fun q => s.heap.size ≤ q) s) (hC : xC s) : ∀ (n t : Nat) (σ : OS) (μ : NS) (g : Nat → Int64) (ls : Array Slot) (H : Heap) (locs : List Loc), t ≤ 513 → L < 4 * t + 4 * n + 4 → Rel σ μ → lv_has ls 7 [(0, .ref b), (1, .ref (A 0)), (2, .ref (B 0)), (3, .ref O), (4, .int (nI (4 * t)))] → va_P (dC, dI) vwCl (wL A cI σ B cI2 cZ μ O cJ g) H → va_D (fun q => s.heap.size ≤ q) (wL A cI σ B cI2 cZ μ O cJ g) → va_S (fun q => s.heap.size ≤ q) s.heap H locs → W p l e room_1 s m #[Value.ref b] below meth c H locs (15 + t) (17393 + 6 * t) (lw_Z below #[Value.ref b] s) (F0 m 23 ls []) := by
  have C1 := C0
  obtain ⟨hx, hb, hr, hml, hown, hts, hX, hbl, hlocks, hgv⟩ := C0
  intro n
  induction n with
  | zero =>
    intro t σ μ g ls H locs ht hn hR hl hP hD hS
    refine lv_iload hx hb dL_law_23 (lv_at hl 4 rfl) ?_
    refine lv_aload_n hx hb dL_law_25 rfl (lv_at hl 0 rfl) ?_
    refine va_slen hx hb hX hbl (A := (fun q => s.heap.size ≤ q)) (Nat.not_le.mpr hbl) hS dL_law_26 ?_
    refine lv_iconst (v := 4) hx hb dL_law_27 (by decide) ?_
    refine lv_isub hx hb dL_law_28 ?_
    refine lv_icmp_gt (tgt := 846) hx hb dL_law_29 rfl (fun h1 => ?_) (fun h1 => ?_)
    · skip
      exact law_end l C1 ht hS
    · skip
      exact absurd ((law_cmp hL (by omega)).mpr (by omega)) h1
  | succ n ih =>
    intro t σ μ g ls H locs ht hn hR hl hP hD hS
    refine lv_iload hx hb dL_law_23 (lv_at hl 4 rfl) ?_
    refine lv_aload_n hx hb dL_law_25 rfl (lv_at hl 0 rfl) ?_
    refine va_slen hx hb hX hbl (A := (fun q => s.heap.size ≤ q)) (Nat.not_le.mpr hbl) hS dL_law_26 ?_
    refine lv_iconst (v := 4) hx hb dL_law_27 (by decide) ?_
    refine lv_isub hx hb dL_law_28 ?_
    refine lv_icmp_gt (tgt := 846) hx hb dL_law_29 rfl (fun h1 => ?_) (fun h1 => ?_)
    · skip
      exact law_end l C1 ht hS
    · skip
      have hti : 4 * t + 4 ≤ L := Nat.not_lt.mp (fun z => h1 ((law_cmp hL (by omega)).mpr z))
      refine lv_aload_n hx hb dL_law_32 rfl (lv_at hl 0 rfl) ?_
      refine lv_iload hx hb dL_law_33 (lv_at hl 4 rfl) ?_
      refine va_sld hx hb hX hbl (A := (fun q => s.heap.size ≤ q)) (Nat.not_le.mpr hbl) hS (i := nI (4 * t)) (vp_in_nI (by omega) (by omega)) dL_law_35 ?_
      rw [show (nI (4 * t)).toNatClampNeg = 4 * t from nI_clamp (by omega)]
      refine lv_bipush (v := 15) hx hb dL_law_36 (by decide) ?_
      refine lv_iand hx hb dL_law_38 ?_
      have k840 : ∀ (σ : OS) (μ : NS) (g : Nat → Int64) (ls : Array Slot) (H : Heap) (locs : List Loc), Rel σ μ → lv_has ls 7 [(0, .ref b), (1, .ref (A 0)), (2, .ref (B 0)), (3, .ref O), (4, .int (nI (4 * t)))] → va_P (dC, dI) vwCl (wL A cI σ B cI2 cZ μ O cJ g) H → va_D (fun q => s.heap.size ≤ q) (wL A cI σ B cI2 cZ μ O cJ g) → va_S (fun q => s.heap.size ≤ q) s.heap H locs → W p l e room_1 s m #[Value.ref b] below meth c H locs (15 + (t + 1)) (17393 + 6 * (t + 1)) (lw_Z below #[Value.ref b] s) (F0 m 840 ls []) := by
        intro σ μ g ls H locs hR hl hP hD hS
        refine lv_iinc (k := 4) (v := (nI (4 * (t + 1)))) hx hb dL_law_840 hl rfl (nI_add (4 * t) 4) (by decide) rfl (fun ls hl => ?_)
        have hl : lv_has ls 7 [(4, .int (nI (4 * (t + 1)))), (0, .ref b), (1, .ref (A 0)), (2, .ref (B 0)), (3, .ref O)] := hl
        refine lv_goto (tgt := 23) hx hb dL_law_843 rfl ?_
        exact ih (t + 1) σ μ g ls H locs (by omega) (by omega) hR (lv_sub hl [1, 2, 3, 4, 0] rfl) hP hD hS
      obtain ⟨j, hj, ej⟩ := pk_andE (xs (4 * t)) (m := 15) 4 (by decide)
      rw [ej]
      rcases (show j = 0 ∨ j = 1 ∨ j = 2 ∨ j = 3 ∨ j = 4 ∨ j = 5 ∨ j = 6 ∨ j = 7 ∨ j = 8 ∨ j = 9 ∨ j = 10 ∨ j = 11 ∨ j = 12 ∨ j = 13 ∨ j = 14 ∨ j = 15 by omega) with rfl | rfl | rfl | rfl | rfl | rfl | rfl | rfl | rfl | rfl | rfl | rfl | rfl | rfl | rfl | rfl
      · refine lv_tableIn (off := 69) (tgt := 108) hx hb dL_law_39 (by decide) (by decide) (by decide) rfl ?_
        exact lc_put l hlt hL C1 hsim hti hR hl hP hK hD hS hN hZ hC k840
      · refine lv_tableIn (off := 137) (tgt := 176) hx hb dL_law_39 (by decide) (by decide) (by decide) rfl ?_
        exact lc_get l hlt hL C1 hsim hti hR hl hP hK hD hS hN hZ hC k840
      · refine lv_tableIn (off := 193) (tgt := 232) hx hb dL_law_39 (by decide) (by decide) (by decide) rfl ?_
        exact lc_wouldMove l hlt hL C1 hsim hti hR hl hP hK hD hS hN hZ hC k840
      · refine lv_tableIn (off := 268) (tgt := 307) hx hb dL_law_39 (by decide) (by decide) (by decide) rfl ?_
        exact lc_begin l hlt hL C1 hsim hti hR hl hP hK hD hS hN hZ hC k840
      · refine lv_tableIn (off := 292) (tgt := 331) hx hb dL_law_39 (by decide) (by decide) (by decide) rfl ?_
        exact lc_stage l hlt hL C1 hsim hti hR hl hP hK hD hS hN hZ hC k840
      · refine lv_tableIn (off := 360) (tgt := 399) hx hb dL_law_39 (by decide) (by decide) (by decide) rfl ?_
        exact lc_commit l hlt hL C1 hsim hti hR hl hP hK hD hS hN hZ hC k840
      · refine lv_tableIn (off := 404) (tgt := 443) hx hb dL_law_39 (by decide) (by decide) (by decide) rfl ?_
        exact lc_abandon l hlt hL C1 hsim hti hR hl hP hK hD hS hN hZ hC k840
      · refine lv_tableIn (off := 448) (tgt := 487) hx hb dL_law_39 (by decide) (by decide) (by decide) rfl ?_
        exact lc_left l hlt hL C1 hsim hti hR hl hP hK hD hS hN hZ hC k840
      · refine lv_tableIn (off := 504) (tgt := 543) hx hb dL_law_39 (by decide) (by decide) (by decide) rfl ?_
        exact lc_cell l hlt hL C1 hsim hti hR hl hP hK hD hS hN hZ hC k840
      · refine lv_tableIn (off := 584) (tgt := 623) hx hb dL_law_39 (by decide) (by decide) (by decide) rfl ?_
        exact lc_failAfter l hlt hL C1 hsim hti hR hl hP hK hD hS hN hZ hC k840
      · refine lv_tableIn (off := 620) (tgt := 659) hx hb dL_law_39 (by decide) (by decide) (by decide) rfl ?_
        exact lc_isOn l hlt hL C1 hsim hti hR hl hP hK hD hS hN hZ hC k840
      · refine lv_tableIn (off := 633) (tgt := 672) hx hb dL_law_39 (by decide) (by decide) (by decide) rfl ?_
        exact lc_mount l hlt hL C1 hsim hti hR hl hP hK hD hS hN hZ hC k840
      · refine lv_tableIn (off := 677) (tgt := 716) hx hb dL_law_39 (by decide) (by decide) (by decide) rfl ?_
        exact lc_words l hlt hL C1 hsim hti hR hl hP hK hD hS hN hZ hC k840
      · refine lv_tableIn (off := 733) (tgt := 772) hx hb dL_law_39 (by decide) (by decide) (by decide) rfl ?_
        exact lc_history l hlt hL C1 hsim hti hR hl hP hK hD hS hN hZ hC k840
      · refine lv_tableOut (tgt := 840) hx hb dL_law_39 (Or.inr (by decide)) rfl ?_
        refine W.widen (k := 15 + (t + 1)) (n := 17393 + 6 * (t + 1)) (by omega) (by omega) ?_
        exact k840 σ μ g ls H locs hR hl hP hD hS
      · refine lv_tableOut (tgt := 840) hx hb dL_law_39 (Or.inr (by decide)) rfl ?_
        refine W.widen (k := 15 + (t + 1)) (n := 17393 + 6 * (t + 1)) (by omega) (by omega) ?_
        exact k840 σ μ g ls H locs hR hl hP hD hS
