/-! what a throw needs: words that are no good ones, as premises of their own -/
def rkx (k : Nat) : Room := { frames := k, cells := 1, slots := 6, locals := 30 * k }
def xN (U : State) : Prop := va_Nw (.declares ⟨"java/lang/RuntimeException", "<init>", "()V"⟩) U ∧ va_Nw (.declares ⟨"java/lang/Exception", "<init>", "()V"⟩) U ∧ va_Nw (.declares ⟨"java/lang/Throwable", "<init>", "()V"⟩) U ∧ va_Nw (.castable "java/lang/IllegalArgumentException" "java/lang/IllegalArgumentException") U ∧ va_Nw (.castable "java/lang/IllegalStateException" "java/lang/IllegalStateException") U ∧ va_Nw (.castable "java/lang/IndexOutOfBoundsException" "java/lang/IndexOutOfBoundsException") U
theorem xN.warm {s U : State} (hW : s.WarmedH U.vm) (h : xN s) : xN U := ⟨va_Nw.warmD hW h.1, va_Nw.warmD hW h.2.1, va_Nw.warmD hW h.2.2.1, va_Nw.warmC hW h.2.2.2.1, va_Nw.warmC hW h.2.2.2.2.1, va_Nw.warmC hW h.2.2.2.2.2⟩
theorem xN.same {s U : State} (e : s.vm = U.vm) (h : xN s) : xN U := ⟨va_Nw.same rfl e h.1, va_Nw.same rfl e h.2.1, va_Nw.same rfl e h.2.2.1, va_Nw.same rfl e h.2.2.2.1, va_Nw.same rfl e h.2.2.2.2.1, va_Nw.same rfl e h.2.2.2.2.2⟩
abbrev xZ (X : Nat → Prop) (U : State) : Prop := vx_Zq Bundle.tN "UNASSIGNED_STACK" Bundle.steD X U U.heap ∧ vx_Zq Bundle.tN "SUPPRESSED_SENTINEL" Bundle.listD X U U.heap
abbrev oPreX (D : va_G) (A : Nat → Nat) (cI : ClassId) (σ : OS) (sz : Nat) : State → Prop := fun U => oPre D A cI σ sz U ∧ xN U ∧ xZ (oX A cI σ sz) U
set_option maxRecDepth 20000 in
theorem nb_IAE : ∀ w ∈ (vx_at0 RX0 57 "java/lang/IllegalArgumentException" ["java/lang/RuntimeException", "java/lang/Exception"]).filter (fun w => !goodWord w), w ∈ ([.declares ⟨"java/lang/RuntimeException", "<init>", "()V"⟩, .declares ⟨"java/lang/Exception", "<init>", "()V"⟩, .declares ⟨"java/lang/Throwable", "<init>", "()V"⟩, .castable "java/lang/IllegalArgumentException" "java/lang/IllegalArgumentException"] : List Cond) := by decide +kernel
set_option maxRecDepth 20000 in
theorem ot_IAE : ∀ w ∈ Cond.classLink RX0 55 "java/lang/IllegalArgumentException" :: Cond.initialized "java/lang/IllegalArgumentException" :: vx_at0 RX0 57 "java/lang/IllegalArgumentException" ["java/lang/RuntimeException", "java/lang/Exception"], vx_ot w = true := by decide +kernel
theorem xh_IAE {args : Array Value} {s : State} (h1 : ∀ w ∈ xX0_IAE, w.before args s = true) (h : xN s) : ∀ w ∈ vx_at0 RX0 57 "java/lang/IllegalArgumentException" ["java/lang/RuntimeException", "java/lang/Exception"], w.before args s = true :=
  vx_hat h1 nb_IAE (vx_c (va_Nw.use rfl h.1) (vx_c (va_Nw.use rfl h.2.1) (vx_c (va_Nw.use rfl h.2.2.1) (vx_c (va_Nw.use rfl h.2.2.2.1) vx_n))))
set_option maxRecDepth 20000 in
theorem nb_ISE : ∀ w ∈ (vx_at0 RX0 60 "java/lang/IllegalStateException" ["java/lang/RuntimeException", "java/lang/Exception"]).filter (fun w => !goodWord w), w ∈ ([.declares ⟨"java/lang/RuntimeException", "<init>", "()V"⟩, .declares ⟨"java/lang/Exception", "<init>", "()V"⟩, .declares ⟨"java/lang/Throwable", "<init>", "()V"⟩, .castable "java/lang/IllegalStateException" "java/lang/IllegalStateException"] : List Cond) := by decide +kernel
set_option maxRecDepth 20000 in
theorem ot_ISE : ∀ w ∈ Cond.classLink RX0 58 "java/lang/IllegalStateException" :: Cond.initialized "java/lang/IllegalStateException" :: vx_at0 RX0 60 "java/lang/IllegalStateException" ["java/lang/RuntimeException", "java/lang/Exception"], vx_ot w = true := by decide +kernel
theorem xh_ISE {args : Array Value} {s : State} (h1 : ∀ w ∈ xX0_ISE, w.before args s = true) (h : xN s) : ∀ w ∈ vx_at0 RX0 60 "java/lang/IllegalStateException" ["java/lang/RuntimeException", "java/lang/Exception"], w.before args s = true :=
  vx_hat h1 nb_ISE (vx_c (va_Nw.use rfl h.1) (vx_c (va_Nw.use rfl h.2.1) (vx_c (va_Nw.use rfl h.2.2.1) (vx_c (va_Nw.use rfl h.2.2.2.2.1) vx_n))))
set_option maxRecDepth 20000 in
theorem nb_IOB : ∀ w ∈ (vx_at0 RX0 111 "java/lang/IndexOutOfBoundsException" ["java/lang/RuntimeException", "java/lang/Exception"]).filter (fun w => !goodWord w), w ∈ ([.declares ⟨"java/lang/RuntimeException", "<init>", "()V"⟩, .declares ⟨"java/lang/Exception", "<init>", "()V"⟩, .declares ⟨"java/lang/Throwable", "<init>", "()V"⟩, .castable "java/lang/IndexOutOfBoundsException" "java/lang/IndexOutOfBoundsException"] : List Cond) := by decide +kernel
set_option maxRecDepth 20000 in
theorem ot_IOB : ∀ w ∈ Cond.classLink RX0 109 "java/lang/IndexOutOfBoundsException" :: Cond.initialized "java/lang/IndexOutOfBoundsException" :: vx_at0 RX0 111 "java/lang/IndexOutOfBoundsException" ["java/lang/RuntimeException", "java/lang/Exception"], vx_ot w = true := by decide +kernel
theorem xh_IOB {args : Array Value} {s : State} (h1 : ∀ w ∈ xX0_IOB, w.before args s = true) (h : xN s) : ∀ w ∈ vx_at0 RX0 111 "java/lang/IndexOutOfBoundsException" ["java/lang/RuntimeException", "java/lang/Exception"], w.before args s = true :=
  vx_hat h1 nb_IOB (vx_c (va_Nw.use rfl h.1) (vx_c (va_Nw.use rfl h.2.1) (vx_c (va_Nw.use rfl h.2.2.1) (vx_c (va_Nw.use rfl h.2.2.2.2.2) vx_n))))
/-! which of its ends a call has: 0 it returns, 1 and 2 it throws -/
def k_args (key v : Int32) : Bool := f_below key 64 && f_below v 65536
def k_put (σ : OS) (key v : Int32) : Nat := if k_args key v = false then 1 else if oOn σ = 0 ∨ ¬ oBo σ = 0 then 2 else 0
def k_get (σ : OS) (key : Int32) : Nat := if f_below key 64 = false then 1 else if oOn σ = 0 then 2 else 0
def k_wm (σ : OS) (key v : Int32) : Nat := if k_args key v = false then 1 else if oOn σ = 0 then 2 else 0
def k_begin (σ : OS) : Nat := if oOn σ = 0 ∨ ¬ oBo σ = 0 then 1 else 0
def k_open (σ : OS) : Nat := if oOn σ = 0 ∨ oBo σ = 0 then 1 else 0
def k_stage (σ : OS) (nb : Nat) (key v : Int32) : Nat := if k_args key v = false ∨ f_isSt (oK σ) key nb 0 = true then 1 else if oOn σ = 0 ∨ oBo σ = 0 ∨ ¬ nb < 8 then 2 else 0
def k_left (x : Int32) : Nat := if x.toInt < 0 ∨ 3 < x.toInt then 1 else 0
def k_fail (σ : OS) (x : Int32) : Nat := if ¬ x = -1 ∧ (x < 0 ∨ ¬ x ≤ 1000) then 1 else if oOn σ = 0 then 2 else 0
def k_mount (σ : OS) : Nat := if oOn σ = 0 then 0 else 1
def k_words (key : Int32) : Nat := if f_below key 64 = false then 1 else 0
def k_hist (σ : OS) (key j : Int32) : Nat := if f_below key 64 = false then 1 else if f_num (oT σ) key j 160 0 0 = -1 then 2 else 0
def k_cell (a b d : Int32) : Nat := if a = 0 ∧ f_below b 160 = true ∧ f_below d 24 = true then 0 else if a = 1 ∧ f_below b 160 = true ∧ f_below d 8 = true then 0 else if a = 2 ∧ f_below b 360 = true ∧ f_below d 32 = true then 0 else 1
/-! what it answers then, and the state behind it -/
def r_put (σ : OS) (key v : Int32) : Int32 := if f_takes (oW σ) (oT σ) key v 0 = -1 then -1 else if (f_put σ (f_takes (oW σ) (oT σ) key v 0).toNatClampNeg key v).1 = true then oWr (f_put σ (f_takes (oW σ) (oT σ) key v 0).toNatClampNeg key v).2 - oWr σ else -2
def s_put (σ : OS) (key v : Int32) : OS := if f_takes (oW σ) (oT σ) key v 0 = -1 then σ else (f_put σ (f_takes (oW σ) (oT σ) key v 0).toNatClampNeg key v).2
def r_get (σ : OS) (key : Int32) : Int32 := if f_pres (oT σ) key 160 = -1 then -1 else f_mw (oW σ (f_pres (oT σ) key 160).toNatClampNeg)
def r_wm (σ : OS) (key v : Int32) : Bool := !f_stay (oW σ) (f_pres (oT σ) key 160) v
def s_begin (σ : OS) : OS := mkO (oW σ) (oT σ) (oL σ) (oSet σ) (oWr σ) (oOn σ) (oUn σ) (oK σ) (oV σ) (oP σ) 1 (oBs σ)
def s_stage (σ : OS) (nb : Nat) (key v : Int32) : OS := mkO (oW σ) (oT σ) (oL σ) (oSet σ) (oWr σ) (oOn σ) (oUn σ) (upd (oK σ) nb key) (upd (oV σ) nb v) (oP σ) (oBo σ) (nI (nb + 1))
def s_fail (σ : OS) (x : Int32) : OS := mkO (oW σ) (oT σ) (oL σ) (oSet σ) (oWr σ) (oOn σ) x (oK σ) (oV σ) (oP σ) (oBo σ) (oBs σ)
def r_left (σ : OS) (x : Int32) : Int32 := if x = 0 then f_cnt (f_fresh (oW σ) (oT σ)) 160 0 0 else if x = 1 then f_cnt (f_empty (oL σ)) 40 0 0 else if x = 2 then oSet σ else oWr σ
def r_cell (σ : OS) (a b d : Int32) : Int32 := if a = 0 then uS (oW σ b.toNatClampNeg) d &&& 1 else if a = 1 then uS (oT σ b.toNatClampNeg) d &&& 1 else uS (oL σ b.toNatClampNeg) d &&& 1
def r_hist (σ : OS) (key j : Int32) : Int32 := f_mw (oW σ (f_num (oT σ) key j 160 0 0).toNatClampNeg)
def f_noteOf (σ : OS) : Nat := (f_first (f_empty (oL σ)) 40 0).toNatClampNeg
def f_run (σ : OS) (nb : Nat) : Bool × OS := if (f_note (f_plan σ nb).2 (f_noteOf σ) nb).1 = true then f_car (f_note (f_plan σ nb).2 (f_noteOf σ) nb).2 (f_noteOf σ) else (false, (f_note (f_plan σ nb).2 (f_noteOf σ) nb).2)
def r_commit (σ : OS) (nb : Nat) : Int32 := if nb = 0 then 0 else if f_first (f_empty (oL σ)) 40 0 = -1 then -1 else if (f_plan σ nb).1 = false then -1 else if (f_run σ nb).1 = true then oWr (f_run σ nb).2 - oWr (f_plan σ nb).2 else -2
def s_commit (σ : OS) (nb : Nat) : OS := if nb = 0 then f_close σ else if f_first (f_empty (oL σ)) 40 0 = -1 then σ else if (f_plan σ nb).1 = false then (f_plan σ nb).2 else f_close (f_run σ nb).2
def f_mountL : Nat → Nat → OS → OS
  | 0, _, σ => σ
  | n + 1, i, σ => f_mountL n (i + 1) (if oL σ (i * 9 + 8) = 1 then (f_car σ i).2 else σ)
def f_mount0 (σ : OS) : OS := f_close (mkO (oW σ) (oT σ) (oL σ) (oSet σ) (oWr σ) 1 (-1) (oK σ) (oV σ) (oP σ) (oBo σ) (oBs σ))
def s_mount (σ : OS) : OS := f_mountL 40 0 (f_mount0 σ)
def r_mount (σ : OS) : Int32 := f_cnt (fun k => decide (¬ f_pres (oT (s_mount σ)) (nI k) 160 = -1)) 64 0 0
theorem f_num_in (t : Nat → Int32) (key j : Int32) : ∀ n w b, f_num t key j n w b = -1 ∨ ∃ k, w ≤ k ∧ k < w + n ∧ f_num t key j n w b = nI k
  | 0, _, _ => Or.inl rfl
  | n + 1, w, b => by
    by_cases h1 : t w = key + 128
    · by_cases h2 : b = j
      · exact Or.inr ⟨w, by omega, by omega, by rw [f_num, if_pos h1, if_pos h2]⟩
      · rcases f_num_in t key j n (w + 1) (b + 1) with h | ⟨k, k1, k2, k3⟩
        · exact Or.inl (by rw [f_num, if_pos h1, if_neg h2]; exact h)
        · exact Or.inr ⟨k, by omega, by omega, by rw [f_num, if_pos h1, if_neg h2]; exact k3⟩
    · rcases f_num_in t key j n (w + 1) b with h | ⟨k, k1, k2, k3⟩
      · exact Or.inl (by rw [f_num, if_neg h1]; exact h)
      · exact Or.inr ⟨k, by omega, by omega, by rw [f_num, if_neg h1]; exact k3⟩
theorem f_below_in {b n : Int32} {N : Nat} (hn : n = nI N) (hN : N < 2 ^ 31) (h : f_below b n = true) : vp_in b N := by
  obtain ⟨h1, h2⟩ := of_decide_eq_true h
  rw [hn] at h2
  obtain ⟨j, hj, e, -⟩ := pk_mu h1 h2 hN
  rw [e]
  exact vp_in_nI hj hN

