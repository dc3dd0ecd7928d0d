/-! a step of the pure machine is a step of the machine -/
def tm_isN (w : Cond) : Bool := match w with
  | .methodLinkNest .. => true
  | _ => false
def tm_Cx (b bs : Nat) (dC : Nat → ClassId) (dI : Nat → Nat → Nat) (cA : Nat → ClassId) (X : tX) (p : Program) (R : Room) (s : State) (mI : MethodId) (args : Array Value) (meth : Method) (c : Code) (m : Nat) : Prop :=
  p.tables.exec = Jvm.exec ∧ c.code = mB m ∧ c.maxLocals = mL m ∧ s.vm.findClass (tm_cn (mO m)) = some mI.cls ∧ (∀ w ∈ tm_gw, w.before args s = true) ∧ meth.sig.returnType = mT m ∧ meth.locks = false ∧ (mK m = 2 → meth.name = "<init>") ∧ va_K (dC, dI) vwCl (tm_tys cA) s ∧ (∀ w ∈ lw_tbl, tm_isN w = true → va_Nw w s) ∧ va_AO RX4 s ∧ mF m ≤ R.frames ∧ mN m ≤ R.locals ∧ va_X b X.1 X.2 s s.heap ∧ b < bs ∧ bs ≤ s.heap.size
abbrev tm_KK (p : Program) (l : Launch) (e : Env) (R : Room) (s : State) (mI : MethodId) (args : Array Value) (below : List Frame) (meth : Method) (c : Code) (cells slots : Nat) (Q : State → Prop) (b bs : Nat) (dC : Nat → ClassId) (dI : Nat → Nat → Nat) (cA : Nat → ClassId) (m : Nat) (M : tM) (pc' : Nat) (L' : tL) (S' : List Value) (M1 : tM) : Prop :=
  ∀ (H1 : Heap) (locs1 : List Loc) (ls1 : Array Slot), tm_lv b bs ls1 (mL m) L' → tm_Rep bs dC dI cA M1 H1 → va_S (fun q => bs ≤ q) s.heap H1 locs1 → W p l e R s mI args below meth c H1 locs1 (cells + (M1.1.1 - M.1.1)) (slots + (M1.1.2.1 - M.1.2.1)) Q (F0 mI pc' ls1 (S'.map (tm_rl b bs)))
theorem tm_nofd : ∀ c, c < 12 → ∀ k, k < 80 → tm_ty c k ≠ .float ∧ tm_ty c k ≠ .double := by decide +kernel
theorem tm_N80 : ∀ q ∈ vwCl, q.2.2 ≤ 80 := by decide +kernel
theorem tm_ws_new {bs : Nat} {cA : Nat → ClassId} {M : tM} {kd n : Nat} : tm_ws bs cA M ++ [(bs + M.1.1, tm_cell bs cA (kd, n) (fun _ => 0) (fun _ => 0) (fun _ => none))] = tm_ws bs cA (tm_new M kd n) := by
  unfold tm_ws tm_new
  dsimp only
  rw [List.range_succ, List.map_append]
  congr 1
  · apply List.map_congr_left
    intro o ho
    have h : o ≠ M.1.1 := Nat.ne_of_lt (List.mem_range.mp ho)
    simp only [va_up, if_neg h]
  · simp [va_up]
theorem tm_fit_new {M : tM} {kd n : Nat} (h : tm_Fit M) : tm_Fit (tm_new M kd n) := by
  intro o ho hk j
  by_cases e : o = M.1.1
  · subst e
    simp only [tm_new, va_up, if_pos]
    decide
  · simp only [tm_new, va_up, if_neg e] at ho hk ⊢
    exact h o (by omega) hk j
theorem tm_fit_put {M : tM} {o k : Nat} {v : Value} (h : tm_Fit M) (hv : (M.1.2.2 o).1 = 101 → ∀ x, v = .int x → fits .byte (.int x) = true) : tm_Fit (tm_put M o k v) := by
  cases v with
  | int x =>
    intro q hq hk j
    by_cases e : q = o
    · subst e
      by_cases e2 : j = k
      · subst e2
        simp only [tm_put, va_up, if_pos]
        exact hv hk x rfl
      · simp only [tm_put, va_up, if_pos, if_neg e2]
        exact h q hq hk j
    · simp only [tm_put, va_up, if_neg e]
      exact h q hq hk j
  | _ => exact h
theorem tm_put_E {M : tM} {o k : Nat} {v : Value} : (tm_put M o k v).1 = M.1 := by cases v <;> rfl
theorem tm_put_ne {M : tM} {o k : Nat} {v : Value} : ∀ q, q ≠ o → (tm_put M o k v).2.1 q = M.2.1 q ∧ (tm_put M o k v).2.2.1 q = M.2.2.1 q ∧ (tm_put M o k v).2.2.2 q = M.2.2.2 q := by
  intro q hq
  cases v <;> simp [tm_put, va_up, hq]
theorem tm_nar_fit (x : Int32) : fits .byte (.int (vp_nar .byte x)) = true := by rw [vp_nar_byte]; exact pk_fb x
section TMS
variable {p : Program} {l : Launch} {e : Env} {R : Room} {s : State} {mI : MethodId} {args : Array Value} {below : List Frame} {meth : Method} {c : Code} {H : Heap} {locs : List Loc} {cells slots : Nat} {Q : State → Prop} {b bs : Nat} {dC : Nat → ClassId} {dI : Nat → Nat → Nat} {cA : Nat → ClassId} {X : tX} {m pc len : Nat} {ls : Array Slot} {L L1 : tL} {S S1 : List Value} {M M1 : tM} {pc1 : Nat}
theorem tm_fresh {q slots1 : Nat} {ee : va_E} {H1 : Heap} {g : JFrame} (hP1 : va_P (dC, dI) vwCl (tm_ws bs cA M ++ [(q, ee)]) H1) (hD1 : va_D (fun q => bs ≤ q) (tm_ws bs cA M ++ [(q, ee)])) (hc : s.heap.size + cells = bs + M.1.1) (kk : q = bs + M.1.1 → W p l e R s mI args below meth c H1 locs (cells + 1) slots1 Q g) : W p l e R s mI args below meth c H1 locs (cells + 1) slots1 Q g := by
  intro T hT Y
  have h1 := Y.heapSize
  rw [hT] at h1
  have hlen : (tm_ws bs cA M).length = M.1.1 := by simp [tm_ws]
  have hlast : (tm_ws bs cA M ++ [(q, ee)])[M.1.1]? = some (q, ee) := by
    rw [List.getElem?_append_right (by omega), hlen]
    simp
  have hq : q < H1.size := (hP1 M.1.1 _ hlast).lt
  have hge : bs ≤ q := hD1.2 M.1.1 _ hlast
  have hne : ∀ o, o < M.1.1 → q ≠ bs + o := fun o ho e => by
    have h2 : (tm_ws bs cA M ++ [(q, ee)])[o]? = some (bs + o, tm_cell bs cA (M.1.2.2 o) (M.2.1 o) (M.2.2.1 o) (M.2.2.2 o)) := by
      rw [List.getElem?_append_left (by omega)]
      exact tm_ws_get ho
    have := hD1.1 o M.1.1 _ _ h2 hlast e.symm
    omega
  have h5 : q = bs + M.1.1 := by
    rcases Nat.lt_or_ge (q - bs) M.1.1 with h | h
    · exact absurd (by omega) (hne (q - bs) h)
    · omega
  exact kk h5 T hT Y
theorem ts_iconst {n : Int} (hd : decode (mB m) pc = .ok (.iconst n, len)) (h : tm_stp X m (.iconst n) len pc L S M = some (pc1, L1, S1, M1)) (C : tm_Cx b bs dC dI cA X p R s mI args meth c m) (hl : tm_lv b bs ls (mL m) L) (hr : tm_Rep bs dC dI cA M H) (hS : va_S (fun q => bs ≤ q) s.heap H locs) (hc : s.heap.size + cells = bs + M.1.1) (hrc : cells + (M1.1.1 - M.1.1) ≤ R.cells) (hrs : slots + (M1.1.2.1 - M.1.2.1) ≤ R.slots) (k : tm_KK p l e R s mI args below meth c cells slots Q b bs dC dI cA m M pc1 L1 S1 M1) : W p l e R s mI args below meth c H locs cells slots Q (F0 mI pc ls (S.map (tm_rl b bs))) := by
  obtain ⟨hx, hb, hml, hown, hts, hret, hlk, hnm, hK, hN, hAO, hF, hNl, hX, hbb, hbs⟩ := C
  simp only [tm_stp] at h
  split at h
  · rename_i e1
    subst e1
    cases h
    have k0 := k H locs ls hl hr hS
    simp only [Nat.sub_self, Nat.add_zero] at k0
    exact lv_iconst hx hb hd rfl k0
  · cases h
theorem ts_bipush {n : Int} (hd : decode (mB m) pc = .ok (.bipush n, len)) (h : tm_stp X m (.bipush n) len pc L S M = some (pc1, L1, S1, M1)) (C : tm_Cx b bs dC dI cA X p R s mI args meth c m) (hl : tm_lv b bs ls (mL m) L) (hr : tm_Rep bs dC dI cA M H) (hS : va_S (fun q => bs ≤ q) s.heap H locs) (hc : s.heap.size + cells = bs + M.1.1) (hrc : cells + (M1.1.1 - M.1.1) ≤ R.cells) (hrs : slots + (M1.1.2.1 - M.1.2.1) ≤ R.slots) (k : tm_KK p l e R s mI args below meth c cells slots Q b bs dC dI cA m M pc1 L1 S1 M1) : W p l e R s mI args below meth c H locs cells slots Q (F0 mI pc ls (S.map (tm_rl b bs))) := by
  obtain ⟨hx, hb, hml, hown, hts, hret, hlk, hnm, hK, hN, hAO, hF, hNl, hX, hbb, hbs⟩ := C
  simp only [tm_stp] at h
  split at h
  · rename_i e1
    subst e1
    cases h
    have k0 := k H locs ls hl hr hS
    simp only [Nat.sub_self, Nat.add_zero] at k0
    exact lv_bipush hx hb hd rfl k0
  · cases h
theorem ts_sipush {n : Int} (hd : decode (mB m) pc = .ok (.sipush n, len)) (h : tm_stp X m (.sipush n) len pc L S M = some (pc1, L1, S1, M1)) (C : tm_Cx b bs dC dI cA X p R s mI args meth c m) (hl : tm_lv b bs ls (mL m) L) (hr : tm_Rep bs dC dI cA M H) (hS : va_S (fun q => bs ≤ q) s.heap H locs) (hc : s.heap.size + cells = bs + M.1.1) (hrc : cells + (M1.1.1 - M.1.1) ≤ R.cells) (hrs : slots + (M1.1.2.1 - M.1.2.1) ≤ R.slots) (k : tm_KK p l e R s mI args below meth c cells slots Q b bs dC dI cA m M pc1 L1 S1 M1) : W p l e R s mI args below meth c H locs cells slots Q (F0 mI pc ls (S.map (tm_rl b bs))) := by
  obtain ⟨hx, hb, hml, hown, hts, hret, hlk, hnm, hK, hN, hAO, hF, hNl, hX, hbb, hbs⟩ := C
  simp only [tm_stp] at h
  split at h
  · rename_i e1
    subst e1
    cases h
    have k0 := k H locs ls hl hr hS
    simp only [Nat.sub_self, Nat.add_zero] at k0
    exact lv_sipush hx hb hd rfl k0
  · cases h
theorem ts_lconst {n : Fin 2} (hd : decode (mB m) pc = .ok (.lconst n, len)) (h : tm_stp X m (.lconst n) len pc L S M = some (pc1, L1, S1, M1)) (C : tm_Cx b bs dC dI cA X p R s mI args meth c m) (hl : tm_lv b bs ls (mL m) L) (hr : tm_Rep bs dC dI cA M H) (hS : va_S (fun q => bs ≤ q) s.heap H locs) (hc : s.heap.size + cells = bs + M.1.1) (hrc : cells + (M1.1.1 - M.1.1) ≤ R.cells) (hrs : slots + (M1.1.2.1 - M.1.2.1) ≤ R.slots) (k : tm_KK p l e R s mI args below meth c cells slots Q b bs dC dI cA m M pc1 L1 S1 M1) : W p l e R s mI args below meth c H locs cells slots Q (F0 mI pc ls (S.map (tm_rl b bs))) := by
  obtain ⟨hx, hb, hml, hown, hts, hret, hlk, hnm, hK, hN, hAO, hF, hNl, hX, hbb, hbs⟩ := C
  simp only [tm_stp] at h
  split at h
  · rename_i e1
    subst e1
    cases h
    have k0 := k H locs ls hl hr hS
    simp only [Nat.sub_self, Nat.add_zero] at k0
    exact lv_lconst hx hb hd rfl k0
  · cases h
theorem ts_aconst_null (hd : decode (mB m) pc = .ok (.aconst_null, len)) (h : tm_stp X m (.aconst_null) len pc L S M = some (pc1, L1, S1, M1)) (C : tm_Cx b bs dC dI cA X p R s mI args meth c m) (hl : tm_lv b bs ls (mL m) L) (hr : tm_Rep bs dC dI cA M H) (hS : va_S (fun q => bs ≤ q) s.heap H locs) (hc : s.heap.size + cells = bs + M.1.1) (hrc : cells + (M1.1.1 - M.1.1) ≤ R.cells) (hrs : slots + (M1.1.2.1 - M.1.2.1) ≤ R.slots) (k : tm_KK p l e R s mI args below meth c cells slots Q b bs dC dI cA m M pc1 L1 S1 M1) : W p l e R s mI args below meth c H locs cells slots Q (F0 mI pc ls (S.map (tm_rl b bs))) := by
  obtain ⟨hx, hb, hml, hown, hts, hret, hlk, hnm, hK, hN, hAO, hF, hNl, hX, hbb, hbs⟩ := C
  simp only [tm_stp] at h
  split at h
  · rename_i e1
    subst e1
    cases h
    have k0 := k H locs ls hl hr hS
    simp only [Nat.sub_self, Nat.add_zero] at k0
    exact lv_null hx hb hd k0
  · cases h
theorem ts_ldc {k1 : Nat} (hd : decode (mB m) pc = .ok (.ldc k1, len)) (h : tm_stp X m (.ldc k1) len pc L S M = some (pc1, L1, S1, M1)) (C : tm_Cx b bs dC dI cA X p R s mI args meth c m) (hl : tm_lv b bs ls (mL m) L) (hr : tm_Rep bs dC dI cA M H) (hS : va_S (fun q => bs ≤ q) s.heap H locs) (hc : s.heap.size + cells = bs + M.1.1) (hrc : cells + (M1.1.1 - M.1.1) ≤ R.cells) (hrs : slots + (M1.1.2.1 - M.1.2.1) ≤ R.slots) (k : tm_KK p l e R s mI args below meth c cells slots Q b bs dC dI cA m M pc1 L1 S1 M1) : W p l e R s mI args below meth c H locs cells slots Q (F0 mI pc ls (S.map (tm_rl b bs))) := by
  obtain ⟨hx, hb, hml, hown, hts, hret, hlk, hnm, hK, hN, hAO, hF, hNl, hX, hbb, hbs⟩ := C
  simp only [tm_stp] at h
  split at h
  · rename_i e1
    subst e1
    split at h
    · rename_i v hv
      cases h
      have k0 := k H locs ls hl hr hS
      simp only [Nat.sub_self, Nat.add_zero] at k0
      exact lv_ldc hx hb hown (hts _ (tm_ki_ok hv)) hd k0
    · cases h
  · cases h
theorem ts_ldc2_w {k1 : Nat} (hd : decode (mB m) pc = .ok (.ldc2_w k1, len)) (h : tm_stp X m (.ldc2_w k1) len pc L S M = some (pc1, L1, S1, M1)) (C : tm_Cx b bs dC dI cA X p R s mI args meth c m) (hl : tm_lv b bs ls (mL m) L) (hr : tm_Rep bs dC dI cA M H) (hS : va_S (fun q => bs ≤ q) s.heap H locs) (hc : s.heap.size + cells = bs + M.1.1) (hrc : cells + (M1.1.1 - M.1.1) ≤ R.cells) (hrs : slots + (M1.1.2.1 - M.1.2.1) ≤ R.slots) (k : tm_KK p l e R s mI args below meth c cells slots Q b bs dC dI cA m M pc1 L1 S1 M1) : W p l e R s mI args below meth c H locs cells slots Q (F0 mI pc ls (S.map (tm_rl b bs))) := by
  obtain ⟨hx, hb, hml, hown, hts, hret, hlk, hnm, hK, hN, hAO, hF, hNl, hX, hbb, hbs⟩ := C
  simp only [tm_stp] at h
  split at h
  · rename_i e1
    subst e1
    split at h
    · rename_i v hv
      cases h
      have k0 := k H locs ls hl hr hS
      simp only [Nat.sub_self, Nat.add_zero] at k0
      exact lv_ldc2 hx hb hown (hts _ (tm_kl_ok hv)) hd k0
    · cases h
  · cases h
theorem ts_iload_n {k1 : Fin 4} (hd : decode (mB m) pc = .ok (.iload_n k1, len)) (h : tm_stp X m (.iload_n k1) len pc L S M = some (pc1, L1, S1, M1)) (C : tm_Cx b bs dC dI cA X p R s mI args meth c m) (hl : tm_lv b bs ls (mL m) L) (hr : tm_Rep bs dC dI cA M H) (hS : va_S (fun q => bs ≤ q) s.heap H locs) (hc : s.heap.size + cells = bs + M.1.1) (hrc : cells + (M1.1.1 - M.1.1) ≤ R.cells) (hrs : slots + (M1.1.2.1 - M.1.2.1) ≤ R.slots) (k : tm_KK p l e R s mI args below meth c cells slots Q b bs dC dI cA m M pc1 L1 S1 M1) : W p l e R s mI args below meth c H locs cells slots Q (F0 mI pc ls (S.map (tm_rl b bs))) := by
  obtain ⟨hx, hb, hml, hown, hts, hret, hlk, hnm, hK, hN, hAO, hF, hNl, hX, hbb, hbs⟩ := C
  simp only [tm_stp] at h
  split at h
  · rename_i e1
    subst e1
    split at h
    · rename_i x hv
      cases h
      have k0 := k H locs ls hl hr hS
      simp only [Nat.sub_self, Nat.add_zero] at k0
      exact lv_iload_n hx hb hd rfl (tm_lg_at hl hv) k0
    · cases h
  · cases h
theorem ts_iload {k1 : Nat} (hd : decode (mB m) pc = .ok (.iload k1, len)) (h : tm_stp X m (.iload k1) len pc L S M = some (pc1, L1, S1, M1)) (C : tm_Cx b bs dC dI cA X p R s mI args meth c m) (hl : tm_lv b bs ls (mL m) L) (hr : tm_Rep bs dC dI cA M H) (hS : va_S (fun q => bs ≤ q) s.heap H locs) (hc : s.heap.size + cells = bs + M.1.1) (hrc : cells + (M1.1.1 - M.1.1) ≤ R.cells) (hrs : slots + (M1.1.2.1 - M.1.2.1) ≤ R.slots) (k : tm_KK p l e R s mI args below meth c cells slots Q b bs dC dI cA m M pc1 L1 S1 M1) : W p l e R s mI args below meth c H locs cells slots Q (F0 mI pc ls (S.map (tm_rl b bs))) := by
  obtain ⟨hx, hb, hml, hown, hts, hret, hlk, hnm, hK, hN, hAO, hF, hNl, hX, hbb, hbs⟩ := C
  simp only [tm_stp] at h
  split at h
  · rename_i e1
    subst e1
    split at h
    · rename_i x hv
      cases h
      have k0 := k H locs ls hl hr hS
      simp only [Nat.sub_self, Nat.add_zero] at k0
      exact lv_iload hx hb hd (tm_lg_at hl hv) k0
    · cases h
  · cases h
theorem ts_lload_n {k1 : Fin 4} (hd : decode (mB m) pc = .ok (.lload_n k1, len)) (h : tm_stp X m (.lload_n k1) len pc L S M = some (pc1, L1, S1, M1)) (C : tm_Cx b bs dC dI cA X p R s mI args meth c m) (hl : tm_lv b bs ls (mL m) L) (hr : tm_Rep bs dC dI cA M H) (hS : va_S (fun q => bs ≤ q) s.heap H locs) (hc : s.heap.size + cells = bs + M.1.1) (hrc : cells + (M1.1.1 - M.1.1) ≤ R.cells) (hrs : slots + (M1.1.2.1 - M.1.2.1) ≤ R.slots) (k : tm_KK p l e R s mI args below meth c cells slots Q b bs dC dI cA m M pc1 L1 S1 M1) : W p l e R s mI args below meth c H locs cells slots Q (F0 mI pc ls (S.map (tm_rl b bs))) := by
  obtain ⟨hx, hb, hml, hown, hts, hret, hlk, hnm, hK, hN, hAO, hF, hNl, hX, hbb, hbs⟩ := C
  simp only [tm_stp] at h
  split at h
  · rename_i e1
    subst e1
    split at h
    · rename_i x hv
      cases h
      have k0 := k H locs ls hl hr hS
      simp only [Nat.sub_self, Nat.add_zero] at k0
      exact lv_lload_n hx hb hd rfl (tm_lg_at hl hv) k0
    · cases h
  · cases h
theorem ts_lload {k1 : Nat} (hd : decode (mB m) pc = .ok (.lload k1, len)) (h : tm_stp X m (.lload k1) len pc L S M = some (pc1, L1, S1, M1)) (C : tm_Cx b bs dC dI cA X p R s mI args meth c m) (hl : tm_lv b bs ls (mL m) L) (hr : tm_Rep bs dC dI cA M H) (hS : va_S (fun q => bs ≤ q) s.heap H locs) (hc : s.heap.size + cells = bs + M.1.1) (hrc : cells + (M1.1.1 - M.1.1) ≤ R.cells) (hrs : slots + (M1.1.2.1 - M.1.2.1) ≤ R.slots) (k : tm_KK p l e R s mI args below meth c cells slots Q b bs dC dI cA m M pc1 L1 S1 M1) : W p l e R s mI args below meth c H locs cells slots Q (F0 mI pc ls (S.map (tm_rl b bs))) := by
  obtain ⟨hx, hb, hml, hown, hts, hret, hlk, hnm, hK, hN, hAO, hF, hNl, hX, hbb, hbs⟩ := C
  simp only [tm_stp] at h
  split at h
  · rename_i e1
    subst e1
    split at h
    · rename_i x hv
      cases h
      have k0 := k H locs ls hl hr hS
      simp only [Nat.sub_self, Nat.add_zero] at k0
      exact lv_lload hx hb hd (tm_lg_at hl hv) k0
    · cases h
  · cases h
theorem ts_aload_n {k1 : Fin 4} (hd : decode (mB m) pc = .ok (.aload_n k1, len)) (h : tm_stp X m (.aload_n k1) len pc L S M = some (pc1, L1, S1, M1)) (C : tm_Cx b bs dC dI cA X p R s mI args meth c m) (hl : tm_lv b bs ls (mL m) L) (hr : tm_Rep bs dC dI cA M H) (hS : va_S (fun q => bs ≤ q) s.heap H locs) (hc : s.heap.size + cells = bs + M.1.1) (hrc : cells + (M1.1.1 - M.1.1) ≤ R.cells) (hrs : slots + (M1.1.2.1 - M.1.2.1) ≤ R.slots) (k : tm_KK p l e R s mI args below meth c cells slots Q b bs dC dI cA m M pc1 L1 S1 M1) : W p l e R s mI args below meth c H locs cells slots Q (F0 mI pc ls (S.map (tm_rl b bs))) := by
  obtain ⟨hx, hb, hml, hown, hts, hret, hlk, hnm, hK, hN, hAO, hF, hNl, hX, hbb, hbs⟩ := C
  simp only [tm_stp] at h
  split at h
  · rename_i e1
    subst e1
    split at h
    · rename_i x hv
      cases h
      have k0 := k H locs ls hl hr hS
      simp only [Nat.sub_self, Nat.add_zero] at k0
      exact lv_aload_n hx hb hd rfl (tm_lg_at hl hv) k0
    · rename_i hv
      cases h
      have k0 := k H locs ls hl hr hS
      simp only [Nat.sub_self, Nat.add_zero] at k0
      exact lv_aload_nN hx hb hd rfl (tm_lg_at hl hv) k0
    · rename_i x hv
      cases h
      have k0 := k H locs ls hl hr hS
      simp only [Nat.sub_self, Nat.add_zero] at k0
      exact lv_aload_n hx hb hd rfl (tm_lg_at hl hv) k0
    · cases h
  · cases h
theorem ts_aload {k1 : Nat} (hd : decode (mB m) pc = .ok (.aload k1, len)) (h : tm_stp X m (.aload k1) len pc L S M = some (pc1, L1, S1, M1)) (C : tm_Cx b bs dC dI cA X p R s mI args meth c m) (hl : tm_lv b bs ls (mL m) L) (hr : tm_Rep bs dC dI cA M H) (hS : va_S (fun q => bs ≤ q) s.heap H locs) (hc : s.heap.size + cells = bs + M.1.1) (hrc : cells + (M1.1.1 - M.1.1) ≤ R.cells) (hrs : slots + (M1.1.2.1 - M.1.2.1) ≤ R.slots) (k : tm_KK p l e R s mI args below meth c cells slots Q b bs dC dI cA m M pc1 L1 S1 M1) : W p l e R s mI args below meth c H locs cells slots Q (F0 mI pc ls (S.map (tm_rl b bs))) := by
  obtain ⟨hx, hb, hml, hown, hts, hret, hlk, hnm, hK, hN, hAO, hF, hNl, hX, hbb, hbs⟩ := C
  simp only [tm_stp] at h
  split at h
  · rename_i e1
    subst e1
    split at h
    · rename_i x hv
      cases h
      have k0 := k H locs ls hl hr hS
      simp only [Nat.sub_self, Nat.add_zero] at k0
      exact lv_aload hx hb hd (tm_lg_at hl hv) k0
    · rename_i hv
      cases h
      have k0 := k H locs ls hl hr hS
      simp only [Nat.sub_self, Nat.add_zero] at k0
      exact lv_aloadN hx hb hd (tm_lg_at hl hv) k0
    · rename_i x hv
      cases h
      have k0 := k H locs ls hl hr hS
      simp only [Nat.sub_self, Nat.add_zero] at k0
      exact lv_aload hx hb hd (tm_lg_at hl hv) k0
    · cases h
  · cases h
theorem ts_istore_n {k1 : Fin 4} (hd : decode (mB m) pc = .ok (.istore_n k1, len)) (h : tm_stp X m (.istore_n k1) len pc L S M = some (pc1, L1, S1, M1)) (C : tm_Cx b bs dC dI cA X p R s mI args meth c m) (hl : tm_lv b bs ls (mL m) L) (hr : tm_Rep bs dC dI cA M H) (hS : va_S (fun q => bs ≤ q) s.heap H locs) (hc : s.heap.size + cells = bs + M.1.1) (hrc : cells + (M1.1.1 - M.1.1) ≤ R.cells) (hrs : slots + (M1.1.2.1 - M.1.2.1) ≤ R.slots) (k : tm_KK p l e R s mI args below meth c cells slots Q b bs dC dI cA m M pc1 L1 S1 M1) : W p l e R s mI args below meth c H locs cells slots Q (F0 mI pc ls (S.map (tm_rl b bs))) := by
  obtain ⟨hx, hb, hml, hown, hts, hret, hlk, hnm, hK, hN, hAO, hF, hNl, hX, hbb, hbs⟩ := C
  simp only [tm_stp] at h
  split at h
  · rename_i e1
    obtain ⟨e1, hk⟩ := e1
    subst e1
    split at h
    · rename_i x S2
      cases h
      refine lv_istore_n hx hb hd rfl hl.has (by have := hl.2.1; omega) rfl (fun ls1 h1 => ?_)
      have k0 := k H locs ls1 (tm_lv_st1 (v := .int x) hl.2.1 hk rfl h1) hr hS
      simp only [Nat.sub_self, Nat.add_zero] at k0
      exact k0
    · cases h
  · cases h
theorem ts_istore {k1 : Nat} (hd : decode (mB m) pc = .ok (.istore k1, len)) (h : tm_stp X m (.istore k1) len pc L S M = some (pc1, L1, S1, M1)) (C : tm_Cx b bs dC dI cA X p R s mI args meth c m) (hl : tm_lv b bs ls (mL m) L) (hr : tm_Rep bs dC dI cA M H) (hS : va_S (fun q => bs ≤ q) s.heap H locs) (hc : s.heap.size + cells = bs + M.1.1) (hrc : cells + (M1.1.1 - M.1.1) ≤ R.cells) (hrs : slots + (M1.1.2.1 - M.1.2.1) ≤ R.slots) (k : tm_KK p l e R s mI args below meth c cells slots Q b bs dC dI cA m M pc1 L1 S1 M1) : W p l e R s mI args below meth c H locs cells slots Q (F0 mI pc ls (S.map (tm_rl b bs))) := by
  obtain ⟨hx, hb, hml, hown, hts, hret, hlk, hnm, hK, hN, hAO, hF, hNl, hX, hbb, hbs⟩ := C
  simp only [tm_stp] at h
  split at h
  · rename_i e1
    obtain ⟨e1, hk⟩ := e1
    subst e1
    split at h
    · rename_i x S2
      cases h
      refine lv_istore hx hb hd hl.has (by have := hl.2.1; omega) rfl (fun ls1 h1 => ?_)
      have k0 := k H locs ls1 (tm_lv_st1 (v := .int x) hl.2.1 hk rfl h1) hr hS
      simp only [Nat.sub_self, Nat.add_zero] at k0
      exact k0
    · cases h
  · cases h
theorem ts_lstore_n {k1 : Fin 4} (hd : decode (mB m) pc = .ok (.lstore_n k1, len)) (h : tm_stp X m (.lstore_n k1) len pc L S M = some (pc1, L1, S1, M1)) (C : tm_Cx b bs dC dI cA X p R s mI args meth c m) (hl : tm_lv b bs ls (mL m) L) (hr : tm_Rep bs dC dI cA M H) (hS : va_S (fun q => bs ≤ q) s.heap H locs) (hc : s.heap.size + cells = bs + M.1.1) (hrc : cells + (M1.1.1 - M.1.1) ≤ R.cells) (hrs : slots + (M1.1.2.1 - M.1.2.1) ≤ R.slots) (k : tm_KK p l e R s mI args below meth c cells slots Q b bs dC dI cA m M pc1 L1 S1 M1) : W p l e R s mI args below meth c H locs cells slots Q (F0 mI pc ls (S.map (tm_rl b bs))) := by
  obtain ⟨hx, hb, hml, hown, hts, hret, hlk, hnm, hK, hN, hAO, hF, hNl, hX, hbb, hbs⟩ := C
  simp only [tm_stp] at h
  split at h
  · rename_i e1
    obtain ⟨e1, hk⟩ := e1
    subst e1
    split at h
    · rename_i x S2
      cases h
      refine lv_lstore_n hx hb hd rfl hl.has (by have := hl.2.1; omega) rfl (fun ls1 h1 => ?_)
      have k0 := k H locs ls1 (tm_lv_st2 (v := .long x) hl.2.1 hk h1) hr hS
      simp only [Nat.sub_self, Nat.add_zero] at k0
      exact k0
    · cases h
  · cases h
theorem ts_lstore {k1 : Nat} (hd : decode (mB m) pc = .ok (.lstore k1, len)) (h : tm_stp X m (.lstore k1) len pc L S M = some (pc1, L1, S1, M1)) (C : tm_Cx b bs dC dI cA X p R s mI args meth c m) (hl : tm_lv b bs ls (mL m) L) (hr : tm_Rep bs dC dI cA M H) (hS : va_S (fun q => bs ≤ q) s.heap H locs) (hc : s.heap.size + cells = bs + M.1.1) (hrc : cells + (M1.1.1 - M.1.1) ≤ R.cells) (hrs : slots + (M1.1.2.1 - M.1.2.1) ≤ R.slots) (k : tm_KK p l e R s mI args below meth c cells slots Q b bs dC dI cA m M pc1 L1 S1 M1) : W p l e R s mI args below meth c H locs cells slots Q (F0 mI pc ls (S.map (tm_rl b bs))) := by
  obtain ⟨hx, hb, hml, hown, hts, hret, hlk, hnm, hK, hN, hAO, hF, hNl, hX, hbb, hbs⟩ := C
  simp only [tm_stp] at h
  split at h
  · rename_i e1
    obtain ⟨e1, hk⟩ := e1
    subst e1
    split at h
    · rename_i x S2
      cases h
      refine lv_lstore hx hb hd hl.has (by have := hl.2.1; omega) rfl (fun ls1 h1 => ?_)
      have k0 := k H locs ls1 (tm_lv_st2 (v := .long x) hl.2.1 hk h1) hr hS
      simp only [Nat.sub_self, Nat.add_zero] at k0
      exact k0
    · cases h
  · cases h
theorem ts_astore_n {k1 : Fin 4} (hd : decode (mB m) pc = .ok (.astore_n k1, len)) (h : tm_stp X m (.astore_n k1) len pc L S M = some (pc1, L1, S1, M1)) (C : tm_Cx b bs dC dI cA X p R s mI args meth c m) (hl : tm_lv b bs ls (mL m) L) (hr : tm_Rep bs dC dI cA M H) (hS : va_S (fun q => bs ≤ q) s.heap H locs) (hc : s.heap.size + cells = bs + M.1.1) (hrc : cells + (M1.1.1 - M.1.1) ≤ R.cells) (hrs : slots + (M1.1.2.1 - M.1.2.1) ≤ R.slots) (k : tm_KK p l e R s mI args below meth c cells slots Q b bs dC dI cA m M pc1 L1 S1 M1) : W p l e R s mI args below meth c H locs cells slots Q (F0 mI pc ls (S.map (tm_rl b bs))) := by
  obtain ⟨hx, hb, hml, hown, hts, hret, hlk, hnm, hK, hN, hAO, hF, hNl, hX, hbb, hbs⟩ := C
  simp only [tm_stp] at h
  split at h
  · rename_i e1
    obtain ⟨e1, hk⟩ := e1
    subst e1
    split at h
    · rename_i x S2
      cases h
      refine lv_astore_n hx hb hd rfl hl.has (by have := hl.2.1; omega) rfl (fun ls1 h1 => ?_)
      have k0 := k H locs ls1 (tm_lv_st1 (v := .ref x) hl.2.1 hk rfl h1) hr hS
      simp only [Nat.sub_self, Nat.add_zero] at k0
      exact k0
    · cases h
      refine lv_astore_nN hx hb hd rfl hl.has (by have := hl.2.1; omega) rfl (fun ls1 h1 => ?_)
      have k0 := k H locs ls1 (tm_lv_st1 (v := .null) hl.2.1 hk rfl h1) hr hS
      simp only [Nat.sub_self, Nat.add_zero] at k0
      exact k0
    · cases h
  · cases h
theorem ts_astore {k1 : Nat} (hd : decode (mB m) pc = .ok (.astore k1, len)) (h : tm_stp X m (.astore k1) len pc L S M = some (pc1, L1, S1, M1)) (C : tm_Cx b bs dC dI cA X p R s mI args meth c m) (hl : tm_lv b bs ls (mL m) L) (hr : tm_Rep bs dC dI cA M H) (hS : va_S (fun q => bs ≤ q) s.heap H locs) (hc : s.heap.size + cells = bs + M.1.1) (hrc : cells + (M1.1.1 - M.1.1) ≤ R.cells) (hrs : slots + (M1.1.2.1 - M.1.2.1) ≤ R.slots) (k : tm_KK p l e R s mI args below meth c cells slots Q b bs dC dI cA m M pc1 L1 S1 M1) : W p l e R s mI args below meth c H locs cells slots Q (F0 mI pc ls (S.map (tm_rl b bs))) := by
  obtain ⟨hx, hb, hml, hown, hts, hret, hlk, hnm, hK, hN, hAO, hF, hNl, hX, hbb, hbs⟩ := C
  simp only [tm_stp] at h
  split at h
  · rename_i e1
    obtain ⟨e1, hk⟩ := e1
    subst e1
    split at h
    · rename_i x S2
      cases h
      refine lv_astore hx hb hd hl.has (by have := hl.2.1; omega) rfl (fun ls1 h1 => ?_)
      have k0 := k H locs ls1 (tm_lv_st1 (v := .ref x) hl.2.1 hk rfl h1) hr hS
      simp only [Nat.sub_self, Nat.add_zero] at k0
      exact k0
    · cases h
      refine lv_astoreN hx hb hd hl.has (by have := hl.2.1; omega) rfl (fun ls1 h1 => ?_)
      have k0 := k H locs ls1 (tm_lv_st1 (v := .null) hl.2.1 hk rfl h1) hr hS
      simp only [Nat.sub_self, Nat.add_zero] at k0
      exact k0
    · cases h
  · cases h
theorem ts_iinc {k1 : Nat} {n : Int} (hd : decode (mB m) pc = .ok (.iinc k1 n, len)) (h : tm_stp X m (.iinc k1 n) len pc L S M = some (pc1, L1, S1, M1)) (C : tm_Cx b bs dC dI cA X p R s mI args meth c m) (hl : tm_lv b bs ls (mL m) L) (hr : tm_Rep bs dC dI cA M H) (hS : va_S (fun q => bs ≤ q) s.heap H locs) (hc : s.heap.size + cells = bs + M.1.1) (hrc : cells + (M1.1.1 - M.1.1) ≤ R.cells) (hrs : slots + (M1.1.2.1 - M.1.2.1) ≤ R.slots) (k : tm_KK p l e R s mI args below meth c cells slots Q b bs dC dI cA m M pc1 L1 S1 M1) : W p l e R s mI args below meth c H locs cells slots Q (F0 mI pc ls (S.map (tm_rl b bs))) := by
  obtain ⟨hx, hb, hml, hown, hts, hret, hlk, hnm, hK, hN, hAO, hF, hNl, hX, hbb, hbs⟩ := C
  simp only [tm_stp] at h
  split at h
  · rename_i e1
    obtain ⟨e1, hk⟩ := e1
    subst e1
    split at h
    · rename_i x hv
      cases h
      have hm : (k1, Value.int x) ∈ tm_ll b bs L := by
        refine tm_ll_mem.mpr ⟨.int x, ?_, rfl⟩
        unfold tm_lg at hv
        split at hv
        · rename_i w hw
          cases hv
          exact hw
        · cases hv
      obtain ⟨j, hj⟩ := List.getElem?_of_mem hm
      refine lv_iinc (k := j) hx hb hd hl.has hj rfl (by have := hl.2.1; omega) rfl (fun ls1 h1 => ?_)
      have k0 := k H locs ls1 (tm_lv_st1 (v := .int (x + Int32.ofInt n)) hl.2.1 hk rfl h1) hr hS
      simp only [Nat.sub_self, Nat.add_zero] at k0
      exact k0
    · cases h
  · cases h
theorem ts_iadd (hd : decode (mB m) pc = .ok (.iadd, len)) (h : tm_stp X m (.iadd) len pc L S M = some (pc1, L1, S1, M1)) (C : tm_Cx b bs dC dI cA X p R s mI args meth c m) (hl : tm_lv b bs ls (mL m) L) (hr : tm_Rep bs dC dI cA M H) (hS : va_S (fun q => bs ≤ q) s.heap H locs) (hc : s.heap.size + cells = bs + M.1.1) (hrc : cells + (M1.1.1 - M.1.1) ≤ R.cells) (hrs : slots + (M1.1.2.1 - M.1.2.1) ≤ R.slots) (k : tm_KK p l e R s mI args below meth c cells slots Q b bs dC dI cA m M pc1 L1 S1 M1) : W p l e R s mI args below meth c H locs cells slots Q (F0 mI pc ls (S.map (tm_rl b bs))) := by
  obtain ⟨hx, hb, hml, hown, hts, hret, hlk, hnm, hK, hN, hAO, hF, hNl, hX, hbb, hbs⟩ := C
  simp only [tm_stp] at h
  split at h
  · rename_i e1
    subst e1
    split at h
    · cases h
      have k0 := k H locs ls hl hr hS
      simp only [Nat.sub_self, Nat.add_zero] at k0
      exact lv_iadd hx hb hd k0
    · cases h
  · cases h
theorem ts_isub (hd : decode (mB m) pc = .ok (.isub, len)) (h : tm_stp X m (.isub) len pc L S M = some (pc1, L1, S1, M1)) (C : tm_Cx b bs dC dI cA X p R s mI args meth c m) (hl : tm_lv b bs ls (mL m) L) (hr : tm_Rep bs dC dI cA M H) (hS : va_S (fun q => bs ≤ q) s.heap H locs) (hc : s.heap.size + cells = bs + M.1.1) (hrc : cells + (M1.1.1 - M.1.1) ≤ R.cells) (hrs : slots + (M1.1.2.1 - M.1.2.1) ≤ R.slots) (k : tm_KK p l e R s mI args below meth c cells slots Q b bs dC dI cA m M pc1 L1 S1 M1) : W p l e R s mI args below meth c H locs cells slots Q (F0 mI pc ls (S.map (tm_rl b bs))) := by
  obtain ⟨hx, hb, hml, hown, hts, hret, hlk, hnm, hK, hN, hAO, hF, hNl, hX, hbb, hbs⟩ := C
  simp only [tm_stp] at h
  split at h
  · rename_i e1
    subst e1
    split at h
    · cases h
      have k0 := k H locs ls hl hr hS
      simp only [Nat.sub_self, Nat.add_zero] at k0
      exact lv_isub hx hb hd k0
    · cases h
  · cases h
theorem ts_imul (hd : decode (mB m) pc = .ok (.imul, len)) (h : tm_stp X m (.imul) len pc L S M = some (pc1, L1, S1, M1)) (C : tm_Cx b bs dC dI cA X p R s mI args meth c m) (hl : tm_lv b bs ls (mL m) L) (hr : tm_Rep bs dC dI cA M H) (hS : va_S (fun q => bs ≤ q) s.heap H locs) (hc : s.heap.size + cells = bs + M.1.1) (hrc : cells + (M1.1.1 - M.1.1) ≤ R.cells) (hrs : slots + (M1.1.2.1 - M.1.2.1) ≤ R.slots) (k : tm_KK p l e R s mI args below meth c cells slots Q b bs dC dI cA m M pc1 L1 S1 M1) : W p l e R s mI args below meth c H locs cells slots Q (F0 mI pc ls (S.map (tm_rl b bs))) := by
  obtain ⟨hx, hb, hml, hown, hts, hret, hlk, hnm, hK, hN, hAO, hF, hNl, hX, hbb, hbs⟩ := C
  simp only [tm_stp] at h
  split at h
  · rename_i e1
    subst e1
    split at h
    · cases h
      have k0 := k H locs ls hl hr hS
      simp only [Nat.sub_self, Nat.add_zero] at k0
      exact lv_imul hx hb hd k0
    · cases h
  · cases h
theorem ts_iand (hd : decode (mB m) pc = .ok (.iand, len)) (h : tm_stp X m (.iand) len pc L S M = some (pc1, L1, S1, M1)) (C : tm_Cx b bs dC dI cA X p R s mI args meth c m) (hl : tm_lv b bs ls (mL m) L) (hr : tm_Rep bs dC dI cA M H) (hS : va_S (fun q => bs ≤ q) s.heap H locs) (hc : s.heap.size + cells = bs + M.1.1) (hrc : cells + (M1.1.1 - M.1.1) ≤ R.cells) (hrs : slots + (M1.1.2.1 - M.1.2.1) ≤ R.slots) (k : tm_KK p l e R s mI args below meth c cells slots Q b bs dC dI cA m M pc1 L1 S1 M1) : W p l e R s mI args below meth c H locs cells slots Q (F0 mI pc ls (S.map (tm_rl b bs))) := by
  obtain ⟨hx, hb, hml, hown, hts, hret, hlk, hnm, hK, hN, hAO, hF, hNl, hX, hbb, hbs⟩ := C
  simp only [tm_stp] at h
  split at h
  · rename_i e1
    subst e1
    split at h
    · cases h
      have k0 := k H locs ls hl hr hS
      simp only [Nat.sub_self, Nat.add_zero] at k0
      exact lv_iand hx hb hd k0
    · cases h
  · cases h
theorem ts_ior (hd : decode (mB m) pc = .ok (.ior, len)) (h : tm_stp X m (.ior) len pc L S M = some (pc1, L1, S1, M1)) (C : tm_Cx b bs dC dI cA X p R s mI args meth c m) (hl : tm_lv b bs ls (mL m) L) (hr : tm_Rep bs dC dI cA M H) (hS : va_S (fun q => bs ≤ q) s.heap H locs) (hc : s.heap.size + cells = bs + M.1.1) (hrc : cells + (M1.1.1 - M.1.1) ≤ R.cells) (hrs : slots + (M1.1.2.1 - M.1.2.1) ≤ R.slots) (k : tm_KK p l e R s mI args below meth c cells slots Q b bs dC dI cA m M pc1 L1 S1 M1) : W p l e R s mI args below meth c H locs cells slots Q (F0 mI pc ls (S.map (tm_rl b bs))) := by
  obtain ⟨hx, hb, hml, hown, hts, hret, hlk, hnm, hK, hN, hAO, hF, hNl, hX, hbb, hbs⟩ := C
  simp only [tm_stp] at h
  split at h
  · rename_i e1
    subst e1
    split at h
    · cases h
      have k0 := k H locs ls hl hr hS
      simp only [Nat.sub_self, Nat.add_zero] at k0
      exact lv_ior hx hb hd k0
    · cases h
  · cases h
theorem ts_ishl (hd : decode (mB m) pc = .ok (.ishl, len)) (h : tm_stp X m (.ishl) len pc L S M = some (pc1, L1, S1, M1)) (C : tm_Cx b bs dC dI cA X p R s mI args meth c m) (hl : tm_lv b bs ls (mL m) L) (hr : tm_Rep bs dC dI cA M H) (hS : va_S (fun q => bs ≤ q) s.heap H locs) (hc : s.heap.size + cells = bs + M.1.1) (hrc : cells + (M1.1.1 - M.1.1) ≤ R.cells) (hrs : slots + (M1.1.2.1 - M.1.2.1) ≤ R.slots) (k : tm_KK p l e R s mI args below meth c cells slots Q b bs dC dI cA m M pc1 L1 S1 M1) : W p l e R s mI args below meth c H locs cells slots Q (F0 mI pc ls (S.map (tm_rl b bs))) := by
  obtain ⟨hx, hb, hml, hown, hts, hret, hlk, hnm, hK, hN, hAO, hF, hNl, hX, hbb, hbs⟩ := C
  simp only [tm_stp] at h
  split at h
  · rename_i e1
    subst e1
    split at h
    · cases h
      have k0 := k H locs ls hl hr hS
      simp only [Nat.sub_self, Nat.add_zero] at k0
      exact lv_ishl hx hb hd k0
    · cases h
  · cases h
theorem ts_ishr (hd : decode (mB m) pc = .ok (.ishr, len)) (h : tm_stp X m (.ishr) len pc L S M = some (pc1, L1, S1, M1)) (C : tm_Cx b bs dC dI cA X p R s mI args meth c m) (hl : tm_lv b bs ls (mL m) L) (hr : tm_Rep bs dC dI cA M H) (hS : va_S (fun q => bs ≤ q) s.heap H locs) (hc : s.heap.size + cells = bs + M.1.1) (hrc : cells + (M1.1.1 - M.1.1) ≤ R.cells) (hrs : slots + (M1.1.2.1 - M.1.2.1) ≤ R.slots) (k : tm_KK p l e R s mI args below meth c cells slots Q b bs dC dI cA m M pc1 L1 S1 M1) : W p l e R s mI args below meth c H locs cells slots Q (F0 mI pc ls (S.map (tm_rl b bs))) := by
  obtain ⟨hx, hb, hml, hown, hts, hret, hlk, hnm, hK, hN, hAO, hF, hNl, hX, hbb, hbs⟩ := C
  simp only [tm_stp] at h
  split at h
  · rename_i e1
    subst e1
    split at h
    · cases h
      have k0 := k H locs ls hl hr hS
      simp only [Nat.sub_self, Nat.add_zero] at k0
      exact lv_ishr hx hb hd k0
    · cases h
  · cases h
theorem ts_land (hd : decode (mB m) pc = .ok (.land, len)) (h : tm_stp X m (.land) len pc L S M = some (pc1, L1, S1, M1)) (C : tm_Cx b bs dC dI cA X p R s mI args meth c m) (hl : tm_lv b bs ls (mL m) L) (hr : tm_Rep bs dC dI cA M H) (hS : va_S (fun q => bs ≤ q) s.heap H locs) (hc : s.heap.size + cells = bs + M.1.1) (hrc : cells + (M1.1.1 - M.1.1) ≤ R.cells) (hrs : slots + (M1.1.2.1 - M.1.2.1) ≤ R.slots) (k : tm_KK p l e R s mI args below meth c cells slots Q b bs dC dI cA m M pc1 L1 S1 M1) : W p l e R s mI args below meth c H locs cells slots Q (F0 mI pc ls (S.map (tm_rl b bs))) := by
  obtain ⟨hx, hb, hml, hown, hts, hret, hlk, hnm, hK, hN, hAO, hF, hNl, hX, hbb, hbs⟩ := C
  simp only [tm_stp] at h
  split at h
  · rename_i e1
    subst e1
    split at h
    · cases h
      have k0 := k H locs ls hl hr hS
      simp only [Nat.sub_self, Nat.add_zero] at k0
      exact lv_land hx hb hd k0
    · cases h
  · cases h
theorem ts_lor (hd : decode (mB m) pc = .ok (.lor, len)) (h : tm_stp X m (.lor) len pc L S M = some (pc1, L1, S1, M1)) (C : tm_Cx b bs dC dI cA X p R s mI args meth c m) (hl : tm_lv b bs ls (mL m) L) (hr : tm_Rep bs dC dI cA M H) (hS : va_S (fun q => bs ≤ q) s.heap H locs) (hc : s.heap.size + cells = bs + M.1.1) (hrc : cells + (M1.1.1 - M.1.1) ≤ R.cells) (hrs : slots + (M1.1.2.1 - M.1.2.1) ≤ R.slots) (k : tm_KK p l e R s mI args below meth c cells slots Q b bs dC dI cA m M pc1 L1 S1 M1) : W p l e R s mI args below meth c H locs cells slots Q (F0 mI pc ls (S.map (tm_rl b bs))) := by
  obtain ⟨hx, hb, hml, hown, hts, hret, hlk, hnm, hK, hN, hAO, hF, hNl, hX, hbb, hbs⟩ := C
  simp only [tm_stp] at h
  split at h
  · rename_i e1
    subst e1
    split at h
    · cases h
      have k0 := k H locs ls hl hr hS
      simp only [Nat.sub_self, Nat.add_zero] at k0
      exact lv_lor hx hb hd k0
    · cases h
  · cases h
theorem ts_iushr (hd : decode (mB m) pc = .ok (.iushr, len)) (h : tm_stp X m (.iushr) len pc L S M = some (pc1, L1, S1, M1)) (C : tm_Cx b bs dC dI cA X p R s mI args meth c m) (hl : tm_lv b bs ls (mL m) L) (hr : tm_Rep bs dC dI cA M H) (hS : va_S (fun q => bs ≤ q) s.heap H locs) (hc : s.heap.size + cells = bs + M.1.1) (hrc : cells + (M1.1.1 - M.1.1) ≤ R.cells) (hrs : slots + (M1.1.2.1 - M.1.2.1) ≤ R.slots) (k : tm_KK p l e R s mI args below meth c cells slots Q b bs dC dI cA m M pc1 L1 S1 M1) : W p l e R s mI args below meth c H locs cells slots Q (F0 mI pc ls (S.map (tm_rl b bs))) := by
  obtain ⟨hx, hb, hml, hown, hts, hret, hlk, hnm, hK, hN, hAO, hF, hNl, hX, hbb, hbs⟩ := C
  simp only [tm_stp] at h
  split at h
  · rename_i e1
    subst e1
    split at h
    · cases h
      have k0 := k H locs ls hl hr hS
      simp only [Nat.sub_self, Nat.add_zero] at k0
      exact lv_iushr hx hb hd rfl k0
    · cases h
  · cases h
theorem ts_lushr (hd : decode (mB m) pc = .ok (.lushr, len)) (h : tm_stp X m (.lushr) len pc L S M = some (pc1, L1, S1, M1)) (C : tm_Cx b bs dC dI cA X p R s mI args meth c m) (hl : tm_lv b bs ls (mL m) L) (hr : tm_Rep bs dC dI cA M H) (hS : va_S (fun q => bs ≤ q) s.heap H locs) (hc : s.heap.size + cells = bs + M.1.1) (hrc : cells + (M1.1.1 - M.1.1) ≤ R.cells) (hrs : slots + (M1.1.2.1 - M.1.2.1) ≤ R.slots) (k : tm_KK p l e R s mI args below meth c cells slots Q b bs dC dI cA m M pc1 L1 S1 M1) : W p l e R s mI args below meth c H locs cells slots Q (F0 mI pc ls (S.map (tm_rl b bs))) := by
  obtain ⟨hx, hb, hml, hown, hts, hret, hlk, hnm, hK, hN, hAO, hF, hNl, hX, hbb, hbs⟩ := C
  simp only [tm_stp] at h
  split at h
  · rename_i e1
    subst e1
    split at h
    · cases h
      have k0 := k H locs ls hl hr hS
      simp only [Nat.sub_self, Nat.add_zero] at k0
      exact lv_lushr hx hb hd rfl k0
    · cases h
  · cases h
theorem ts_lshl (hd : decode (mB m) pc = .ok (.lshl, len)) (h : tm_stp X m (.lshl) len pc L S M = some (pc1, L1, S1, M1)) (C : tm_Cx b bs dC dI cA X p R s mI args meth c m) (hl : tm_lv b bs ls (mL m) L) (hr : tm_Rep bs dC dI cA M H) (hS : va_S (fun q => bs ≤ q) s.heap H locs) (hc : s.heap.size + cells = bs + M.1.1) (hrc : cells + (M1.1.1 - M.1.1) ≤ R.cells) (hrs : slots + (M1.1.2.1 - M.1.2.1) ≤ R.slots) (k : tm_KK p l e R s mI args below meth c cells slots Q b bs dC dI cA m M pc1 L1 S1 M1) : W p l e R s mI args below meth c H locs cells slots Q (F0 mI pc ls (S.map (tm_rl b bs))) := by
  obtain ⟨hx, hb, hml, hown, hts, hret, hlk, hnm, hK, hN, hAO, hF, hNl, hX, hbb, hbs⟩ := C
  simp only [tm_stp] at h
  split at h
  · rename_i e1
    subst e1
    split at h
    · cases h
      have k0 := k H locs ls hl hr hS
      simp only [Nat.sub_self, Nat.add_zero] at k0
      exact lv_lshl hx hb hd rfl k0
    · cases h
  · cases h
theorem ts_i2l (hd : decode (mB m) pc = .ok (.i2l, len)) (h : tm_stp X m (.i2l) len pc L S M = some (pc1, L1, S1, M1)) (C : tm_Cx b bs dC dI cA X p R s mI args meth c m) (hl : tm_lv b bs ls (mL m) L) (hr : tm_Rep bs dC dI cA M H) (hS : va_S (fun q => bs ≤ q) s.heap H locs) (hc : s.heap.size + cells = bs + M.1.1) (hrc : cells + (M1.1.1 - M.1.1) ≤ R.cells) (hrs : slots + (M1.1.2.1 - M.1.2.1) ≤ R.slots) (k : tm_KK p l e R s mI args below meth c cells slots Q b bs dC dI cA m M pc1 L1 S1 M1) : W p l e R s mI args below meth c H locs cells slots Q (F0 mI pc ls (S.map (tm_rl b bs))) := by
  obtain ⟨hx, hb, hml, hown, hts, hret, hlk, hnm, hK, hN, hAO, hF, hNl, hX, hbb, hbs⟩ := C
  simp only [tm_stp] at h
  split at h
  · rename_i e1
    subst e1
    split at h
    · cases h
      have k0 := k H locs ls hl hr hS
      simp only [Nat.sub_self, Nat.add_zero] at k0
      exact lv_i2l hx hb hd rfl k0
    · cases h
  · cases h
theorem ts_l2i (hd : decode (mB m) pc = .ok (.l2i, len)) (h : tm_stp X m (.l2i) len pc L S M = some (pc1, L1, S1, M1)) (C : tm_Cx b bs dC dI cA X p R s mI args meth c m) (hl : tm_lv b bs ls (mL m) L) (hr : tm_Rep bs dC dI cA M H) (hS : va_S (fun q => bs ≤ q) s.heap H locs) (hc : s.heap.size + cells = bs + M.1.1) (hrc : cells + (M1.1.1 - M.1.1) ≤ R.cells) (hrs : slots + (M1.1.2.1 - M.1.2.1) ≤ R.slots) (k : tm_KK p l e R s mI args below meth c cells slots Q b bs dC dI cA m M pc1 L1 S1 M1) : W p l e R s mI args below meth c H locs cells slots Q (F0 mI pc ls (S.map (tm_rl b bs))) := by
  obtain ⟨hx, hb, hml, hown, hts, hret, hlk, hnm, hK, hN, hAO, hF, hNl, hX, hbb, hbs⟩ := C
  simp only [tm_stp] at h
  split at h
  · rename_i e1
    subst e1
    split at h
    · cases h
      have k0 := k H locs ls hl hr hS
      simp only [Nat.sub_self, Nat.add_zero] at k0
      exact lv_l2i hx hb hd rfl k0
    · cases h
  · cases h
theorem ts_i2b (hd : decode (mB m) pc = .ok (.i2b, len)) (h : tm_stp X m (.i2b) len pc L S M = some (pc1, L1, S1, M1)) (C : tm_Cx b bs dC dI cA X p R s mI args meth c m) (hl : tm_lv b bs ls (mL m) L) (hr : tm_Rep bs dC dI cA M H) (hS : va_S (fun q => bs ≤ q) s.heap H locs) (hc : s.heap.size + cells = bs + M.1.1) (hrc : cells + (M1.1.1 - M.1.1) ≤ R.cells) (hrs : slots + (M1.1.2.1 - M.1.2.1) ≤ R.slots) (k : tm_KK p l e R s mI args below meth c cells slots Q b bs dC dI cA m M pc1 L1 S1 M1) : W p l e R s mI args below meth c H locs cells slots Q (F0 mI pc ls (S.map (tm_rl b bs))) := by
  obtain ⟨hx, hb, hml, hown, hts, hret, hlk, hnm, hK, hN, hAO, hF, hNl, hX, hbb, hbs⟩ := C
  simp only [tm_stp] at h
  split at h
  · rename_i e1
    subst e1
    split at h
    · cases h
      have k0 := k H locs ls hl hr hS
      simp only [Nat.sub_self, Nat.add_zero] at k0
      exact lv_i2b hx hb hd rfl k0
    · cases h
  · cases h
theorem ts_lcmp (hd : decode (mB m) pc = .ok (.lcmp, len)) (h : tm_stp X m (.lcmp) len pc L S M = some (pc1, L1, S1, M1)) (C : tm_Cx b bs dC dI cA X p R s mI args meth c m) (hl : tm_lv b bs ls (mL m) L) (hr : tm_Rep bs dC dI cA M H) (hS : va_S (fun q => bs ≤ q) s.heap H locs) (hc : s.heap.size + cells = bs + M.1.1) (hrc : cells + (M1.1.1 - M.1.1) ≤ R.cells) (hrs : slots + (M1.1.2.1 - M.1.2.1) ≤ R.slots) (k : tm_KK p l e R s mI args below meth c cells slots Q b bs dC dI cA m M pc1 L1 S1 M1) : W p l e R s mI args below meth c H locs cells slots Q (F0 mI pc ls (S.map (tm_rl b bs))) := by
  obtain ⟨hx, hb, hml, hown, hts, hret, hlk, hnm, hK, hN, hAO, hF, hNl, hX, hbb, hbs⟩ := C
  simp only [tm_stp] at h
  split at h
  · rename_i e1
    subst e1
    split at h
    · cases h
      have k0 := k H locs ls hl hr hS
      simp only [Nat.sub_self, Nat.add_zero] at k0
      exact W.lcmp hx hb hd k0
    · cases h
  · cases h
theorem ts_idiv (hd : decode (mB m) pc = .ok (.idiv, len)) (h : tm_stp X m (.idiv) len pc L S M = some (pc1, L1, S1, M1)) (C : tm_Cx b bs dC dI cA X p R s mI args meth c m) (hl : tm_lv b bs ls (mL m) L) (hr : tm_Rep bs dC dI cA M H) (hS : va_S (fun q => bs ≤ q) s.heap H locs) (hc : s.heap.size + cells = bs + M.1.1) (hrc : cells + (M1.1.1 - M.1.1) ≤ R.cells) (hrs : slots + (M1.1.2.1 - M.1.2.1) ≤ R.slots) (k : tm_KK p l e R s mI args below meth c cells slots Q b bs dC dI cA m M pc1 L1 S1 M1) : W p l e R s mI args below meth c H locs cells slots Q (F0 mI pc ls (S.map (tm_rl b bs))) := by
  obtain ⟨hx, hb, hml, hown, hts, hret, hlk, hnm, hK, hN, hAO, hF, hNl, hX, hbb, hbs⟩ := C
  simp only [tm_stp] at h
  split at h
  · rename_i e1
    subst e1
    split at h
    · split at h
      · cases h
      · rename_i hne
        cases h
        have k0 := k H locs ls hl hr hS
        simp only [Nat.sub_self, Nat.add_zero] at k0
        exact lv_idiv hx hb hd hne k0
    · cases h
  · cases h
theorem ts_irem (hd : decode (mB m) pc = .ok (.irem, len)) (h : tm_stp X m (.irem) len pc L S M = some (pc1, L1, S1, M1)) (C : tm_Cx b bs dC dI cA X p R s mI args meth c m) (hl : tm_lv b bs ls (mL m) L) (hr : tm_Rep bs dC dI cA M H) (hS : va_S (fun q => bs ≤ q) s.heap H locs) (hc : s.heap.size + cells = bs + M.1.1) (hrc : cells + (M1.1.1 - M.1.1) ≤ R.cells) (hrs : slots + (M1.1.2.1 - M.1.2.1) ≤ R.slots) (k : tm_KK p l e R s mI args below meth c cells slots Q b bs dC dI cA m M pc1 L1 S1 M1) : W p l e R s mI args below meth c H locs cells slots Q (F0 mI pc ls (S.map (tm_rl b bs))) := by
  obtain ⟨hx, hb, hml, hown, hts, hret, hlk, hnm, hK, hN, hAO, hF, hNl, hX, hbb, hbs⟩ := C
  simp only [tm_stp] at h
  split at h
  · rename_i e1
    subst e1
    split at h
    · split at h
      · cases h
      · rename_i hne
        cases h
        have k0 := k H locs ls hl hr hS
        simp only [Nat.sub_self, Nat.add_zero] at k0
        exact lv_irem hx hb hd hne k0
    · cases h
  · cases h
theorem ts_dup (hd : decode (mB m) pc = .ok (.dup, len)) (h : tm_stp X m (.dup) len pc L S M = some (pc1, L1, S1, M1)) (C : tm_Cx b bs dC dI cA X p R s mI args meth c m) (hl : tm_lv b bs ls (mL m) L) (hr : tm_Rep bs dC dI cA M H) (hS : va_S (fun q => bs ≤ q) s.heap H locs) (hc : s.heap.size + cells = bs + M.1.1) (hrc : cells + (M1.1.1 - M.1.1) ≤ R.cells) (hrs : slots + (M1.1.2.1 - M.1.2.1) ≤ R.slots) (k : tm_KK p l e R s mI args below meth c cells slots Q b bs dC dI cA m M pc1 L1 S1 M1) : W p l e R s mI args below meth c H locs cells slots Q (F0 mI pc ls (S.map (tm_rl b bs))) := by
  obtain ⟨hx, hb, hml, hown, hts, hret, hlk, hnm, hK, hN, hAO, hF, hNl, hX, hbb, hbs⟩ := C
  simp only [tm_stp] at h
  split at h
  · rename_i e1
    subst e1
    split at h
    · split at h
      · rename_i hq
        cases h
        have k0 := k H locs ls hl hr hS
        simp only [Nat.sub_self, Nat.add_zero] at k0
        exact lv_dup hx hb hd (by rw [tm_rl_cat]; exact hq) k0
      · cases h
    · cases h
  · cases h
theorem ts_pop (hd : decode (mB m) pc = .ok (.pop, len)) (h : tm_stp X m (.pop) len pc L S M = some (pc1, L1, S1, M1)) (C : tm_Cx b bs dC dI cA X p R s mI args meth c m) (hl : tm_lv b bs ls (mL m) L) (hr : tm_Rep bs dC dI cA M H) (hS : va_S (fun q => bs ≤ q) s.heap H locs) (hc : s.heap.size + cells = bs + M.1.1) (hrc : cells + (M1.1.1 - M.1.1) ≤ R.cells) (hrs : slots + (M1.1.2.1 - M.1.2.1) ≤ R.slots) (k : tm_KK p l e R s mI args below meth c cells slots Q b bs dC dI cA m M pc1 L1 S1 M1) : W p l e R s mI args below meth c H locs cells slots Q (F0 mI pc ls (S.map (tm_rl b bs))) := by
  obtain ⟨hx, hb, hml, hown, hts, hret, hlk, hnm, hK, hN, hAO, hF, hNl, hX, hbb, hbs⟩ := C
  simp only [tm_stp] at h
  split at h
  · rename_i e1
    subst e1
    split at h
    · split at h
      · rename_i hq
        cases h
        have k0 := k H locs ls hl hr hS
        simp only [Nat.sub_self, Nat.add_zero] at k0
        exact lv_pop hx hb hd (by rw [tm_rl_cat]; exact hq) k0
      · cases h
    · cases h
  · cases h
theorem ts_dup_x1 (hd : decode (mB m) pc = .ok (.dup_x1, len)) (h : tm_stp X m (.dup_x1) len pc L S M = some (pc1, L1, S1, M1)) (C : tm_Cx b bs dC dI cA X p R s mI args meth c m) (hl : tm_lv b bs ls (mL m) L) (hr : tm_Rep bs dC dI cA M H) (hS : va_S (fun q => bs ≤ q) s.heap H locs) (hc : s.heap.size + cells = bs + M.1.1) (hrc : cells + (M1.1.1 - M.1.1) ≤ R.cells) (hrs : slots + (M1.1.2.1 - M.1.2.1) ≤ R.slots) (k : tm_KK p l e R s mI args below meth c cells slots Q b bs dC dI cA m M pc1 L1 S1 M1) : W p l e R s mI args below meth c H locs cells slots Q (F0 mI pc ls (S.map (tm_rl b bs))) := by
  obtain ⟨hx, hb, hml, hown, hts, hret, hlk, hnm, hK, hN, hAO, hF, hNl, hX, hbb, hbs⟩ := C
  simp only [tm_stp] at h
  split at h
  · rename_i e1
    subst e1
    split at h
    · split at h
      · rename_i hq
        cases h
        have k0 := k H locs ls hl hr hS
        simp only [Nat.sub_self, Nat.add_zero] at k0
        exact lv_dup_x1 hx hb hd (by rw [tm_rl_cat]; exact hq.1) (by rw [tm_rl_cat]; exact hq.2) k0
      · cases h
    · cases h
  · cases h
theorem ts_dup_x2 (hd : decode (mB m) pc = .ok (.dup_x2, len)) (h : tm_stp X m (.dup_x2) len pc L S M = some (pc1, L1, S1, M1)) (C : tm_Cx b bs dC dI cA X p R s mI args meth c m) (hl : tm_lv b bs ls (mL m) L) (hr : tm_Rep bs dC dI cA M H) (hS : va_S (fun q => bs ≤ q) s.heap H locs) (hc : s.heap.size + cells = bs + M.1.1) (hrc : cells + (M1.1.1 - M.1.1) ≤ R.cells) (hrs : slots + (M1.1.2.1 - M.1.2.1) ≤ R.slots) (k : tm_KK p l e R s mI args below meth c cells slots Q b bs dC dI cA m M pc1 L1 S1 M1) : W p l e R s mI args below meth c H locs cells slots Q (F0 mI pc ls (S.map (tm_rl b bs))) := by
  obtain ⟨hx, hb, hml, hown, hts, hret, hlk, hnm, hK, hN, hAO, hF, hNl, hX, hbb, hbs⟩ := C
  simp only [tm_stp] at h
  split at h
  · rename_i e1
    subst e1
    split at h
    · split at h
      · rename_i hq
        cases h
        have k0 := k H locs ls hl hr hS
        simp only [Nat.sub_self, Nat.add_zero] at k0
        exact lv_dup_x2 hx hb hd (by rw [tm_rl_cat]; exact hq.1) (by rw [tm_rl_cat]; exact hq.2.1) (by rw [tm_rl_cat]; exact hq.2.2) k0
      · cases h
    · cases h
  · cases h
theorem ts_dup2 (hd : decode (mB m) pc = .ok (.dup2, len)) (h : tm_stp X m (.dup2) len pc L S M = some (pc1, L1, S1, M1)) (C : tm_Cx b bs dC dI cA X p R s mI args meth c m) (hl : tm_lv b bs ls (mL m) L) (hr : tm_Rep bs dC dI cA M H) (hS : va_S (fun q => bs ≤ q) s.heap H locs) (hc : s.heap.size + cells = bs + M.1.1) (hrc : cells + (M1.1.1 - M.1.1) ≤ R.cells) (hrs : slots + (M1.1.2.1 - M.1.2.1) ≤ R.slots) (k : tm_KK p l e R s mI args below meth c cells slots Q b bs dC dI cA m M pc1 L1 S1 M1) : W p l e R s mI args below meth c H locs cells slots Q (F0 mI pc ls (S.map (tm_rl b bs))) := by
  obtain ⟨hx, hb, hml, hown, hts, hret, hlk, hnm, hK, hN, hAO, hF, hNl, hX, hbb, hbs⟩ := C
  simp only [tm_stp] at h
  split at h
  · rename_i e1
    subst e1
    split at h
    · split at h
      · rename_i hq
        cases h
        have k0 := k H locs ls hl hr hS
        simp only [Nat.sub_self, Nat.add_zero] at k0
        exact lv_dup2_11 hx hb hd (by rw [tm_rl_cat]; exact hq.1) (by rw [tm_rl_cat]; exact hq.2) k0
      · cases h
    · cases h
  · cases h
theorem tm_jmp_ok {off : Int} {L : tL} {S : List Value} {M : tM} (h : tm_jmp pc off L S M = some (pc1, L1, S1, M1)) : (pc : Int) + off = (pc1 : Int) ∧ L1 = L ∧ S1 = S ∧ M1 = M := by
  unfold tm_jmp at h
  split at h
  · cases h
    exact ⟨by omega, rfl, rfl, rfl⟩
  · cases h
theorem ts_ifCond {cc1 : Jvm.ClassFile.Cond} {off : Int} (hd : decode (mB m) pc = .ok (.ifCond cc1 off, len)) (h : tm_stp X m (.ifCond cc1 off) len pc L S M = some (pc1, L1, S1, M1)) (C : tm_Cx b bs dC dI cA X p R s mI args meth c m) (hl : tm_lv b bs ls (mL m) L) (hr : tm_Rep bs dC dI cA M H) (hS : va_S (fun q => bs ≤ q) s.heap H locs) (hc : s.heap.size + cells = bs + M.1.1) (hrc : cells + (M1.1.1 - M.1.1) ≤ R.cells) (hrs : slots + (M1.1.2.1 - M.1.2.1) ≤ R.slots) (k : tm_KK p l e R s mI args below meth c cells slots Q b bs dC dI cA m M pc1 L1 S1 M1) : W p l e R s mI args below meth c H locs cells slots Q (F0 mI pc ls (S.map (tm_rl b bs))) := by
  obtain ⟨hx, hb, hml, hown, hts, hret, hlk, hnm, hK, hN, hAO, hF, hNl, hX, hbb, hbs⟩ := C
  simp only [tm_stp] at h
  split at h
  · rename_i e1
    subst e1
    split at h
    · rename_i x S2
      by_cases hq : tm_cmp cc1 x 0 = true
      · rw [if_pos hq] at h
        obtain ⟨hj, e1, e2, e3⟩ := tm_jmp_ok h
        subst e1; subst e2; subst e3
        have k0 := k H locs ls hl hr hS
        simp only [Nat.sub_self, Nat.add_zero] at k0
        cases cc1 <;> simp only [tm_cmp, decide_eq_true_eq] at hq
        · exact lv_if_eq hx hb hd hj (fun _ => k0) (fun z => absurd hq (by first | exact z | exact fun q => q z))
        · exact lv_if_ne hx hb hd hj (fun _ => k0) (fun z => absurd hq (by first | exact z | exact fun q => q z))
        · exact lv_if_lt hx hb hd hj (fun _ => k0) (fun z => absurd hq (by first | exact z | exact fun q => q z))
        · exact lv_if_ge hx hb hd hj (fun _ => k0) (fun z => absurd hq (by first | exact z | exact fun q => q z))
        · exact lv_if_gt hx hb hd hj (fun _ => k0) (fun z => absurd hq (by first | exact z | exact fun q => q z))
        · exact lv_if_le hx hb hd hj (fun _ => k0) (fun z => absurd hq (by first | exact z | exact fun q => q z))
      · rw [if_neg hq] at h
        split at h
        rotate_left
        · cases h
        rename_i hpo
        cases h
        have k0 := k H locs ls hl hr hS
        simp only [Nat.sub_self, Nat.add_zero] at k0
        cases cc1 <;> simp only [tm_cmp, decide_eq_true_eq, Decidable.not_not] at hq
        · exact lv_if_eq (tgt := ((pc : Int) + off).toNat) hx hb hd (by omega) (fun z => absurd z (by first | exact hq | exact fun q => q hq)) (fun _ => k0)
        · exact lv_if_ne (tgt := ((pc : Int) + off).toNat) hx hb hd (by omega) (fun z => absurd z (by first | exact hq | exact fun q => q hq)) (fun _ => k0)
        · exact lv_if_lt (tgt := ((pc : Int) + off).toNat) hx hb hd (by omega) (fun z => absurd z (by first | exact hq | exact fun q => q hq)) (fun _ => k0)
        · exact lv_if_ge (tgt := ((pc : Int) + off).toNat) hx hb hd (by omega) (fun z => absurd z (by first | exact hq | exact fun q => q hq)) (fun _ => k0)
        · exact lv_if_gt (tgt := ((pc : Int) + off).toNat) hx hb hd (by omega) (fun z => absurd z (by first | exact hq | exact fun q => q hq)) (fun _ => k0)
        · exact lv_if_le (tgt := ((pc : Int) + off).toNat) hx hb hd (by omega) (fun z => absurd z (by first | exact hq | exact fun q => q hq)) (fun _ => k0)
    · cases h
  · cases h
theorem ts_if_icmp {cc1 : Jvm.ClassFile.Cond} {off : Int} (hd : decode (mB m) pc = .ok (.if_icmp cc1 off, len)) (h : tm_stp X m (.if_icmp cc1 off) len pc L S M = some (pc1, L1, S1, M1)) (C : tm_Cx b bs dC dI cA X p R s mI args meth c m) (hl : tm_lv b bs ls (mL m) L) (hr : tm_Rep bs dC dI cA M H) (hS : va_S (fun q => bs ≤ q) s.heap H locs) (hc : s.heap.size + cells = bs + M.1.1) (hrc : cells + (M1.1.1 - M.1.1) ≤ R.cells) (hrs : slots + (M1.1.2.1 - M.1.2.1) ≤ R.slots) (k : tm_KK p l e R s mI args below meth c cells slots Q b bs dC dI cA m M pc1 L1 S1 M1) : W p l e R s mI args below meth c H locs cells slots Q (F0 mI pc ls (S.map (tm_rl b bs))) := by
  obtain ⟨hx, hb, hml, hown, hts, hret, hlk, hnm, hK, hN, hAO, hF, hNl, hX, hbb, hbs⟩ := C
  simp only [tm_stp] at h
  split at h
  · rename_i e1
    subst e1
    split at h
    · rename_i y x S2
      by_cases hq : tm_cmp cc1 x y = true
      · rw [if_pos hq] at h
        obtain ⟨hj, e1, e2, e3⟩ := tm_jmp_ok h
        subst e1; subst e2; subst e3
        have k0 := k H locs ls hl hr hS
        simp only [Nat.sub_self, Nat.add_zero] at k0
        cases cc1 <;> simp only [tm_cmp, decide_eq_true_eq] at hq
        · exact lv_icmp_eq hx hb hd hj (fun _ => k0) (fun z => absurd hq (by first | exact z | exact fun q => q z))
        · exact lv_icmp_ne hx hb hd hj (fun _ => k0) (fun z => absurd hq (by first | exact z | exact fun q => q z))
        · exact lv_icmp_lt hx hb hd hj (fun _ => k0) (fun z => absurd hq (by first | exact z | exact fun q => q z))
        · exact lv_icmp_ge hx hb hd hj (fun _ => k0) (fun z => absurd hq (by first | exact z | exact fun q => q z))
        · exact lv_icmp_gt hx hb hd hj (fun _ => k0) (fun z => absurd hq (by first | exact z | exact fun q => q z))
        · exact lv_icmp_le hx hb hd hj (fun _ => k0) (fun z => absurd hq (by first | exact z | exact fun q => q z))
      · rw [if_neg hq] at h
        split at h
        rotate_left
        · cases h
        rename_i hpo
        cases h
        have k0 := k H locs ls hl hr hS
        simp only [Nat.sub_self, Nat.add_zero] at k0
        cases cc1 <;> simp only [tm_cmp, decide_eq_true_eq, Decidable.not_not] at hq
        · exact lv_icmp_eq (tgt := ((pc : Int) + off).toNat) hx hb hd (by omega) (fun z => absurd z (by first | exact hq | exact fun q => q hq)) (fun _ => k0)
        · exact lv_icmp_ne (tgt := ((pc : Int) + off).toNat) hx hb hd (by omega) (fun z => absurd z (by first | exact hq | exact fun q => q hq)) (fun _ => k0)
        · exact lv_icmp_lt (tgt := ((pc : Int) + off).toNat) hx hb hd (by omega) (fun z => absurd z (by first | exact hq | exact fun q => q hq)) (fun _ => k0)
        · exact lv_icmp_ge (tgt := ((pc : Int) + off).toNat) hx hb hd (by omega) (fun z => absurd z (by first | exact hq | exact fun q => q hq)) (fun _ => k0)
        · exact lv_icmp_gt (tgt := ((pc : Int) + off).toNat) hx hb hd (by omega) (fun z => absurd z (by first | exact hq | exact fun q => q hq)) (fun _ => k0)
        · exact lv_icmp_le (tgt := ((pc : Int) + off).toNat) hx hb hd (by omega) (fun z => absurd z (by first | exact hq | exact fun q => q hq)) (fun _ => k0)
    · cases h
  · cases h
theorem ts_goto {off : Int} (hd : decode (mB m) pc = .ok (.goto off, len)) (h : tm_stp X m (.goto off) len pc L S M = some (pc1, L1, S1, M1)) (C : tm_Cx b bs dC dI cA X p R s mI args meth c m) (hl : tm_lv b bs ls (mL m) L) (hr : tm_Rep bs dC dI cA M H) (hS : va_S (fun q => bs ≤ q) s.heap H locs) (hc : s.heap.size + cells = bs + M.1.1) (hrc : cells + (M1.1.1 - M.1.1) ≤ R.cells) (hrs : slots + (M1.1.2.1 - M.1.2.1) ≤ R.slots) (k : tm_KK p l e R s mI args below meth c cells slots Q b bs dC dI cA m M pc1 L1 S1 M1) : W p l e R s mI args below meth c H locs cells slots Q (F0 mI pc ls (S.map (tm_rl b bs))) := by
  obtain ⟨hx, hb, hml, hown, hts, hret, hlk, hnm, hK, hN, hAO, hF, hNl, hX, hbb, hbs⟩ := C
  simp only [tm_stp] at h
  split at h
  · rename_i e1
    subst e1
    obtain ⟨hj, e1, e2, e3⟩ := tm_jmp_ok h
    subst e1; subst e2; subst e3
    have k0 := k H locs ls hl hr hS
    simp only [Nat.sub_self, Nat.add_zero] at k0
    exact lv_goto hx hb hd hj k0
  · cases h
theorem ts_ifnull {off : Int} (hd : decode (mB m) pc = .ok (.ifnull off, len)) (h : tm_stp X m (.ifnull off) len pc L S M = some (pc1, L1, S1, M1)) (C : tm_Cx b bs dC dI cA X p R s mI args meth c m) (hl : tm_lv b bs ls (mL m) L) (hr : tm_Rep bs dC dI cA M H) (hS : va_S (fun q => bs ≤ q) s.heap H locs) (hc : s.heap.size + cells = bs + M.1.1) (hrc : cells + (M1.1.1 - M.1.1) ≤ R.cells) (hrs : slots + (M1.1.2.1 - M.1.2.1) ≤ R.slots) (k : tm_KK p l e R s mI args below meth c cells slots Q b bs dC dI cA m M pc1 L1 S1 M1) : W p l e R s mI args below meth c H locs cells slots Q (F0 mI pc ls (S.map (tm_rl b bs))) := by
  obtain ⟨hx, hb, hml, hown, hts, hret, hlk, hnm, hK, hN, hAO, hF, hNl, hX, hbb, hbs⟩ := C
  simp only [tm_stp] at h
  split at h
  · rename_i e1
    subst e1
    split at h
    · cases h
      have k0 := k H locs ls hl hr hS
      simp only [Nat.sub_self, Nat.add_zero] at k0
      exact lv_ifnull hx hb hd k0
    · obtain ⟨hj, e1, e2, e3⟩ := tm_jmp_ok h
      subst e1; subst e2; subst e3
      have k0 := k H locs ls hl hr hS
      simp only [Nat.sub_self, Nat.add_zero] at k0
      exact lv_ifnullN hx hb hd hj k0
    · cases h
  · cases h
theorem ts_ifnonnull {off : Int} (hd : decode (mB m) pc = .ok (.ifnonnull off, len)) (h : tm_stp X m (.ifnonnull off) len pc L S M = some (pc1, L1, S1, M1)) (C : tm_Cx b bs dC dI cA X p R s mI args meth c m) (hl : tm_lv b bs ls (mL m) L) (hr : tm_Rep bs dC dI cA M H) (hS : va_S (fun q => bs ≤ q) s.heap H locs) (hc : s.heap.size + cells = bs + M.1.1) (hrc : cells + (M1.1.1 - M.1.1) ≤ R.cells) (hrs : slots + (M1.1.2.1 - M.1.2.1) ≤ R.slots) (k : tm_KK p l e R s mI args below meth c cells slots Q b bs dC dI cA m M pc1 L1 S1 M1) : W p l e R s mI args below meth c H locs cells slots Q (F0 mI pc ls (S.map (tm_rl b bs))) := by
  obtain ⟨hx, hb, hml, hown, hts, hret, hlk, hnm, hK, hN, hAO, hF, hNl, hX, hbb, hbs⟩ := C
  simp only [tm_stp] at h
  split at h
  · rename_i e1
    subst e1
    split at h
    · obtain ⟨hj, e1, e2, e3⟩ := tm_jmp_ok h
      subst e1; subst e2; subst e3
      have k0 := k H locs ls hl hr hS
      simp only [Nat.sub_self, Nat.add_zero] at k0
      exact lv_ifnonnull hx hb hd hj k0
    · cases h
      have k0 := k H locs ls hl hr hS
      simp only [Nat.sub_self, Nat.add_zero] at k0
      exact lv_ifnonnullN hx hb hd k0
    · cases h
  · cases h
theorem ts_tableswitch {d lo hi : Int} {offs : Array Int} (hd : decode (mB m) pc = .ok (.tableswitch d lo hi offs, len)) (h : tm_stp X m (.tableswitch d lo hi offs) len pc L S M = some (pc1, L1, S1, M1)) (C : tm_Cx b bs dC dI cA X p R s mI args meth c m) (hl : tm_lv b bs ls (mL m) L) (hr : tm_Rep bs dC dI cA M H) (hS : va_S (fun q => bs ≤ q) s.heap H locs) (hc : s.heap.size + cells = bs + M.1.1) (hrc : cells + (M1.1.1 - M.1.1) ≤ R.cells) (hrs : slots + (M1.1.2.1 - M.1.2.1) ≤ R.slots) (k : tm_KK p l e R s mI args below meth c cells slots Q b bs dC dI cA m M pc1 L1 S1 M1) : W p l e R s mI args below meth c H locs cells slots Q (F0 mI pc ls (S.map (tm_rl b bs))) := by
  obtain ⟨hx, hb, hml, hown, hts, hret, hlk, hnm, hK, hN, hAO, hF, hNl, hX, hbb, hbs⟩ := C
  simp only [tm_stp] at h
  split at h
  · split at h
    · rename_i hq
      obtain ⟨hj, e1, e2, e3⟩ := tm_jmp_ok h
      subst e1; subst e2; subst e3
      have k0 := k H locs ls hl hr hS
      simp only [Nat.sub_self, Nat.add_zero] at k0
      exact lv_tableOut hx hb hd hq hj k0
    · rename_i hq
      split at h
      · rename_i off ho
        obtain ⟨hj, e1, e2, e3⟩ := tm_jmp_ok h
        subst e1; subst e2; subst e3
        have k0 := k H locs ls hl hr hS
        simp only [Nat.sub_self, Nat.add_zero] at k0
        exact lv_tableIn hx hb hd (fun z => hq (Or.inl z)) (fun z => hq (Or.inr z)) ho hj k0
      · cases h
  · cases h
theorem ts_lookupswitch {d : Int} {ps : Array (Int × Int)} (hd : decode (mB m) pc = .ok (.lookupswitch d ps, len)) (h : tm_stp X m (.lookupswitch d ps) len pc L S M = some (pc1, L1, S1, M1)) (C : tm_Cx b bs dC dI cA X p R s mI args meth c m) (hl : tm_lv b bs ls (mL m) L) (hr : tm_Rep bs dC dI cA M H) (hS : va_S (fun q => bs ≤ q) s.heap H locs) (hc : s.heap.size + cells = bs + M.1.1) (hrc : cells + (M1.1.1 - M.1.1) ≤ R.cells) (hrs : slots + (M1.1.2.1 - M.1.2.1) ≤ R.slots) (k : tm_KK p l e R s mI args below meth c cells slots Q b bs dC dI cA m M pc1 L1 S1 M1) : W p l e R s mI args below meth c H locs cells slots Q (F0 mI pc ls (S.map (tm_rl b bs))) := by
  obtain ⟨hx, hb, hml, hown, hts, hret, hlk, hnm, hK, hN, hAO, hF, hNl, hX, hbb, hbs⟩ := C
  simp only [tm_stp] at h
  split at h
  · split at h
    · rename_i hq
      obtain ⟨hj, e1, e2, e3⟩ := tm_jmp_ok h
      subst e1; subst e2; subst e3
      have k0 := k H locs ls hl hr hS
      simp only [Nat.sub_self, Nat.add_zero] at k0
      exact lv_lookup hx hb hd hq rfl hj k0
    · cases h
  · cases h
theorem ts_getfield {k1 : Nat} (hd : decode (mB m) pc = .ok (.getfield k1, len)) (h : tm_stp X m (.getfield k1) len pc L S M = some (pc1, L1, S1, M1)) (C : tm_Cx b bs dC dI cA X p R s mI args meth c m) (hl : tm_lv b bs ls (mL m) L) (hr : tm_Rep bs dC dI cA M H) (hS : va_S (fun q => bs ≤ q) s.heap H locs) (hc : s.heap.size + cells = bs + M.1.1) (hrc : cells + (M1.1.1 - M.1.1) ≤ R.cells) (hrs : slots + (M1.1.2.1 - M.1.2.1) ≤ R.slots) (k : tm_KK p l e R s mI args below meth c cells slots Q b bs dC dI cA m M pc1 L1 S1 M1) : W p l e R s mI args below meth c H locs cells slots Q (F0 mI pc ls (S.map (tm_rl b bs))) := by
  obtain ⟨hx, hb, hml, hown, hts, hret, hlk, hnm, hK, hN, hAO, hF, hNl, hX, hbb, hbs⟩ := C
  simp only [tm_stp] at h
  split at h
  · rename_i e1
    subst e1
    split at h
    · rename_i o S2 c2 j hlk2
      split at h
      · rename_i hq
        obtain ⟨ho, hcl, hc1, hj⟩ := hq
        cases h
        obtain ⟨C, T, N, hv, hjN, hw⟩ := tm_fl_ok hlk2
        obtain ⟨h12, hCn, hin, hty, hnm2, hdc⟩ := tm_cls hv
        have k0 := k H locs ls hl hr hS
        simp only [Nat.sub_self, Nat.add_zero, List.map_cons, tm_rl_pv] at k0
        have hg := tm_ws_get (bs := bs) (cA := cA) ho
        rw [tm_cell, hcl, if_pos hc1] at hg
        refine va_get (D := (dC, dI)) (cl := vwCl) (ws := tm_ws bs cA M) (C := C) (T := T) (N := N) (ci := c2) hx hb hts hin hown hK hr.1 o hg hv j hjN (hts _ hw) (fun _ h9 => h9) (v := tm_fv bs (tm_ft c2 j) (M.2.1 o j) (M.2.2.1 o j) (M.2.2.2 o j)) ?_ hd k0
        simp [hj]
      · cases h
    · cases h
  · cases h
theorem tm_put_cell {c2 n o j : Nat} {M : tM} {v : Value} (hkn : M.1.2.2 o = (c2, n)) (hc : c2 < 100) (hok : tm_okv (tm_ty c2 j) v = true) : tm_cell bs cA ((tm_put M o j v).1.2.2 o) ((tm_put M o j v).2.1 o) ((tm_put M o j v).2.2.1 o) ((tm_put M o j v).2.2.2 o) = .inr (c2, ((List.range n).map (fun k => tm_fv bs (tm_ft c2 k) (M.2.1 o k) (M.2.2.1 o k) (M.2.2.2 o k))).set j (tm_rl b bs v)) := by
  rw [tm_put_E, hkn, tm_cell, if_pos hc]
  congr 2
  symm
  refine tm_map_set ?_ (fun i hi => ?_)
  · unfold tm_okv at hok
    unfold tm_ft
    split at hok <;> first | (rename_i e1; rw [e1]; simp [tm_put, va_up, tm_fv, tm_rl, va_rf]; done) | cases hok | skip
  · cases v <;> simp [tm_put, va_up, hi]
theorem tm_ok_nar {t : FieldType} {v : Value} (h : tm_okv t v = true) : narrow t (tm_rl b bs v) = tm_rl b bs v ∧ fits t (tm_rl b bs v) = true := by
  unfold tm_okv at h
  split at h
  · exact ⟨rfl, rfl⟩
  · rename_i x
    rcases of_decide_eq_true h with h | h <;> subst h
    · exact ⟨(by decide : narrow .boolean (Value.int 0) = Value.int 0), (by decide : fits .boolean (Value.int 0) = true)⟩
    · exact ⟨(by decide : narrow .boolean (Value.int 1) = Value.int 1), (by decide : fits .boolean (Value.int 1) = true)⟩
  · exact ⟨rfl, rfl⟩
  · exact ⟨rfl, rfl⟩
  · exact ⟨rfl, rfl⟩
  · exact ⟨rfl, rfl⟩
  · exact ⟨rfl, rfl⟩
  · cases h
theorem ts_putfield {k1 : Nat} (hd : decode (mB m) pc = .ok (.putfield k1, len)) (h : tm_stp X m (.putfield k1) len pc L S M = some (pc1, L1, S1, M1)) (C : tm_Cx b bs dC dI cA X p R s mI args meth c m) (hl : tm_lv b bs ls (mL m) L) (hr : tm_Rep bs dC dI cA M H) (hS : va_S (fun q => bs ≤ q) s.heap H locs) (hc : s.heap.size + cells = bs + M.1.1) (hrc : cells + (M1.1.1 - M.1.1) ≤ R.cells) (hrs : slots + (M1.1.2.1 - M.1.2.1) ≤ R.slots) (k : tm_KK p l e R s mI args below meth c cells slots Q b bs dC dI cA m M pc1 L1 S1 M1) : W p l e R s mI args below meth c H locs cells slots Q (F0 mI pc ls (S.map (tm_rl b bs))) := by
  obtain ⟨hx, hb, hml, hown, hts, hret, hlk, hnm, hK, hN, hAO, hF, hNl, hX, hbb, hbs⟩ := C
  simp only [tm_stp] at h
  split at h
  · rename_i e1
    subst e1
    split at h
    · rename_i v o S2 c2 j hlk2
      split at h
      · rename_i hq
        obtain ⟨ho, hcl, hc1, hj, hok, hfn⟩ := hq
        cases h
        obtain ⟨C, T, N, hv, hjN, hw⟩ := tm_fl_ok hlk2
        obtain ⟨h12, hCn, hin, hty, hnm2, hdc⟩ := tm_cls hv
        have hg := tm_ws_get (bs := bs) (cA := cA) ho
        rw [tm_cell, hcl, if_pos hc1] at hg
        obtain ⟨n1, n2⟩ := tm_ok_nar (b := b) (bs := bs) hok
        have hkn : M.1.2.2 o = (c2, (M.1.2.2 o).2) := by rw [← hcl]
        have hws := tm_ws_set (bs := bs) (cA := cA) (M := M) (M' := tm_put M o j v) (o := o) tm_put_E (tm_put_cell (b := b) hkn hc1 hok) tm_put_ne
        have hfit : tm_Fit (tm_put M o j v) := tm_fit_put hr.2 (fun h => by rw [hcl] at h; omega)
        have kk : ∀ (H1 : Heap) (locs1 : List Loc), va_P (dC, dI) vwCl ((tm_ws bs cA M).set o (bs + o, .inr (c2, ((List.range (M.1.2.2 o).2).map (fun k => tm_fv bs (tm_ft c2 k) (M.2.1 o k) (M.2.2.1 o k) (M.2.2.2 o k))).set j (tm_rl b bs v)))) H1 → va_D (fun q => bs ≤ q) ((tm_ws bs cA M).set o (bs + o, .inr (c2, ((List.range (M.1.2.2 o).2).map (fun k => tm_fv bs (tm_ft c2 k) (M.2.1 o k) (M.2.2.1 o k) (M.2.2.2 o k))).set j (tm_rl b bs v)))) → va_S (fun q => bs ≤ q) s.heap H1 locs1 → W p l e R s mI args below meth c H1 locs1 cells slots Q (F0 mI (pc + 3) ls (S1.map (tm_rl b bs))) := by
          intro H1 locs1 hP1 _ hS1
          rw [hws] at hP1
          have k0 := k H1 locs1 ls hl ⟨hP1, hfit⟩ hS1
          rw [tm_put_E] at k0
          simp only [Nat.sub_self, Nat.add_zero] at k0
          exact k0
        have hT : tm_fin c2 j = (T j).2.2.2 := by unfold tm_fin; rw [hv]
        by_cases hf : (T j).2.2.2 = true
        · obtain ⟨f1, f2⟩ := hfn (by rw [hT]; exact hf)
          exact va_putF (D := (dC, dI)) (cl := vwCl) (ws := tm_ws bs cA M) (C := C) (T := T) (N := N) (ci := c2) hx hb hts hin (tm_ty c2) hty hnm2 hown hK hr.1 tm_wsD hS o hg hv j hjN (hts _ hw) (fun _ h9 => h9) hf (hnm f1) (by rw [hdc j hjN, hCn, f2]) (hty j hjN) n1 n2 (by simp [hj]) hd kk
        · exact va_put (D := (dC, dI)) (cl := vwCl) (ws := tm_ws bs cA M) (C := C) (T := T) (N := N) (ci := c2) hx hb hts hin (tm_ty c2) hty hnm2 hown hK hr.1 tm_wsD hS o hg hv j hjN (hts _ hw) (fun _ h9 => h9) (by simpa using hf) (hty j hjN) n1 n2 (by simp [hj]) hd kk
      · cases h
    · cases h
  · cases h
theorem tm_cell_i {kn : Nat × Nat} {f : Nat → Int32} {g : Nat → Int64} {r : Nat → Option Nat} (h : kn.1 = 100 ∨ kn.1 = 101 ∨ kn.1 = 102) : tm_cell bs cA kn f g r = .inl (cA kn.1, kn.2, .inl f) := by
  unfold tm_cell
  rw [if_neg (by omega), if_neg (by omega), if_neg (by omega)]
theorem tm_cell_l {kn : Nat × Nat} {f : Nat → Int32} {g : Nat → Int64} {r : Nat → Option Nat} (h : kn.1 = 103) : tm_cell bs cA kn f g r = .inl (cA kn.1, kn.2, .inr (.inl g)) := by
  unfold tm_cell
  rw [if_neg (by omega), if_pos h]
theorem tm_cell_q {kn : Nat × Nat} {f : Nat → Int32} {g : Nat → Int64} {r : Nat → Option Nat} (h : kn.1 = 104) : tm_cell bs cA kn f g r = .inl (cA kn.1, kn.2, .inr (.inr (.inr (.inr (fun k => (r k).map (fun a => bs + a)))))) := by
  unfold tm_cell
  rw [if_neg (by omega), if_neg (by omega), if_pos h]
theorem tm_in_of {i : Int32} {n : Nat} (h : tm_out i n = false) : vp_in i n := by
  unfold tm_out at h
  exact of_decide_eq_false h
theorem ts_iaload (hd : decode (mB m) pc = .ok (.iaload, len)) (h : tm_stp X m (.iaload) len pc L S M = some (pc1, L1, S1, M1)) (C : tm_Cx b bs dC dI cA X p R s mI args meth c m) (hl : tm_lv b bs ls (mL m) L) (hr : tm_Rep bs dC dI cA M H) (hS : va_S (fun q => bs ≤ q) s.heap H locs) (hc : s.heap.size + cells = bs + M.1.1) (hrc : cells + (M1.1.1 - M.1.1) ≤ R.cells) (hrs : slots + (M1.1.2.1 - M.1.2.1) ≤ R.slots) (k : tm_KK p l e R s mI args below meth c cells slots Q b bs dC dI cA m M pc1 L1 S1 M1) : W p l e R s mI args below meth c H locs cells slots Q (F0 mI pc ls (S.map (tm_rl b bs))) := by
  obtain ⟨hx, hb, hml, hown, hts, hret, hlk, hnm, hK, hN, hAO, hF, hNl, hX, hbb, hbs⟩ := C
  simp only [tm_stp] at h
  split at h
  · rename_i e1
    subst e1
    split at h
    · rename_i i o S2
      split at h
      · rename_i hq
        obtain ⟨ho, hk, hi⟩ := hq
        cases h
        have k0 := k H locs ls hl hr hS
        simp only [Nat.sub_self, Nat.add_zero] at k0
        have hg := tm_ws_get (bs := bs) (cA := cA) ho
        rw [tm_cell_i (Or.inl hk), hk] at hg
        exact va_iald hx hb hK hr.1 o 0 hg rfl (tm_in_of hi) hd k0
      · cases h
    · rename_i i z S2
      split at h
      · rename_i hi
        cases h
        have k0 := k H locs ls hl hr hS
        simp only [Nat.sub_self, Nat.add_zero] at k0
        exact va_sld (A := fun q => bs ≤ q) hx hb hX (by omega) (by show ¬ bs ≤ b; omega) hS (tm_in_of hi) hd k0
      · cases h
    · cases h
  · cases h
theorem ts_baload (hd : decode (mB m) pc = .ok (.baload, len)) (h : tm_stp X m (.baload) len pc L S M = some (pc1, L1, S1, M1)) (C : tm_Cx b bs dC dI cA X p R s mI args meth c m) (hl : tm_lv b bs ls (mL m) L) (hr : tm_Rep bs dC dI cA M H) (hS : va_S (fun q => bs ≤ q) s.heap H locs) (hc : s.heap.size + cells = bs + M.1.1) (hrc : cells + (M1.1.1 - M.1.1) ≤ R.cells) (hrs : slots + (M1.1.2.1 - M.1.2.1) ≤ R.slots) (k : tm_KK p l e R s mI args below meth c cells slots Q b bs dC dI cA m M pc1 L1 S1 M1) : W p l e R s mI args below meth c H locs cells slots Q (F0 mI pc ls (S.map (tm_rl b bs))) := by
  obtain ⟨hx, hb, hml, hown, hts, hret, hlk, hnm, hK, hN, hAO, hF, hNl, hX, hbb, hbs⟩ := C
  simp only [tm_stp] at h
  split at h
  · rename_i e1
    subst e1
    split at h
    · rename_i i o S2
      split at h
      · rename_i hq
        obtain ⟨ho, hk, hi⟩ := hq
        cases h
        have k0 := k H locs ls hl hr hS
        simp only [Nat.sub_self, Nat.add_zero] at k0
        have hg := tm_ws_get (bs := bs) (cA := cA) ho
        rw [tm_cell_i (Or.inr hk)] at hg
        rcases hk with hk | hk <;> rw [hk] at hg
        · exact va_bald hx hb hK hr.1 o 1 hg rfl (tm_in_of hi) hd k0
        · exact va_zald hx hb hK hr.1 o 2 hg rfl (tm_in_of hi) hd k0
      · cases h
    · cases h
  · cases h
theorem ts_laload (hd : decode (mB m) pc = .ok (.laload, len)) (h : tm_stp X m (.laload) len pc L S M = some (pc1, L1, S1, M1)) (C : tm_Cx b bs dC dI cA X p R s mI args meth c m) (hl : tm_lv b bs ls (mL m) L) (hr : tm_Rep bs dC dI cA M H) (hS : va_S (fun q => bs ≤ q) s.heap H locs) (hc : s.heap.size + cells = bs + M.1.1) (hrc : cells + (M1.1.1 - M.1.1) ≤ R.cells) (hrs : slots + (M1.1.2.1 - M.1.2.1) ≤ R.slots) (k : tm_KK p l e R s mI args below meth c cells slots Q b bs dC dI cA m M pc1 L1 S1 M1) : W p l e R s mI args below meth c H locs cells slots Q (F0 mI pc ls (S.map (tm_rl b bs))) := by
  obtain ⟨hx, hb, hml, hown, hts, hret, hlk, hnm, hK, hN, hAO, hF, hNl, hX, hbb, hbs⟩ := C
  simp only [tm_stp] at h
  split at h
  · rename_i e1
    subst e1
    split at h
    · rename_i i o S2
      split at h
      · rename_i hq
        obtain ⟨ho, hk, hi⟩ := hq
        cases h
        have k0 := k H locs ls hl hr hS
        simp only [Nat.sub_self, Nat.add_zero] at k0
        have hg := tm_ws_get (bs := bs) (cA := cA) ho
        rw [tm_cell_l hk, hk] at hg
        exact va_lald hx hb hK hr.1 o 3 hg rfl (tm_in_of hi) hd k0
      · cases h
    · cases h
  · cases h
theorem ts_aaload (hd : decode (mB m) pc = .ok (.aaload, len)) (h : tm_stp X m (.aaload) len pc L S M = some (pc1, L1, S1, M1)) (C : tm_Cx b bs dC dI cA X p R s mI args meth c m) (hl : tm_lv b bs ls (mL m) L) (hr : tm_Rep bs dC dI cA M H) (hS : va_S (fun q => bs ≤ q) s.heap H locs) (hc : s.heap.size + cells = bs + M.1.1) (hrc : cells + (M1.1.1 - M.1.1) ≤ R.cells) (hrs : slots + (M1.1.2.1 - M.1.2.1) ≤ R.slots) (k : tm_KK p l e R s mI args below meth c cells slots Q b bs dC dI cA m M pc1 L1 S1 M1) : W p l e R s mI args below meth c H locs cells slots Q (F0 mI pc ls (S.map (tm_rl b bs))) := by
  obtain ⟨hx, hb, hml, hown, hts, hret, hlk, hnm, hK, hN, hAO, hF, hNl, hX, hbb, hbs⟩ := C
  simp only [tm_stp] at h
  split at h
  · rename_i e1
    subst e1
    split at h
    · rename_i i o S2
      split at h
      · rename_i hq
        obtain ⟨ho, hk, hi⟩ := hq
        cases h
        have k0 := k H locs ls hl hr hS
        simp only [Nat.sub_self, Nat.add_zero, List.map_cons, tm_rl_rv] at k0
        have hg := tm_ws_get (bs := bs) (cA := cA) ho
        rw [tm_cell_q hk, hk] at hg
        exact va_aldq hx hb hK hr.1 o 4 hg rfl (tm_in_of hi) hd k0
      · cases h
    · cases h
  · cases h
theorem ts_iastore (hd : decode (mB m) pc = .ok (.iastore, len)) (h : tm_stp X m (.iastore) len pc L S M = some (pc1, L1, S1, M1)) (C : tm_Cx b bs dC dI cA X p R s mI args meth c m) (hl : tm_lv b bs ls (mL m) L) (hr : tm_Rep bs dC dI cA M H) (hS : va_S (fun q => bs ≤ q) s.heap H locs) (hc : s.heap.size + cells = bs + M.1.1) (hrc : cells + (M1.1.1 - M.1.1) ≤ R.cells) (hrs : slots + (M1.1.2.1 - M.1.2.1) ≤ R.slots) (k : tm_KK p l e R s mI args below meth c cells slots Q b bs dC dI cA m M pc1 L1 S1 M1) : W p l e R s mI args below meth c H locs cells slots Q (F0 mI pc ls (S.map (tm_rl b bs))) := by
  obtain ⟨hx, hb, hml, hown, hts, hret, hlk, hnm, hK, hN, hAO, hF, hNl, hX, hbb, hbs⟩ := C
  simp only [tm_stp] at h
  split at h
  · rename_i e1
    subst e1
    split at h
    · rename_i x i o S2
      split at h
      · rename_i hq
        obtain ⟨ho, hk, hi⟩ := hq
        cases h
        have hg := tm_ws_get (bs := bs) (cA := cA) ho
        rw [tm_cell_i (Or.inl hk), hk] at hg
        have hws := tm_ws_set (bs := bs) (cA := cA) (M := M) (M' := tm_put M o i.toNatClampNeg (.int x)) (o := o) (e := .inl (cA 100, (M.1.2.2 o).2, .inl (upd (M.2.1 o) i.toNatClampNeg x))) tm_put_E (by rw [tm_put_E, tm_cell_i (Or.inl hk), hk]; simp [tm_put, va_up]; try rfl) tm_put_ne
        have hfit : tm_Fit (tm_put M o i.toNatClampNeg (.int x)) := tm_fit_put hr.2 (fun h => by rw [hk] at h; omega)
        refine va_iast hx hb hK hr.1 tm_wsD hS o 0 hg rfl (tm_in_of hi) hd (fun H1 locs1 hP1 _ hS1 => ?_)
        rw [hws] at hP1
        have k0 := k H1 locs1 ls hl ⟨hP1, hfit⟩ hS1
        rw [tm_put_E] at k0
        simp only [Nat.sub_self, Nat.add_zero] at k0
        exact k0
      · cases h
    · cases h
  · cases h
theorem ts_lastore (hd : decode (mB m) pc = .ok (.lastore, len)) (h : tm_stp X m (.lastore) len pc L S M = some (pc1, L1, S1, M1)) (C : tm_Cx b bs dC dI cA X p R s mI args meth c m) (hl : tm_lv b bs ls (mL m) L) (hr : tm_Rep bs dC dI cA M H) (hS : va_S (fun q => bs ≤ q) s.heap H locs) (hc : s.heap.size + cells = bs + M.1.1) (hrc : cells + (M1.1.1 - M.1.1) ≤ R.cells) (hrs : slots + (M1.1.2.1 - M.1.2.1) ≤ R.slots) (k : tm_KK p l e R s mI args below meth c cells slots Q b bs dC dI cA m M pc1 L1 S1 M1) : W p l e R s mI args below meth c H locs cells slots Q (F0 mI pc ls (S.map (tm_rl b bs))) := by
  obtain ⟨hx, hb, hml, hown, hts, hret, hlk, hnm, hK, hN, hAO, hF, hNl, hX, hbb, hbs⟩ := C
  simp only [tm_stp] at h
  split at h
  · rename_i e1
    subst e1
    split at h
    · rename_i x i o S2
      split at h
      · rename_i hq
        obtain ⟨ho, hk, hi⟩ := hq
        cases h
        have hg := tm_ws_get (bs := bs) (cA := cA) ho
        rw [tm_cell_l hk, hk] at hg
        have hws := tm_ws_set (bs := bs) (cA := cA) (M := M) (M' := tm_put M o i.toNatClampNeg (.long x)) (o := o) (e := .inl (cA 103, (M.1.2.2 o).2, .inr (.inl (vp_updL (M.2.2.1 o) i.toNatClampNeg x)))) tm_put_E (by rw [tm_put_E, tm_cell_l hk, hk]; simp [tm_put, va_up]; try rfl) tm_put_ne
        have hfit : tm_Fit (tm_put M o i.toNatClampNeg (.long x)) := tm_fit_put hr.2 (fun h => by rw [hk] at h; omega)
        refine va_last hx hb hK hr.1 tm_wsD hS o 3 hg rfl (tm_in_of hi) hd (fun H1 locs1 hP1 _ hS1 => ?_)
        rw [hws] at hP1
        have k0 := k H1 locs1 ls hl ⟨hP1, hfit⟩ hS1
        rw [tm_put_E] at k0
        simp only [Nat.sub_self, Nat.add_zero] at k0
        exact k0
      · cases h
    · cases h
  · cases h
theorem ts_bastore (hd : decode (mB m) pc = .ok (.bastore, len)) (h : tm_stp X m (.bastore) len pc L S M = some (pc1, L1, S1, M1)) (C : tm_Cx b bs dC dI cA X p R s mI args meth c m) (hl : tm_lv b bs ls (mL m) L) (hr : tm_Rep bs dC dI cA M H) (hS : va_S (fun q => bs ≤ q) s.heap H locs) (hc : s.heap.size + cells = bs + M.1.1) (hrc : cells + (M1.1.1 - M.1.1) ≤ R.cells) (hrs : slots + (M1.1.2.1 - M.1.2.1) ≤ R.slots) (k : tm_KK p l e R s mI args below meth c cells slots Q b bs dC dI cA m M pc1 L1 S1 M1) : W p l e R s mI args below meth c H locs cells slots Q (F0 mI pc ls (S.map (tm_rl b bs))) := by
  obtain ⟨hx, hb, hml, hown, hts, hret, hlk, hnm, hK, hN, hAO, hF, hNl, hX, hbb, hbs⟩ := C
  simp only [tm_stp] at h
  split at h
  · rename_i e1
    subst e1
    split at h
    · rename_i x i o S2
      split at h
      · rename_i hq
        obtain ⟨ho, hk, hi⟩ := hq
        cases h
        have hg := tm_ws_get (bs := bs) (cA := cA) ho
        rw [tm_cell_i (Or.inr (Or.inl hk)), hk] at hg
        have hws := tm_ws_set (bs := bs) (cA := cA) (M := M) (M' := tm_put M o i.toNatClampNeg (.int (vp_nar .byte x))) (o := o) (e := .inl (cA 101, (M.1.2.2 o).2, .inl (upd (M.2.1 o) i.toNatClampNeg (vp_nar .byte x)))) tm_put_E (by rw [tm_put_E, tm_cell_i (Or.inr (Or.inl hk)), hk]; simp [tm_put, va_up]; try rfl) tm_put_ne
        have hfit : tm_Fit (tm_put M o i.toNatClampNeg (.int (vp_nar .byte x))) := tm_fit_put hr.2 (fun _ y e1 => by cases e1; exact tm_nar_fit x)
        refine va_bast hx hb hK hr.1 tm_wsD hS o 1 hg rfl (tm_in_of hi) hd (fun H1 locs1 hP1 _ hS1 => ?_)
        rw [hws] at hP1
        have k0 := k H1 locs1 ls hl ⟨hP1, hfit⟩ hS1
        rw [tm_put_E] at k0
        simp only [Nat.sub_self, Nat.add_zero] at k0
        exact k0
      · split at h
        · rename_i hq
          obtain ⟨ho, hk, hi⟩ := hq
          cases h
          have hg := tm_ws_get (bs := bs) (cA := cA) ho
          rw [tm_cell_i (Or.inr (Or.inr hk)), hk] at hg
          have hws := tm_ws_set (bs := bs) (cA := cA) (M := M) (M' := tm_put M o i.toNatClampNeg (.int (vp_nar .boolean x))) (o := o) (e := .inl (cA 102, (M.1.2.2 o).2, .inl (upd (M.2.1 o) i.toNatClampNeg (vp_nar .boolean x)))) tm_put_E (by rw [tm_put_E, tm_cell_i (Or.inr (Or.inr hk)), hk]; simp [tm_put, va_up]; try rfl) tm_put_ne
          have hfit : tm_Fit (tm_put M o i.toNatClampNeg (.int (vp_nar .boolean x))) := tm_fit_put hr.2 (fun h => by rw [hk] at h; omega)
          refine va_zast hx hb hK hr.1 tm_wsD hS o 2 hg rfl (tm_in_of hi) hd (fun H1 locs1 hP1 _ hS1 => ?_)
          rw [hws] at hP1
          have k0 := k H1 locs1 ls hl ⟨hP1, hfit⟩ hS1
          rw [tm_put_E] at k0
          simp only [Nat.sub_self, Nat.add_zero] at k0
          exact k0
        · cases h
    · cases h
  · cases h
theorem ts_aastore (hd : decode (mB m) pc = .ok (.aastore, len)) (h : tm_stp X m (.aastore) len pc L S M = some (pc1, L1, S1, M1)) (C : tm_Cx b bs dC dI cA X p R s mI args meth c m) (hl : tm_lv b bs ls (mL m) L) (hr : tm_Rep bs dC dI cA M H) (hS : va_S (fun q => bs ≤ q) s.heap H locs) (hc : s.heap.size + cells = bs + M.1.1) (hrc : cells + (M1.1.1 - M.1.1) ≤ R.cells) (hrs : slots + (M1.1.2.1 - M.1.2.1) ≤ R.slots) (k : tm_KK p l e R s mI args below meth c cells slots Q b bs dC dI cA m M pc1 L1 S1 M1) : W p l e R s mI args below meth c H locs cells slots Q (F0 mI pc ls (S.map (tm_rl b bs))) := by
  obtain ⟨hx, hb, hml, hown, hts, hret, hlk, hnm, hK, hN, hAO, hF, hNl, hX, hbb, hbs⟩ := C
  simp only [tm_stp] at h
  split at h
  · rename_i e1
    subst e1
    split at h
    · rename_i v i o S2
      split at h
      · rename_i hq
        obtain ⟨ho, hk, hi, hv, hkv⟩ := hq
        cases h
        have hg := tm_ws_get (bs := bs) (cA := cA) ho
        rw [tm_cell_q hk, hk] at hg
        have hg2 := tm_ws_get (bs := bs) (cA := cA) hv
        rw [tm_cell, hkv, if_pos (by decide)] at hg2
        have hws := tm_ws_set (bs := bs) (cA := cA) (M := M) (M' := tm_put M o i.toNatClampNeg (.ref v)) (o := o) (e := .inl (cA 104, (M.1.2.2 o).2, .inr (.inr (.inr (.inr (va_up (fun k => (M.2.2.2 o k).map (fun a => bs + a)) i.toNatClampNeg (some (bs + v)))))))) tm_put_E (by
          rw [tm_put_E, tm_cell_q hk, hk]
          congr 7
          funext q
          simp only [tm_put, va_up, if_pos]
          by_cases hq : q = i.toNatClampNeg <;> simp [va_up, hq]) tm_put_ne
        have hfit : tm_Fit (tm_put M o i.toNatClampNeg (.ref v)) := tm_fit_put hr.2 (fun h => by rw [hk] at h; omega)
        refine va_astq (r := (RX4, TX4, 5)) hx hb hK hr.1 tm_wsD hS o 4 v 4 hg rfl hg2 rfl (tm_in_of hi) hd (fun H1 locs1 hP1 _ hS1 => ?_)
        rw [hws] at hP1
        have k0 := k H1 locs1 ls hl ⟨hP1, hfit⟩ hS1
        rw [tm_put_E] at k0
        simp only [Nat.sub_self, Nat.add_zero] at k0
        exact k0
      · cases h
    · cases h
  · cases h
theorem ts_arraylength (hd : decode (mB m) pc = .ok (.arraylength, len)) (h : tm_stp X m (.arraylength) len pc L S M = some (pc1, L1, S1, M1)) (C : tm_Cx b bs dC dI cA X p R s mI args meth c m) (hl : tm_lv b bs ls (mL m) L) (hr : tm_Rep bs dC dI cA M H) (hS : va_S (fun q => bs ≤ q) s.heap H locs) (hc : s.heap.size + cells = bs + M.1.1) (hrc : cells + (M1.1.1 - M.1.1) ≤ R.cells) (hrs : slots + (M1.1.2.1 - M.1.2.1) ≤ R.slots) (k : tm_KK p l e R s mI args below meth c cells slots Q b bs dC dI cA m M pc1 L1 S1 M1) : W p l e R s mI args below meth c H locs cells slots Q (F0 mI pc ls (S.map (tm_rl b bs))) := by
  obtain ⟨hx, hb, hml, hown, hts, hret, hlk, hnm, hK, hN, hAO, hF, hNl, hX, hbb, hbs⟩ := C
  simp only [tm_stp] at h
  split at h
  · rename_i e1
    subst e1
    split at h
    · rename_i o S2
      split at h
      · rename_i hq
        obtain ⟨ho, h100, h104⟩ := hq
        cases h
        have k0 := k H locs ls hl hr hS
        simp only [Nat.sub_self, Nat.add_zero] at k0
        have hg := tm_ws_get (bs := bs) (cA := cA) ho
        rcases (show (M.1.2.2 o).1 = 100 ∨ (M.1.2.2 o).1 = 101 ∨ (M.1.2.2 o).1 = 102 ∨ (M.1.2.2 o).1 = 103 ∨ (M.1.2.2 o).1 = 104 by omega) with hk | hk | hk | hk | hk
        · rw [tm_cell_i (Or.inl hk), hk] at hg
          exact va_alen hx hb hK hr.1 o 0 hg (ty := .int) rfl rfl hd k0
        · rw [tm_cell_i (Or.inr (Or.inl hk)), hk] at hg
          exact va_alen hx hb hK hr.1 o 1 hg (ty := .byte) rfl rfl hd k0
        · rw [tm_cell_i (Or.inr (Or.inr hk)), hk] at hg
          exact va_alen hx hb hK hr.1 o 2 hg (ty := .boolean) rfl rfl hd k0
        · rw [tm_cell_l hk, hk] at hg
          exact va_alen hx hb hK hr.1 o 3 hg (ty := .long) rfl rfl hd k0
        · rw [tm_cell_q hk, hk] at hg
          exact va_alen hx hb hK hr.1 o 4 hg (ty := .object RX4) rfl rfl hd k0
      · cases h
    · rename_i z S2
      cases h
      have k0 := k H locs ls hl hr hS
      simp only [Nat.sub_self, Nat.add_zero] at k0
      exact va_slen (A := fun q => bs ≤ q) hx hb hX (by omega) (by show ¬ bs ≤ b; omega) hS hd k0
    · cases h
  · cases h
theorem tm_new_c {M : tM} {kd n : Nat} : (tm_new M kd n).1.1 - M.1.1 = 1 ∧ (tm_new M kd n).1.2.1 - M.1.2.1 = n := by
  unfold tm_new
  exact ⟨by simp, by simp⟩
theorem ts_newarray {at1 : ArrayType} (hd : decode (mB m) pc = .ok (.newarray at1, len)) (h : tm_stp X m (.newarray at1) len pc L S M = some (pc1, L1, S1, M1)) (C : tm_Cx b bs dC dI cA X p R s mI args meth c m) (hl : tm_lv b bs ls (mL m) L) (hr : tm_Rep bs dC dI cA M H) (hS : va_S (fun q => bs ≤ q) s.heap H locs) (hc : s.heap.size + cells = bs + M.1.1) (hrc : cells + (M1.1.1 - M.1.1) ≤ R.cells) (hrs : slots + (M1.1.2.1 - M.1.2.1) ≤ R.slots) (k : tm_KK p l e R s mI args below meth c cells slots Q b bs dC dI cA m M pc1 L1 S1 M1) : W p l e R s mI args below meth c H locs cells slots Q (F0 mI pc ls (S.map (tm_rl b bs))) := by
  obtain ⟨hx, hb, hml, hown, hts, hret, hlk, hnm, hK, hN, hAO, hF, hNl, hX, hbb, hbs⟩ := C
  simp only [tm_stp] at h
  cases at1 <;> simp only [tm_akd] at h
  · split at h
    · rename_i e1
      subst e1
      split at h
      · rename_i n S2 kd hz
        cases hz
        split at h
        · have he : ∃ cA1 : ClassId, cA1 = cA 102 := ⟨_, rfl⟩
          rename_i hq
          obtain ⟨hn, hn2⟩ := hq
          cases h
          obtain ⟨c1, c2⟩ := tm_new_c (M := M) (kd := 102) (n := n.toNatClampNeg)
          rw [c1] at hrc
          rw [c2] at hrs
          refine va_newa (atype := .boolean) (ty := .boolean) hx hb (hts _ tm_ac_boolean) rfl hK hr.1 tm_wsD hS (fun q hq => Nat.le_trans hbs hq) (a0 := (n.toNatClampNeg, .inl (fun _ => 0))) (fun cA => rfl) hn rfl (by have h7 : componentBytes .boolean = 1 := rfl; rw [h7]; omega) hrc hrs hd (fun q cA1 H1 hK1 hP1 hD1 hS1 => ?_)
          have eA : cA1 = cA 102 := by
            have g1 := (hK1.2 5 (cA1, .boolean) rfl).2
            have g2 := (hK.2 2 (cA 102, .boolean) rfl).2
            exact Option.some.inj (g1.symm.trans g2)
          subst eA
          refine tm_fresh hP1 hD1 hc (fun eq => ?_)
          subst eq
          have e2 : (Sum.inl (cA 102, (n.toNatClampNeg, .inl (fun _ => 0))) : va_E) = tm_cell bs cA (102, n.toNatClampNeg) (fun _ => 0) (fun _ => 0) (fun _ => none) := by rw [tm_cell_i (Or.inr (Or.inr rfl))]
          rw [e2, tm_ws_new] at hP1
          have k0 := k H1 locs ls hl ⟨hP1, tm_fit_new hr.2⟩ hS1
          rw [c1, c2] at k0
          exact k0
        · cases h
      · cases h
    · cases h
  · split at h <;> cases h
  · split at h <;> cases h
  · split at h <;> cases h
  · split at h
    · rename_i e1
      subst e1
      split at h
      · rename_i n S2 kd hz
        cases hz
        split at h
        · have he : ∃ cA1 : ClassId, cA1 = cA 101 := ⟨_, rfl⟩
          rename_i hq
          obtain ⟨hn, hn2⟩ := hq
          cases h
          obtain ⟨c1, c2⟩ := tm_new_c (M := M) (kd := 101) (n := n.toNatClampNeg)
          rw [c1] at hrc
          rw [c2] at hrs
          refine va_newa (atype := .byte) (ty := .byte) hx hb (hts _ tm_ac_byte) rfl hK hr.1 tm_wsD hS (fun q hq => Nat.le_trans hbs hq) (a0 := (n.toNatClampNeg, .inl (fun _ => 0))) (fun cA => rfl) hn rfl (by have h7 : componentBytes .byte = 1 := rfl; rw [h7]; omega) hrc hrs hd (fun q cA1 H1 hK1 hP1 hD1 hS1 => ?_)
          have eA : cA1 = cA 101 := by
            have g1 := (hK1.2 5 (cA1, .byte) rfl).2
            have g2 := (hK.2 1 (cA 101, .byte) rfl).2
            exact Option.some.inj (g1.symm.trans g2)
          subst eA
          refine tm_fresh hP1 hD1 hc (fun eq => ?_)
          subst eq
          have e2 : (Sum.inl (cA 101, (n.toNatClampNeg, .inl (fun _ => 0))) : va_E) = tm_cell bs cA (101, n.toNatClampNeg) (fun _ => 0) (fun _ => 0) (fun _ => none) := by rw [tm_cell_i (Or.inr (Or.inl rfl))]
          rw [e2, tm_ws_new] at hP1
          have k0 := k H1 locs ls hl ⟨hP1, tm_fit_new hr.2⟩ hS1
          rw [c1, c2] at k0
          exact k0
        · cases h
      · cases h
    · cases h
  · split at h <;> cases h
  · split at h
    · rename_i e1
      subst e1
      split at h
      · rename_i n S2 kd hz
        cases hz
        split at h
        · have he : ∃ cA1 : ClassId, cA1 = cA 100 := ⟨_, rfl⟩
          rename_i hq
          obtain ⟨hn, hn2⟩ := hq
          cases h
          obtain ⟨c1, c2⟩ := tm_new_c (M := M) (kd := 100) (n := n.toNatClampNeg)
          rw [c1] at hrc
          rw [c2] at hrs
          refine va_newa (atype := .int) (ty := .int) hx hb (hts _ tm_ac_int) rfl hK hr.1 tm_wsD hS (fun q hq => Nat.le_trans hbs hq) (a0 := (n.toNatClampNeg, .inl (fun _ => 0))) (fun cA => rfl) hn rfl (by have h7 : componentBytes .int = 4 := rfl; rw [h7]; omega) hrc hrs hd (fun q cA1 H1 hK1 hP1 hD1 hS1 => ?_)
          have eA : cA1 = cA 100 := by
            have g1 := (hK1.2 5 (cA1, .int) rfl).2
            have g2 := (hK.2 0 (cA 100, .int) rfl).2
            exact Option.some.inj (g1.symm.trans g2)
          subst eA
          refine tm_fresh hP1 hD1 hc (fun eq => ?_)
          subst eq
          have e2 : (Sum.inl (cA 100, (n.toNatClampNeg, .inl (fun _ => 0))) : va_E) = tm_cell bs cA (100, n.toNatClampNeg) (fun _ => 0) (fun _ => 0) (fun _ => none) := by rw [tm_cell_i (Or.inl rfl)]
          rw [e2, tm_ws_new] at hP1
          have k0 := k H1 locs ls hl ⟨hP1, tm_fit_new hr.2⟩ hS1
          rw [c1, c2] at k0
          exact k0
        · cases h
      · cases h
    · cases h
  · split at h
    · rename_i e1
      subst e1
      split at h
      · rename_i n S2 kd hz
        cases hz
        split at h
        · have he : ∃ cA1 : ClassId, cA1 = cA 103 := ⟨_, rfl⟩
          rename_i hq
          obtain ⟨hn, hn2⟩ := hq
          cases h
          obtain ⟨c1, c2⟩ := tm_new_c (M := M) (kd := 103) (n := n.toNatClampNeg)
          rw [c1] at hrc
          rw [c2] at hrs
          refine va_newa (atype := .long) (ty := .long) hx hb (hts _ tm_ac_long) rfl hK hr.1 tm_wsD hS (fun q hq => Nat.le_trans hbs hq) (a0 := (n.toNatClampNeg, .inr (.inl (fun _ => 0)))) (fun cA => rfl) hn rfl (by have h7 : componentBytes .long = 8 := rfl; rw [h7]; omega) hrc hrs hd (fun q cA1 H1 hK1 hP1 hD1 hS1 => ?_)
          have eA : cA1 = cA 103 := by
            have g1 := (hK1.2 5 (cA1, .long) rfl).2
            have g2 := (hK.2 3 (cA 103, .long) rfl).2
            exact Option.some.inj (g1.symm.trans g2)
          subst eA
          refine tm_fresh hP1 hD1 hc (fun eq => ?_)
          subst eq
          have e2 : (Sum.inl (cA 103, (n.toNatClampNeg, .inr (.inl (fun _ => 0)))) : va_E) = tm_cell bs cA (103, n.toNatClampNeg) (fun _ => 0) (fun _ => 0) (fun _ => none) := by rw [tm_cell_l rfl]
          rw [e2, tm_ws_new] at hP1
          have k0 := k H1 locs ls hl ⟨hP1, tm_fit_new hr.2⟩ hS1
          rw [c1, c2] at k0
          exact k0
        · cases h
      · cases h
    · cases h
theorem ts_anewarray {k1 : Nat} (hd : decode (mB m) pc = .ok (.anewarray k1, len)) (h : tm_stp X m (.anewarray k1) len pc L S M = some (pc1, L1, S1, M1)) (C : tm_Cx b bs dC dI cA X p R s mI args meth c m) (hl : tm_lv b bs ls (mL m) L) (hr : tm_Rep bs dC dI cA M H) (hS : va_S (fun q => bs ≤ q) s.heap H locs) (hc : s.heap.size + cells = bs + M.1.1) (hrc : cells + (M1.1.1 - M.1.1) ≤ R.cells) (hrs : slots + (M1.1.2.1 - M.1.2.1) ≤ R.slots) (k : tm_KK p l e R s mI args below meth c cells slots Q b bs dC dI cA m M pc1 L1 S1 M1) : W p l e R s mI args below meth c H locs cells slots Q (F0 mI pc ls (S.map (tm_rl b bs))) := by
  obtain ⟨hx, hb, hml, hown, hts, hret, hlk, hnm, hK, hN, hAO, hF, hNl, hX, hbb, hbs⟩ := C
  simp only [tm_stp] at h
  split at h
  · rename_i e1
    subst e1
    split at h
    · rename_i n S2 z hlk2
      split at h
      · rename_i hq
        obtain ⟨hn, hn2⟩ := hq
        cases h
        obtain ⟨C, T, N, hv, hNn, w1, w2, w3⟩ := tm_cl_ok hlk2
        cases hv
        obtain ⟨c1, c2⟩ := tm_new_c (M := M) (kd := 104) (n := n.toNatClampNeg)
        rw [c1] at hrc
        rw [c2] at hrs
        refine va_newq (C := RX4) hx hb hown (hts _ w1) hAO hK hr.1 tm_wsD hS (fun q hq => Nat.le_trans hbs hq) hn rfl (by omega) hrc hrs hd (fun q cA1 H1 hK1 hP1 hD1 hS1 => ?_)
        have eA : cA1 = cA 104 := by
          obtain ⟨_, _, _, _, _, g1⟩ := (hK1.2 5 (cA1, .object RX4) rfl).2
          obtain ⟨_, _, _, _, _, g2⟩ := (hK.2 4 (cA 104, .object RX4) rfl).2
          exact Option.some.inj (g1.symm.trans g2)
        subst eA
        refine tm_fresh hP1 hD1 hc (fun eq => ?_)
        subst eq
        have e2 : (Sum.inl (cA 104, (n.toNatClampNeg, .inr (.inr (.inr (.inr (fun _ => none)))))) : va_E) = tm_cell bs cA (104, n.toNatClampNeg) (fun _ => 0) (fun _ => 0) (fun _ => none) := by rw [tm_cell_q rfl]; rfl
        rw [e2, tm_ws_new] at hP1
        have k0 := k H1 locs ls hl ⟨hP1, tm_fit_new hr.2⟩ hS1
        rw [c1, c2] at k0
        exact k0
      · cases h
    · cases h
  · cases h
theorem ts_new {k1 : Nat} (hd : decode (mB m) pc = .ok (.new k1, len)) (h : tm_stp X m (.new k1) len pc L S M = some (pc1, L1, S1, M1)) (C : tm_Cx b bs dC dI cA X p R s mI args meth c m) (hl : tm_lv b bs ls (mL m) L) (hr : tm_Rep bs dC dI cA M H) (hS : va_S (fun q => bs ≤ q) s.heap H locs) (hc : s.heap.size + cells = bs + M.1.1) (hrc : cells + (M1.1.1 - M.1.1) ≤ R.cells) (hrs : slots + (M1.1.2.1 - M.1.2.1) ≤ R.slots) (k : tm_KK p l e R s mI args below meth c cells slots Q b bs dC dI cA m M pc1 L1 S1 M1) : W p l e R s mI args below meth c H locs cells slots Q (F0 mI pc ls (S.map (tm_rl b bs))) := by
  obtain ⟨hx, hb, hml, hown, hts, hret, hlk, hnm, hK, hN, hAO, hF, hNl, hX, hbb, hbs⟩ := C
  simp only [tm_stp] at h
  split at h
  · rename_i e1
    subst e1
    split at h
    · rename_i c3 n hlk2
      cases h
      obtain ⟨C, T, N, hv, hNn, w1, w2, w3⟩ := tm_cl_ok hlk2
      subst hNn
      obtain ⟨h12, hCn, hin, hty, hnm2, hdc⟩ := tm_cls hv
      have hN80 := tm_N80 _ (List.mem_of_getElem? hv)
      obtain ⟨c1, c2⟩ := tm_new_c (M := M) (kd := c3) (n := N)
      rw [c1] at hrc
      rw [c2] at hrs
      refine va_new (D := (dC, dI)) (ci := c3) (fs := (List.range N).map (fun k => tm_fv bs (tm_ft c3 k) 0 0 none)) hx hb hts hin (tm_ty c3) hty hown (hts _ w1) (hts _ w2) (hts _ w3) hK hr.1 tm_wsD hS (fun q hq => Nat.le_trans hbs hq) hv (fun j hj => ?_) hrc hrs hd (fun q H1 hP1 hD1 hS1 => ?_)
      · have hf := tm_nofd c3 h12 j (by dsimp only at hN80; omega)
        simp only [vp_V, List.getD_eq_getElem?_getD, List.getElem?_map, List.getElem?_range hj, Option.map_some, Option.getD_some]
        unfold tm_ft
        cases ht : tm_ty c3 j <;> first | rfl | exact absurd ht hf.1 | exact absurd ht hf.2
      · refine tm_fresh hP1 hD1 hc (fun eq => ?_)
        subst eq
        have e2 : (Sum.inr (c3, (List.range N).map (fun k => tm_fv bs (tm_ft c3 k) 0 0 none)) : va_E) = tm_cell bs cA (c3, N) (fun _ => 0) (fun _ => 0) (fun _ => none) := by rw [tm_cell, if_pos (by show c3 < 100; omega)]
        rw [e2, tm_ws_new] at hP1
        have k0 := k H1 locs ls hl ⟨hP1, tm_fit_new hr.2⟩ hS1
        rw [c1, c2] at k0
        exact k0
    · cases h
  · cases h
theorem ts_invokespecial {k1 : Nat} (hd : decode (mB m) pc = .ok (.invokespecial k1, len)) (h : tm_stp X m (.invokespecial k1) len pc L S M = some (pc1, L1, S1, M1)) (C : tm_Cx b bs dC dI cA X p R s mI args meth c m) (hl : tm_lv b bs ls (mL m) L) (hr : tm_Rep bs dC dI cA M H) (hS : va_S (fun q => bs ≤ q) s.heap H locs) (hc : s.heap.size + cells = bs + M.1.1) (hrc : cells + (M1.1.1 - M.1.1) ≤ R.cells) (hrs : slots + (M1.1.2.1 - M.1.2.1) ≤ R.slots) (k : tm_KK p l e R s mI args below meth c cells slots Q b bs dC dI cA m M pc1 L1 S1 M1) : W p l e R s mI args below meth c H locs cells slots Q (F0 mI pc ls (S.map (tm_rl b bs))) := by
  obtain ⟨hx, hb, hml, hown, hts, hret, hlk, hnm, hK, hN, hAO, hF, hNl, hX, hbb, hbs⟩ := C
  simp only [tm_stp] at h
  split at h
  · rename_i e1
    subst e1
    split at h
    · rename_i o S2 z hlk2
      split at h
      · rename_i hq
        obtain ⟨hw, hf1, hn1⟩ := hq
        cases h
        have k0 := k H locs ls hl hr hS
        simp only [Nat.sub_self, Nat.add_zero] at k0
        have hro := lv_room (m := mI) (pc := pc) (ls := ls) (rest := Value.ref (bs + o) :: S1.map (tm_rl b bs)) (st := S1.map (tm_rl b bs)) (by rw [tm_rl_wt]; exact hw)
        exact W.objInit hx hb hown (hts _ (tm_ml_ok2 hlk2)) (hts _ tm_oii) (hts _ tm_oic) rfl (by rw [hml]; exact hl.1) rfl hd (by omega) (by show 2 * (F0 mI pc ls (Value.ref (bs + o) :: S1.map (tm_rl b bs))).monitorRoom + _ + 12 ≤ _; omega) k0
      · cases h
    · cases h
  · cases h
theorem ts_invokestatic {k1 : Nat} (hd : decode (mB m) pc = .ok (.invokestatic k1, len)) (h : tm_stp X m (.invokestatic k1) len pc L S M = some (pc1, L1, S1, M1)) (C : tm_Cx b bs dC dI cA X p R s mI args meth c m) (hl : tm_lv b bs ls (mL m) L) (hr : tm_Rep bs dC dI cA M H) (hS : va_S (fun q => bs ≤ q) s.heap H locs) (hc : s.heap.size + cells = bs + M.1.1) (hrc : cells + (M1.1.1 - M.1.1) ≤ R.cells) (hrs : slots + (M1.1.2.1 - M.1.2.1) ≤ R.slots) (k : tm_KK p l e R s mI args below meth c cells slots Q b bs dC dI cA m M pc1 L1 S1 M1) : W p l e R s mI args below meth c H locs cells slots Q (F0 mI pc ls (S.map (tm_rl b bs))) := by
  obtain ⟨hx, hb, hml, hown, hts, hret, hlk, hnm, hK, hN, hAO, hF, hNl, hX, hbb, hbs⟩ := C
  simp only [tm_stp] at h
  split at h
  · rename_i e1
    subst e1
    split at h
    · rename_i n dp a sp a0 S2 z hlk2
      split at h
      · rename_i hq
        obtain ⟨hw, hf1, hn1, ha, ha0, hke, hk, h1, h2, h3, h4, h5⟩ := hq
        cases h
        have hw2 := tm_rl_wt b bs S1
        have hnw : nativeFrameWords "java/lang/System" "arraycopy" 5 = 7 := by decide
        have hg := tm_ws_get (bs := bs) (cA := cA) ha
        have hg0 := tm_ws_get (bs := bs) (cA := cA) ha0
        have hE : ∀ q, q ≠ a → (va_up M.2.1 a (va_cpy (M.2.1 a0) (M.2.1 a) sp.toNatClampNeg dp.toNatClampNeg n.toNatClampNeg)) q = M.2.1 q ∧ M.2.2.1 q = M.2.2.1 q ∧ M.2.2.2 q = M.2.2.2 q := fun q hq => ⟨by simp [va_up, hq], rfl, rfl⟩
        have hfit : tm_Fit (M.1, va_up M.2.1 a (va_cpy (M.2.1 a0) (M.2.1 a) sp.toNatClampNeg dp.toNatClampNeg n.toNatClampNeg), M.2.2.1, M.2.2.2) := by
          intro q hq hkq j
          dsimp only at hq hkq ⊢
          by_cases e : q = a
          · subst e
            simp only [va_up, if_pos, va_cpy]
            split
            · exact hr.2 a0 ha0 (by rw [← hke]; exact hkq) _
            · exact hr.2 q hq hkq _
          · simp only [va_up, if_neg e]
            exact hr.2 q hq hkq j
        rcases hk with hk | hk
        · rw [tm_cell_i (Or.inl hk), hk] at hg0
          rw [tm_cell_i (Or.inl (hke.trans hk)), hke, hk] at hg
          have hws := tm_ws_set (bs := bs) (cA := cA) (M := M) (M' := (M.1, va_up M.2.1 a (va_cpy (M.2.1 a0) (M.2.1 a) sp.toNatClampNeg dp.toNatClampNeg n.toNatClampNeg), M.2.2.1, M.2.2.2)) (o := a) (e := .inl (cA 100, (M.1.2.2 a).2, .inl (va_cpy (M.2.1 a0) (M.2.1 a) sp.toNatClampNeg dp.toNatClampNeg n.toNatClampNeg))) rfl (by dsimp only; rw [tm_cell_i (Or.inl (hke.trans hk)), hke, hk]; simp [va_up]) hE
          refine va_copyi hx hb (by rw [hml]; exact hl.1.symm) hown (hts _ (tm_ml_ok3 hlk2)) (hts _ tm_acn) (hts _ tm_acs) (hts _ tm_aci) hK hr.1 tm_wsD hS a0 a 0 0 hg0 hg (ty := .int) rfl rfl rfl h1 h2 h3 h4 h5 (fun i _ => rfl) (by omega) (by rw [hw2, hnw]; omega) hd (fun H1 locs1 hP1 _ hS1 => ?_)
          rw [hws] at hP1
          have k0 := k H1 locs1 ls hl ⟨hP1, hfit⟩ hS1
          simp only [Nat.sub_self, Nat.add_zero] at k0
          exact k0
        · rw [tm_cell_i (Or.inr (Or.inl hk)), hk] at hg0
          rw [tm_cell_i (Or.inr (Or.inl (hke.trans hk))), hke, hk] at hg
          have hws := tm_ws_set (bs := bs) (cA := cA) (M := M) (M' := (M.1, va_up M.2.1 a (va_cpy (M.2.1 a0) (M.2.1 a) sp.toNatClampNeg dp.toNatClampNeg n.toNatClampNeg), M.2.2.1, M.2.2.2)) (o := a) (e := .inl (cA 101, (M.1.2.2 a).2, .inl (va_cpy (M.2.1 a0) (M.2.1 a) sp.toNatClampNeg dp.toNatClampNeg n.toNatClampNeg))) rfl (by dsimp only; rw [tm_cell_i (Or.inr (Or.inl (hke.trans hk))), hke, hk]; simp [va_up]) hE
          refine va_copyi hx hb (by rw [hml]; exact hl.1.symm) hown (hts _ (tm_ml_ok3 hlk2)) (hts _ tm_acn) (hts _ tm_acs) (hts _ tm_aci) hK hr.1 tm_wsD hS a0 a 1 1 hg0 hg (ty := .byte) rfl rfl rfl h1 h2 h3 h4 h5 (fun i _ => hr.2 a0 ha0 hk _) (by omega) (by rw [hw2, hnw]; omega) hd (fun H1 locs1 hP1 _ hS1 => ?_)
          rw [hws] at hP1
          have k0 := k H1 locs1 ls hl ⟨hP1, hfit⟩ hS1
          simp only [Nat.sub_self, Nat.add_zero] at k0
          exact k0
      · cases h
    · rename_i y x S2 z hlk2
      split at h
      · rename_i hq
        obtain ⟨hw, hf1, hn1⟩ := hq
        cases h
        have k0 := k H locs ls hl hr hS
        simp only [Nat.sub_self, Nat.add_zero] at k0 hrc hrs
        have hw2 := tm_rl_wt b bs S2
        exact va_mmin hx hb (by rw [hml]; exact hl.1.symm) hown (hts _ (tm_ml_ok4 hlk2)) (hts _ tm_mins) (hts _ tm_mini) (hts _ tm_minc) (by omega) (by rw [hw2]; omega) hrc hrs hd k0
      · cases h
    · rename_i y x S2 z hlk2
      split at h
      · rename_i hq
        obtain ⟨hw, hf1, hn1⟩ := hq
        cases h
        have k0 := k H locs ls hl hr hS
        simp only [Nat.sub_self, Nat.add_zero] at k0 hrc hrs
        have hw2 := tm_rl_wt b bs S2
        exact va_mmax hx hb (by rw [hml]; exact hl.1.symm) hown (hts _ (tm_ml_ok5 hlk2)) (hts _ tm_maxs) (hts _ tm_mini) (hts _ tm_maxc) (by omega) (by rw [hw2]; omega) hrc hrs hd k0
      · cases h
    · cases h
  · cases h
theorem tm_step {i : Instr} (hd : decode (mB m) pc = .ok (i, len)) (h : tm_stp X m (i) len pc L S M = some (pc1, L1, S1, M1)) (C : tm_Cx b bs dC dI cA X p R s mI args meth c m) (hl : tm_lv b bs ls (mL m) L) (hr : tm_Rep bs dC dI cA M H) (hS : va_S (fun q => bs ≤ q) s.heap H locs) (hc : s.heap.size + cells = bs + M.1.1) (hrc : cells + (M1.1.1 - M.1.1) ≤ R.cells) (hrs : slots + (M1.1.2.1 - M.1.2.1) ≤ R.slots) (k : tm_KK p l e R s mI args below meth c cells slots Q b bs dC dI cA m M pc1 L1 S1 M1) : W p l e R s mI args below meth c H locs cells slots Q (F0 mI pc ls (S.map (tm_rl b bs))) := by
  cases i
  case iconst n => exact ts_iconst hd h C hl hr hS hc hrc hrs k
  case bipush n => exact ts_bipush hd h C hl hr hS hc hrc hrs k
  case sipush n => exact ts_sipush hd h C hl hr hS hc hrc hrs k
  case lconst n => exact ts_lconst hd h C hl hr hS hc hrc hrs k
  case aconst_null  => exact ts_aconst_null hd h C hl hr hS hc hrc hrs k
  case ldc k1 => exact ts_ldc hd h C hl hr hS hc hrc hrs k
  case ldc2_w k1 => exact ts_ldc2_w hd h C hl hr hS hc hrc hrs k
  case iload_n k1 => exact ts_iload_n hd h C hl hr hS hc hrc hrs k
  case iload k1 => exact ts_iload hd h C hl hr hS hc hrc hrs k
  case lload_n k1 => exact ts_lload_n hd h C hl hr hS hc hrc hrs k
  case lload k1 => exact ts_lload hd h C hl hr hS hc hrc hrs k
  case aload_n k1 => exact ts_aload_n hd h C hl hr hS hc hrc hrs k
  case aload k1 => exact ts_aload hd h C hl hr hS hc hrc hrs k
  case istore_n k1 => exact ts_istore_n hd h C hl hr hS hc hrc hrs k
  case istore k1 => exact ts_istore hd h C hl hr hS hc hrc hrs k
  case lstore_n k1 => exact ts_lstore_n hd h C hl hr hS hc hrc hrs k
  case lstore k1 => exact ts_lstore hd h C hl hr hS hc hrc hrs k
  case astore_n k1 => exact ts_astore_n hd h C hl hr hS hc hrc hrs k
  case astore k1 => exact ts_astore hd h C hl hr hS hc hrc hrs k
  case iinc k1 n => exact ts_iinc hd h C hl hr hS hc hrc hrs k
  case iadd  => exact ts_iadd hd h C hl hr hS hc hrc hrs k
  case isub  => exact ts_isub hd h C hl hr hS hc hrc hrs k
  case imul  => exact ts_imul hd h C hl hr hS hc hrc hrs k
  case iand  => exact ts_iand hd h C hl hr hS hc hrc hrs k
  case ior  => exact ts_ior hd h C hl hr hS hc hrc hrs k
  case ishl  => exact ts_ishl hd h C hl hr hS hc hrc hrs k
  case ishr  => exact ts_ishr hd h C hl hr hS hc hrc hrs k
  case land  => exact ts_land hd h C hl hr hS hc hrc hrs k
  case lor  => exact ts_lor hd h C hl hr hS hc hrc hrs k
  case iushr  => exact ts_iushr hd h C hl hr hS hc hrc hrs k
  case lushr  => exact ts_lushr hd h C hl hr hS hc hrc hrs k
  case lshl  => exact ts_lshl hd h C hl hr hS hc hrc hrs k
  case i2l  => exact ts_i2l hd h C hl hr hS hc hrc hrs k
  case l2i  => exact ts_l2i hd h C hl hr hS hc hrc hrs k
  case i2b  => exact ts_i2b hd h C hl hr hS hc hrc hrs k
  case lcmp  => exact ts_lcmp hd h C hl hr hS hc hrc hrs k
  case idiv  => exact ts_idiv hd h C hl hr hS hc hrc hrs k
  case irem  => exact ts_irem hd h C hl hr hS hc hrc hrs k
  case dup  => exact ts_dup hd h C hl hr hS hc hrc hrs k
  case pop  => exact ts_pop hd h C hl hr hS hc hrc hrs k
  case dup_x1  => exact ts_dup_x1 hd h C hl hr hS hc hrc hrs k
  case dup_x2  => exact ts_dup_x2 hd h C hl hr hS hc hrc hrs k
  case dup2  => exact ts_dup2 hd h C hl hr hS hc hrc hrs k
  case ifCond cc1 off => exact ts_ifCond hd h C hl hr hS hc hrc hrs k
  case if_icmp cc1 off => exact ts_if_icmp hd h C hl hr hS hc hrc hrs k
  case goto off => exact ts_goto hd h C hl hr hS hc hrc hrs k
  case ifnull off => exact ts_ifnull hd h C hl hr hS hc hrc hrs k
  case ifnonnull off => exact ts_ifnonnull hd h C hl hr hS hc hrc hrs k
  case tableswitch d lo hi offs => exact ts_tableswitch hd h C hl hr hS hc hrc hrs k
  case lookupswitch d ps => exact ts_lookupswitch hd h C hl hr hS hc hrc hrs k
  case getfield k1 => exact ts_getfield hd h C hl hr hS hc hrc hrs k
  case putfield k1 => exact ts_putfield hd h C hl hr hS hc hrc hrs k
  case iaload  => exact ts_iaload hd h C hl hr hS hc hrc hrs k
  case baload  => exact ts_baload hd h C hl hr hS hc hrc hrs k
  case laload  => exact ts_laload hd h C hl hr hS hc hrc hrs k
  case aaload  => exact ts_aaload hd h C hl hr hS hc hrc hrs k
  case iastore  => exact ts_iastore hd h C hl hr hS hc hrc hrs k
  case lastore  => exact ts_lastore hd h C hl hr hS hc hrc hrs k
  case bastore  => exact ts_bastore hd h C hl hr hS hc hrc hrs k
  case aastore  => exact ts_aastore hd h C hl hr hS hc hrc hrs k
  case arraylength  => exact ts_arraylength hd h C hl hr hS hc hrc hrs k
  case newarray at1 => exact ts_newarray hd h C hl hr hS hc hrc hrs k
  case anewarray k1 => exact ts_anewarray hd h C hl hr hS hc hrc hrs k
  case new k1 => exact ts_new hd h C hl hr hS hc hrc hrs k
  case invokespecial k1 => exact ts_invokespecial hd h C hl hr hS hc hrc hrs k
  case invokestatic k1 => exact ts_invokestatic hd h C hl hr hS hc hrc hrs k
  all_goals (simp only [tm_stp] at h; cases h)
end TMS
